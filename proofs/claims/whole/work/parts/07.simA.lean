/-! an operation simulates an instruction -/
def am_Cx (G : am_G) (own : String) (bytes : ByteArray) (maxL : Nat) (ret : Option FieldType) (p : Program) (s : State) (m : MethodId) (args : Array Value) (meth : Method) (c : Code) : Prop :=
  p.tables.exec = Jvm.exec ∧ c.code = bytes ∧ c.maxLocals = maxL ∧ meth.sig.returnType = ret ∧ meth.locks = false ∧ s.vm.findClass own = some m.cls ∧ (∀ w ∈ lw_g, w.before args s = true) ∧ va_K G.1 am_cl (am_tys G) s ∧ am_inj G
def am_out (al : Nat → Nat) (ret : Option FieldType) (r : am_V) (o : Outcome) : Prop := match ret with
  | none => o = .returned none
  | some _ => ∃ v, o = .returned (some v) ∧ am_rv al r v
def am_Qc (G : am_G) (ret : Option FieldType) (q : am_Q) : Array Value → State → Outcome → State → Prop := fun _ st o t =>
  (∃ r M', q r M' ∧ am_out G.2.1 ret r o ∧ am_W G M' t.heap ∧ va_K G.1 am_cl (am_tys G) t) ∧ va_F (am_A G) st t
def am_Rel (G : am_G) (maxL : Nat) (H0 : Heap) (M : am_M) (als ast : List am_V) (H : Heap) (locs : List Loc) (ls : Array Slot) (st : List Value) : Prop :=
  am_W G M H ∧ va_S (am_A G) H0 H locs ∧ am_lr G.2.1 maxL als ls ∧ am_rvs G.2.1 ast st
def am_Go (G : am_G) (maxL : Nat) (ret : Option FieldType) (p : Program) (l : Launch) (e : Env) (R : Room) (s : State) (m : MethodId) (args : Array Value) (below : List Frame) (meth : Method) (c : Code) (q : am_Q) (pc : Nat) (als ast : List am_V) (M : am_M) : Prop :=
  ∀ (H : Heap) (locs : List Loc) (ls : Array Slot) (st : List Value), am_Rel G maxL s.heap M als ast H locs ls st → W p l e R s m args below meth c H locs 0 0 (MQ below (am_Qc G ret q) args s 0 0 (am_A G)) (F0 m pc ls st)
def am_Sim (own : String) (bytes : ByteArray) (maxL : Nat) (ret : Option FieldType) (R : Room) (pc : Nat) (op : am_O) : Prop :=
  ∀ (p : Program) (l : Launch) (e : Env) (s : State) (m : MethodId) (args : Array Value) (below : List Frame) (meth : Method) (c : Code) (G : am_G) (X : am_K) (q : am_Q),
    am_Cx G own bytes maxL ret p s m args meth c → (∀ pc als ast M, X pc als ast M → am_Go G maxL ret p l e R s m args below meth c q pc als ast M) → ∀ als ast M, op als ast M X q → am_Go G maxL ret p l e R s m args below meth c q pc als ast M
section SIM
variable {own : String} {bytes : ByteArray} {maxL : Nat} {ret : Option FieldType} {R : Room} {pc : Nat}

theorem k_ic {n : Int} (h : decide (-128 ≤ n ∧ n ≤ 127) = true) : (Int32.ofInt n).toInt = n := by
  have := of_decide_eq_true h
  exact Int32.toInt_ofInt_of_le (by omega) (by omega)
theorem k_bi {n : Int} (h : decide (-128 ≤ n ∧ n ≤ 127) = true) : ((Int8.ofInt n).toInt32).toInt = n := by
  have := of_decide_eq_true h
  rw [Int8.toInt_toInt32]
  exact Int8.toInt_ofInt_of_le (by omega) (by omega)
theorem k_si {n : Int} (h : decide (-32768 ≤ n ∧ n ≤ 32767) = true) : ((Int16.ofInt n).toInt32).toInt = n := by
  have := of_decide_eq_true h
  rw [Int16.toInt_toInt32]
  exact Int16.toInt_ofInt_of_le (by omega) (by omega)

theorem si_iconst {n : Int} (hd : decode bytes pc = .ok (.iconst n, 1)) (hn : decide (-128 ≤ n ∧ n ≤ 127) = true) : am_Sim own bytes maxL ret R pc (o_push (aI n) (pc + 1)) := by
  intro p l e s m args below meth c G X q C hX als ast M ho H locs ls st hr
  obtain ⟨hx, hb, hml, hret, hlk, hown, hts, hK, hinj⟩ := C
  obtain ⟨hW, hS, hl, hst⟩ := hr
  exact lv_iconst hx hb hd rfl (hX _ _ _ _ ho _ _ _ _ ⟨hW, hS, hl, k_ic hn, hst⟩)
theorem si_bipush {n : Int} (hd : decode bytes pc = .ok (.bipush n, 2)) (hn : decide (-128 ≤ n ∧ n ≤ 127) = true) : am_Sim own bytes maxL ret R pc (o_push (aI n) (pc + 2)) := by
  intro p l e s m args below meth c G X q C hX als ast M ho H locs ls st hr
  obtain ⟨hx, hb, hml, hret, hlk, hown, hts, hK, hinj⟩ := C
  obtain ⟨hW, hS, hl, hst⟩ := hr
  exact lv_bipush hx hb hd rfl (hX _ _ _ _ ho _ _ _ _ ⟨hW, hS, hl, k_bi hn, hst⟩)
theorem si_sipush {n : Int} (hd : decode bytes pc = .ok (.sipush n, 3)) (hn : decide (-32768 ≤ n ∧ n ≤ 32767) = true) : am_Sim own bytes maxL ret R pc (o_push (aI n) (pc + 3)) := by
  intro p l e s m args below meth c G X q C hX als ast M ho H locs ls st hr
  obtain ⟨hx, hb, hml, hret, hlk, hown, hts, hK, hinj⟩ := C
  obtain ⟨hW, hS, hl, hst⟩ := hr
  exact lv_sipush hx hb hd rfl (hX _ _ _ _ ho _ _ _ _ ⟨hW, hS, hl, k_si hn, hst⟩)
theorem si_lconst0 (hd : decode bytes pc = .ok (.lconst 0, 1)) : am_Sim own bytes maxL ret R pc (o_push (aL 0) (pc + 1)) := by
  intro p l e s m args below meth c G X q C hX als ast M ho H locs ls st hr
  obtain ⟨hx, hb, hml, hret, hlk, hown, hts, hK, hinj⟩ := C
  obtain ⟨hW, hS, hl, hst⟩ := hr
  exact lv_lconst hx hb hd rfl (hX _ _ _ _ ho _ _ _ _ ⟨hW, hS, hl, rfl, hst⟩)
theorem si_lconst1 (hd : decode bytes pc = .ok (.lconst 1, 1)) : am_Sim own bytes maxL ret R pc (o_push (aL 1) (pc + 1)) := by
  intro p l e s m args below meth c G X q C hX als ast M ho H locs ls st hr
  obtain ⟨hx, hb, hml, hret, hlk, hown, hts, hK, hinj⟩ := C
  obtain ⟨hW, hS, hl, hst⟩ := hr
  exact lv_lconst hx hb hd rfl (hX _ _ _ _ ho _ _ _ _ ⟨hW, hS, hl, rfl, hst⟩)
theorem si_null (hd : decode bytes pc = .ok (.aconst_null, 1)) : am_Sim own bytes maxL ret R pc (o_push aN (pc + 1)) := by
  intro p l e s m args below meth c G X q C hX als ast M ho H locs ls st hr
  obtain ⟨hx, hb, hml, hret, hlk, hown, hts, hK, hinj⟩ := C
  obtain ⟨hW, hS, hl, hst⟩ := hr
  exact lv_null hx hb hd (hX _ _ _ _ ho _ _ _ _ ⟨hW, hS, hl, trivial, hst⟩)
theorem si_ldc {i : Nat} {v : Int32} {n : Int} (hd : decode bytes pc = .ok (.ldc i, 2)) (hc : Cond.constant own i v ∈ lw_g) (hn : v.toInt = n) : am_Sim own bytes maxL ret R pc (o_push (aI n) (pc + 2)) := by
  intro p l e s m args below meth c G X q C hX als ast M ho H locs ls st hr
  obtain ⟨hx, hb, hml, hret, hlk, hown, hts, hK, hinj⟩ := C
  obtain ⟨hW, hS, hl, hst⟩ := hr
  exact lv_ldc hx hb hown (hts _ hc) hd (hX _ _ _ _ ho _ _ _ _ ⟨hW, hS, hl, hn, hst⟩)
theorem si_ldcw {i : Nat} {v : Int32} {n : Int} (hd : decode bytes pc = .ok (.ldc_w i, 3)) (hc : Cond.constant own i v ∈ lw_g) (hn : v.toInt = n) : am_Sim own bytes maxL ret R pc (o_push (aI n) (pc + 3)) := by
  intro p l e s m args below meth c G X q C hX als ast M ho H locs ls st hr
  obtain ⟨hx, hb, hml, hret, hlk, hown, hts, hK, hinj⟩ := C
  obtain ⟨hW, hS, hl, hst⟩ := hr
  exact lv_ldcw hx hb hown (hts _ hc) hd (hX _ _ _ _ ho _ _ _ _ ⟨hW, hS, hl, hn, hst⟩)
theorem si_ldc2 {i : Nat} {v : Int64} {n : Int} (hd : decode bytes pc = .ok (.ldc2_w i, 3)) (hc : Cond.constantLong own i v ∈ lw_g) (hn : v.toInt = n) : am_Sim own bytes maxL ret R pc (o_push (aL n) (pc + 3)) := by
  intro p l e s m args below meth c G X q C hX als ast M ho H locs ls st hr
  obtain ⟨hx, hb, hml, hret, hlk, hown, hts, hK, hinj⟩ := C
  obtain ⟨hW, hS, hl, hst⟩ := hr
  exact lv_ldc2 hx hb hown (hts _ hc) hd (hX _ _ _ _ ho _ _ _ _ ⟨hW, hS, hl, hn, hst⟩)
theorem si_iloadn {k : Fin 4} {i : Nat} (hd : decode bytes pc = .ok (.iload_n k, 1)) (hi : (k : Nat) = i) : am_Sim own bytes maxL ret R pc (o_iload i (pc + 1)) := by
  intro p l e s m args below meth c G X q C hX als ast M ho H locs ls st hr
  obtain ⟨hx, hb, hml, hret, hlk, hown, hts, hK, hinj⟩ := C
  obtain ⟨hW, hS, hl, hst⟩ := hr
  unfold o_iload at ho
  split at ho
  next x hx1 =>
    rcases hl.2.2 i _ hx1 with h0 | ⟨v, h1, h2⟩
    · cases h0
    · obtain ⟨y, rfl, rfl⟩ := rv_i h2
      exact lv_iload_n hx hb hd hi h1 (hX _ _ _ _ ho _ _ _ _ ⟨hW, hS, hl, rfl, hst⟩)
  next => exact ho.elim
theorem si_iload {i : Nat} (hd : decode bytes pc = .ok (.iload i, 2)) : am_Sim own bytes maxL ret R pc (o_iload i (pc + 2)) := by
  intro p l e s m args below meth c G X q C hX als ast M ho H locs ls st hr
  obtain ⟨hx, hb, hml, hret, hlk, hown, hts, hK, hinj⟩ := C
  obtain ⟨hW, hS, hl, hst⟩ := hr
  unfold o_iload at ho
  split at ho
  next x hx1 =>
    rcases hl.2.2 i _ hx1 with h0 | ⟨v, h1, h2⟩
    · cases h0
    · obtain ⟨y, rfl, rfl⟩ := rv_i h2
      exact lv_iload hx hb hd h1 (hX _ _ _ _ ho _ _ _ _ ⟨hW, hS, hl, rfl, hst⟩)
  next => exact ho.elim
theorem si_lloadn {k : Fin 4} {i : Nat} (hd : decode bytes pc = .ok (.lload_n k, 1)) (hi : (k : Nat) = i) : am_Sim own bytes maxL ret R pc (o_lload i (pc + 1)) := by
  intro p l e s m args below meth c G X q C hX als ast M ho H locs ls st hr
  obtain ⟨hx, hb, hml, hret, hlk, hown, hts, hK, hinj⟩ := C
  obtain ⟨hW, hS, hl, hst⟩ := hr
  unfold o_lload at ho
  split at ho
  next x hx1 =>
    rcases hl.2.2 i _ hx1 with h0 | ⟨v, h1, h2⟩
    · cases h0
    · obtain ⟨y, rfl, rfl⟩ := rv_l h2
      exact lv_lload_n hx hb hd hi h1 (hX _ _ _ _ ho _ _ _ _ ⟨hW, hS, hl, rfl, hst⟩)
  next => exact ho.elim
theorem si_lload {i : Nat} (hd : decode bytes pc = .ok (.lload i, 2)) : am_Sim own bytes maxL ret R pc (o_lload i (pc + 2)) := by
  intro p l e s m args below meth c G X q C hX als ast M ho H locs ls st hr
  obtain ⟨hx, hb, hml, hret, hlk, hown, hts, hK, hinj⟩ := C
  obtain ⟨hW, hS, hl, hst⟩ := hr
  unfold o_lload at ho
  split at ho
  next x hx1 =>
    rcases hl.2.2 i _ hx1 with h0 | ⟨v, h1, h2⟩
    · cases h0
    · obtain ⟨y, rfl, rfl⟩ := rv_l h2
      exact lv_lload hx hb hd h1 (hX _ _ _ _ ho _ _ _ _ ⟨hW, hS, hl, rfl, hst⟩)
  next => exact ho.elim
theorem si_aloadn {k : Fin 4} {i : Nat} (hd : decode bytes pc = .ok (.aload_n k, 1)) (hi : (k : Nat) = i) : am_Sim own bytes maxL ret R pc (o_aload i (pc + 1)) := by
  intro p l e s m args below meth c G X q C hX als ast M ho H locs ls st hr
  obtain ⟨hx, hb, hml, hret, hlk, hown, hts, hK, hinj⟩ := C
  obtain ⟨hW, hS, hl, hst⟩ := hr
  unfold o_aload at ho
  split at ho
  next x hx1 =>
    rcases hl.2.2 i _ hx1 with h0 | ⟨v, h1, h2⟩
    · cases h0
    · cases x with
      | zero =>
        obtain rfl := rv_n h2
        exact lv_aload_nN hx hb hd hi h1 (hX _ _ _ _ ho _ _ _ _ ⟨hW, hS, hl, trivial, hst⟩)
      | succ x =>
        obtain rfl := rv_r h2
        exact lv_aload_n hx hb hd hi h1 (hX _ _ _ _ ho _ _ _ _ ⟨hW, hS, hl, rfl, hst⟩)
  next => exact ho.elim
theorem si_aload {i : Nat} (hd : decode bytes pc = .ok (.aload i, 2)) : am_Sim own bytes maxL ret R pc (o_aload i (pc + 2)) := by
  intro p l e s m args below meth c G X q C hX als ast M ho H locs ls st hr
  obtain ⟨hx, hb, hml, hret, hlk, hown, hts, hK, hinj⟩ := C
  obtain ⟨hW, hS, hl, hst⟩ := hr
  unfold o_aload at ho
  split at ho
  next x hx1 =>
    rcases hl.2.2 i _ hx1 with h0 | ⟨v, h1, h2⟩
    · cases h0
    · cases x with
      | zero =>
        obtain rfl := rv_n h2
        exact lv_aloadN hx hb hd h1 (hX _ _ _ _ ho _ _ _ _ ⟨hW, hS, hl, trivial, hst⟩)
      | succ x =>
        obtain rfl := rv_r h2
        exact lv_aload hx hb hd h1 (hX _ _ _ _ ho _ _ _ _ ⟨hW, hS, hl, rfl, hst⟩)
  next => exact ho.elim
theorem si_istoren {k : Fin 4} {i : Nat} (hd : decode bytes pc = .ok (.istore_n k, 1)) (hi : (k : Nat) = i) (hn : Nat.ble (i + 1) maxL = true) : am_Sim own bytes maxL ret R pc (o_istore i (pc + 1)) := by
  intro p l e s m args below meth c G X q C hX als ast M ho H locs ls st hr
  obtain ⟨hx, hb, hml, hret, hlk, hown, hts, hK, hinj⟩ := C
  obtain ⟨hW, hS, hl, hst⟩ := hr
  unfold o_istore at ho
  split at ho
  next x st0 =>
    obtain ⟨v, vs, rfl, h1, h2⟩ := rvs_c hst
    obtain ⟨y, rfl, rfl⟩ := rv_i h1
    exact lv_istore_n hx hb hd hi (lvs_has hl.1 hl.2.1) (Nat.le_of_ble_eq_true hn) rfl (fun ls' h' => hX _ _ _ _ ho _ _ _ _ ⟨hW, hS, lr_st1 (w := .int y) hl rfl h', h2⟩)
  next => exact ho.elim
theorem si_istore {i : Nat} (hd : decode bytes pc = .ok (.istore i, 2)) (hn : Nat.ble (i + 1) maxL = true) : am_Sim own bytes maxL ret R pc (o_istore i (pc + 2)) := by
  intro p l e s m args below meth c G X q C hX als ast M ho H locs ls st hr
  obtain ⟨hx, hb, hml, hret, hlk, hown, hts, hK, hinj⟩ := C
  obtain ⟨hW, hS, hl, hst⟩ := hr
  unfold o_istore at ho
  split at ho
  next x st0 =>
    obtain ⟨v, vs, rfl, h1, h2⟩ := rvs_c hst
    obtain ⟨y, rfl, rfl⟩ := rv_i h1
    exact lv_istore hx hb hd (lvs_has hl.1 hl.2.1) (Nat.le_of_ble_eq_true hn) rfl (fun ls' h' => hX _ _ _ _ ho _ _ _ _ ⟨hW, hS, lr_st1 (w := .int y) hl rfl h', h2⟩)
  next => exact ho.elim
theorem si_lstoren {k : Fin 4} {i : Nat} (hd : decode bytes pc = .ok (.lstore_n k, 1)) (hi : (k : Nat) = i) (hn : Nat.ble (i + 2) maxL = true) : am_Sim own bytes maxL ret R pc (o_lstore i (pc + 1)) := by
  intro p l e s m args below meth c G X q C hX als ast M ho H locs ls st hr
  obtain ⟨hx, hb, hml, hret, hlk, hown, hts, hK, hinj⟩ := C
  obtain ⟨hW, hS, hl, hst⟩ := hr
  unfold o_lstore at ho
  split at ho
  next x st0 =>
    obtain ⟨v, vs, rfl, h1, h2⟩ := rvs_c hst
    obtain ⟨y, rfl, rfl⟩ := rv_l h1
    exact lv_lstore_n hx hb hd hi (lvs_has hl.1 hl.2.1) (Nat.le_of_ble_eq_true hn) rfl (fun ls' h' => hX _ _ _ _ ho _ _ _ _ ⟨hW, hS, lr_st2 (w := .long y) hl rfl h', h2⟩)
  next => exact ho.elim
theorem si_lstore {i : Nat} (hd : decode bytes pc = .ok (.lstore i, 2)) (hn : Nat.ble (i + 2) maxL = true) : am_Sim own bytes maxL ret R pc (o_lstore i (pc + 2)) := by
  intro p l e s m args below meth c G X q C hX als ast M ho H locs ls st hr
  obtain ⟨hx, hb, hml, hret, hlk, hown, hts, hK, hinj⟩ := C
  obtain ⟨hW, hS, hl, hst⟩ := hr
  unfold o_lstore at ho
  split at ho
  next x st0 =>
    obtain ⟨v, vs, rfl, h1, h2⟩ := rvs_c hst
    obtain ⟨y, rfl, rfl⟩ := rv_l h1
    exact lv_lstore hx hb hd (lvs_has hl.1 hl.2.1) (Nat.le_of_ble_eq_true hn) rfl (fun ls' h' => hX _ _ _ _ ho _ _ _ _ ⟨hW, hS, lr_st2 (w := .long y) hl rfl h', h2⟩)
  next => exact ho.elim
theorem si_astoren {k : Fin 4} {i : Nat} (hd : decode bytes pc = .ok (.astore_n k, 1)) (hi : (k : Nat) = i) (hn : Nat.ble (i + 1) maxL = true) : am_Sim own bytes maxL ret R pc (o_astore i (pc + 1)) := by
  intro p l e s m args below meth c G X q C hX als ast M ho H locs ls st hr
  obtain ⟨hx, hb, hml, hret, hlk, hown, hts, hK, hinj⟩ := C
  obtain ⟨hW, hS, hl, hst⟩ := hr
  unfold o_astore at ho
  split at ho
  next x st0 =>
    obtain ⟨v, vs, rfl, h1, h2⟩ := rvs_c hst
    cases x with
    | zero =>
      obtain rfl := rv_n h1
      exact lv_astore_nN hx hb hd hi (lvs_has hl.1 hl.2.1) (Nat.le_of_ble_eq_true hn) rfl (fun ls' h' => hX _ _ _ _ ho _ _ _ _ ⟨hW, hS, lr_st1 (w := .null) hl trivial h', h2⟩)
    | succ x =>
      obtain rfl := rv_r h1
      exact lv_astore_n hx hb hd hi (lvs_has hl.1 hl.2.1) (Nat.le_of_ble_eq_true hn) rfl (fun ls' h' => hX _ _ _ _ ho _ _ _ _ ⟨hW, hS, lr_st1 (w := .ref (G.2.1 x)) hl rfl h', h2⟩)
  next => exact ho.elim
theorem si_astore {i : Nat} (hd : decode bytes pc = .ok (.astore i, 2)) (hn : Nat.ble (i + 1) maxL = true) : am_Sim own bytes maxL ret R pc (o_astore i (pc + 2)) := by
  intro p l e s m args below meth c G X q C hX als ast M ho H locs ls st hr
  obtain ⟨hx, hb, hml, hret, hlk, hown, hts, hK, hinj⟩ := C
  obtain ⟨hW, hS, hl, hst⟩ := hr
  unfold o_astore at ho
  split at ho
  next x st0 =>
    obtain ⟨v, vs, rfl, h1, h2⟩ := rvs_c hst
    cases x with
    | zero =>
      obtain rfl := rv_n h1
      exact lv_astoreN hx hb hd (lvs_has hl.1 hl.2.1) (Nat.le_of_ble_eq_true hn) rfl (fun ls' h' => hX _ _ _ _ ho _ _ _ _ ⟨hW, hS, lr_st1 (w := .null) hl trivial h', h2⟩)
    | succ x =>
      obtain rfl := rv_r h1
      exact lv_astore hx hb hd (lvs_has hl.1 hl.2.1) (Nat.le_of_ble_eq_true hn) rfl (fun ls' h' => hX _ _ _ _ ho _ _ _ _ ⟨hW, hS, lr_st1 (w := .ref (G.2.1 x)) hl rfl h', h2⟩)
  next => exact ho.elim
theorem si_iinc {i : Nat} {n : Int} (hd : decode bytes pc = .ok (.iinc i n, 3)) (hn : Nat.ble (i + 1) maxL = true) (hc : decide (-128 ≤ n ∧ n ≤ 127) = true) : am_Sim own bytes maxL ret R pc (o_iinc i n (pc + 3)) := by
  intro p l e s m args below meth c G X q C hX als ast M ho H locs ls st hr
  obtain ⟨hx, hb, hml, hret, hlk, hown, hts, hK, hinj⟩ := C
  obtain ⟨hW, hS, hl, hst⟩ := hr
  unfold o_iinc at ho
  split at ho
  next x hx1 =>
    rcases hl.2.2 i _ hx1 with h0 | ⟨v, h1, h2⟩
    · cases h0
    · obtain ⟨y, rfl, rfl⟩ := rv_i h2
      obtain ⟨k, hk⟩ := List.getElem?_of_mem (lvs_in h1)
      exact lv_iinc hx hb hd (lvs_has hl.1 hl.2.1) hk rfl (Nat.le_of_ble_eq_true hn) rfl (fun ls' h' => hX _ _ _ _ ho _ _ _ _ ⟨hW, hS, lr_st1 (w := .int (y + Int32.ofInt n)) hl (show (y + Int32.ofInt n).toInt = _ by rw [n_add, k_ic hc]) h', hst⟩)
  next => exact ho.elim
theorem si_iadd (hd : decode bytes pc = .ok (.iadd, 1)) : am_Sim own bytes maxL ret R pc (o_bin (fun a b => w32 (a + b)) (pc + 1)) := by
  intro p l e s m args below meth c G X q C hX als ast M ho H locs ls st hr
  obtain ⟨hx, hb, hml, hret, hlk, hown, hts, hK, hinj⟩ := C
  obtain ⟨hW, hS, hl, hst⟩ := hr
  unfold o_bin at ho
  split at ho
  next y0 x0 st0 =>
    obtain ⟨v, vs, rfl, h1, h2⟩ := rvs_c hst
    obtain ⟨v2, vs2, rfl, h3, h4⟩ := rvs_c h2
    obtain ⟨y, rfl, rfl⟩ := rv_i h1
    obtain ⟨x, rfl, rfl⟩ := rv_i h3
    exact lv_iadd hx hb hd (hX _ _ _ _ ho _ _ _ _ ⟨hW, hS, hl, n_add x y, h4⟩)
  next => exact ho.elim
theorem si_isub (hd : decode bytes pc = .ok (.isub, 1)) : am_Sim own bytes maxL ret R pc (o_bin (fun a b => w32 (a - b)) (pc + 1)) := by
  intro p l e s m args below meth c G X q C hX als ast M ho H locs ls st hr
  obtain ⟨hx, hb, hml, hret, hlk, hown, hts, hK, hinj⟩ := C
  obtain ⟨hW, hS, hl, hst⟩ := hr
  unfold o_bin at ho
  split at ho
  next y0 x0 st0 =>
    obtain ⟨v, vs, rfl, h1, h2⟩ := rvs_c hst
    obtain ⟨v2, vs2, rfl, h3, h4⟩ := rvs_c h2
    obtain ⟨y, rfl, rfl⟩ := rv_i h1
    obtain ⟨x, rfl, rfl⟩ := rv_i h3
    exact lv_isub hx hb hd (hX _ _ _ _ ho _ _ _ _ ⟨hW, hS, hl, n_sub x y, h4⟩)
  next => exact ho.elim
theorem si_imul (hd : decode bytes pc = .ok (.imul, 1)) : am_Sim own bytes maxL ret R pc (o_bin (fun a b => w32 (a * b)) (pc + 1)) := by
  intro p l e s m args below meth c G X q C hX als ast M ho H locs ls st hr
  obtain ⟨hx, hb, hml, hret, hlk, hown, hts, hK, hinj⟩ := C
  obtain ⟨hW, hS, hl, hst⟩ := hr
  unfold o_bin at ho
  split at ho
  next y0 x0 st0 =>
    obtain ⟨v, vs, rfl, h1, h2⟩ := rvs_c hst
    obtain ⟨v2, vs2, rfl, h3, h4⟩ := rvs_c h2
    obtain ⟨y, rfl, rfl⟩ := rv_i h1
    obtain ⟨x, rfl, rfl⟩ := rv_i h3
    exact lv_imul hx hb hd (hX _ _ _ _ ho _ _ _ _ ⟨hW, hS, hl, n_mul x y, h4⟩)
  next => exact ho.elim
theorem si_iand (hd : decode bytes pc = .ok (.iand, 1)) : am_Sim own bytes maxL ret R pc (o_bin am_and (pc + 1)) := by
  intro p l e s m args below meth c G X q C hX als ast M ho H locs ls st hr
  obtain ⟨hx, hb, hml, hret, hlk, hown, hts, hK, hinj⟩ := C
  obtain ⟨hW, hS, hl, hst⟩ := hr
  unfold o_bin at ho
  split at ho
  next y0 x0 st0 =>
    obtain ⟨v, vs, rfl, h1, h2⟩ := rvs_c hst
    obtain ⟨v2, vs2, rfl, h3, h4⟩ := rvs_c h2
    obtain ⟨y, rfl, rfl⟩ := rv_i h1
    obtain ⟨x, rfl, rfl⟩ := rv_i h3
    exact lv_iand hx hb hd (hX _ _ _ _ ho _ _ _ _ ⟨hW, hS, hl, n_and x y, h4⟩)
  next => exact ho.elim
theorem si_ior (hd : decode bytes pc = .ok (.ior, 1)) : am_Sim own bytes maxL ret R pc (o_bin am_or (pc + 1)) := by
  intro p l e s m args below meth c G X q C hX als ast M ho H locs ls st hr
  obtain ⟨hx, hb, hml, hret, hlk, hown, hts, hK, hinj⟩ := C
  obtain ⟨hW, hS, hl, hst⟩ := hr
  unfold o_bin at ho
  split at ho
  next y0 x0 st0 =>
    obtain ⟨v, vs, rfl, h1, h2⟩ := rvs_c hst
    obtain ⟨v2, vs2, rfl, h3, h4⟩ := rvs_c h2
    obtain ⟨y, rfl, rfl⟩ := rv_i h1
    obtain ⟨x, rfl, rfl⟩ := rv_i h3
    exact lv_ior hx hb hd (hX _ _ _ _ ho _ _ _ _ ⟨hW, hS, hl, n_or x y, h4⟩)
  next => exact ho.elim
theorem si_ixor (hd : decode bytes pc = .ok (.ixor, 1)) : am_Sim own bytes maxL ret R pc (o_bin am_xor (pc + 1)) := by
  intro p l e s m args below meth c G X q C hX als ast M ho H locs ls st hr
  obtain ⟨hx, hb, hml, hret, hlk, hown, hts, hK, hinj⟩ := C
  obtain ⟨hW, hS, hl, hst⟩ := hr
  unfold o_bin at ho
  split at ho
  next y0 x0 st0 =>
    obtain ⟨v, vs, rfl, h1, h2⟩ := rvs_c hst
    obtain ⟨v2, vs2, rfl, h3, h4⟩ := rvs_c h2
    obtain ⟨y, rfl, rfl⟩ := rv_i h1
    obtain ⟨x, rfl, rfl⟩ := rv_i h3
    exact lv_ixor hx hb hd (hX _ _ _ _ ho _ _ _ _ ⟨hW, hS, hl, n_xor x y, h4⟩)
  next => exact ho.elim
theorem si_ladd (hd : decode bytes pc = .ok (.ladd, 1)) : am_Sim own bytes maxL ret R pc (o_binL (fun a b => w64 (a + b)) (pc + 1)) := by
  intro p l e s m args below meth c G X q C hX als ast M ho H locs ls st hr
  obtain ⟨hx, hb, hml, hret, hlk, hown, hts, hK, hinj⟩ := C
  obtain ⟨hW, hS, hl, hst⟩ := hr
  unfold o_binL at ho
  split at ho
  next y0 x0 st0 =>
    obtain ⟨v, vs, rfl, h1, h2⟩ := rvs_c hst
    obtain ⟨v2, vs2, rfl, h3, h4⟩ := rvs_c h2
    obtain ⟨y, rfl, rfl⟩ := rv_l h1
    obtain ⟨x, rfl, rfl⟩ := rv_l h3
    exact lv_ladd hx hb hd (hX _ _ _ _ ho _ _ _ _ ⟨hW, hS, hl, l_add x y, h4⟩)
  next => exact ho.elim
theorem si_lsub (hd : decode bytes pc = .ok (.lsub, 1)) : am_Sim own bytes maxL ret R pc (o_binL (fun a b => w64 (a - b)) (pc + 1)) := by
  intro p l e s m args below meth c G X q C hX als ast M ho H locs ls st hr
  obtain ⟨hx, hb, hml, hret, hlk, hown, hts, hK, hinj⟩ := C
  obtain ⟨hW, hS, hl, hst⟩ := hr
  unfold o_binL at ho
  split at ho
  next y0 x0 st0 =>
    obtain ⟨v, vs, rfl, h1, h2⟩ := rvs_c hst
    obtain ⟨v2, vs2, rfl, h3, h4⟩ := rvs_c h2
    obtain ⟨y, rfl, rfl⟩ := rv_l h1
    obtain ⟨x, rfl, rfl⟩ := rv_l h3
    exact lv_lsub hx hb hd (hX _ _ _ _ ho _ _ _ _ ⟨hW, hS, hl, l_sub x y, h4⟩)
  next => exact ho.elim
theorem si_lmul (hd : decode bytes pc = .ok (.lmul, 1)) : am_Sim own bytes maxL ret R pc (o_binL (fun a b => w64 (a * b)) (pc + 1)) := by
  intro p l e s m args below meth c G X q C hX als ast M ho H locs ls st hr
  obtain ⟨hx, hb, hml, hret, hlk, hown, hts, hK, hinj⟩ := C
  obtain ⟨hW, hS, hl, hst⟩ := hr
  unfold o_binL at ho
  split at ho
  next y0 x0 st0 =>
    obtain ⟨v, vs, rfl, h1, h2⟩ := rvs_c hst
    obtain ⟨v2, vs2, rfl, h3, h4⟩ := rvs_c h2
    obtain ⟨y, rfl, rfl⟩ := rv_l h1
    obtain ⟨x, rfl, rfl⟩ := rv_l h3
    exact lv_lmul hx hb hd (hX _ _ _ _ ho _ _ _ _ ⟨hW, hS, hl, l_mul x y, h4⟩)
  next => exact ho.elim
theorem si_land (hd : decode bytes pc = .ok (.land, 1)) : am_Sim own bytes maxL ret R pc (o_binL am_land (pc + 1)) := by
  intro p l e s m args below meth c G X q C hX als ast M ho H locs ls st hr
  obtain ⟨hx, hb, hml, hret, hlk, hown, hts, hK, hinj⟩ := C
  obtain ⟨hW, hS, hl, hst⟩ := hr
  unfold o_binL at ho
  split at ho
  next y0 x0 st0 =>
    obtain ⟨v, vs, rfl, h1, h2⟩ := rvs_c hst
    obtain ⟨v2, vs2, rfl, h3, h4⟩ := rvs_c h2
    obtain ⟨y, rfl, rfl⟩ := rv_l h1
    obtain ⟨x, rfl, rfl⟩ := rv_l h3
    exact lv_land hx hb hd (hX _ _ _ _ ho _ _ _ _ ⟨hW, hS, hl, l_and x y, h4⟩)
  next => exact ho.elim
theorem si_lor (hd : decode bytes pc = .ok (.lor, 1)) : am_Sim own bytes maxL ret R pc (o_binL am_lor (pc + 1)) := by
  intro p l e s m args below meth c G X q C hX als ast M ho H locs ls st hr
  obtain ⟨hx, hb, hml, hret, hlk, hown, hts, hK, hinj⟩ := C
  obtain ⟨hW, hS, hl, hst⟩ := hr
  unfold o_binL at ho
  split at ho
  next y0 x0 st0 =>
    obtain ⟨v, vs, rfl, h1, h2⟩ := rvs_c hst
    obtain ⟨v2, vs2, rfl, h3, h4⟩ := rvs_c h2
    obtain ⟨y, rfl, rfl⟩ := rv_l h1
    obtain ⟨x, rfl, rfl⟩ := rv_l h3
    exact lv_lor hx hb hd (hX _ _ _ _ ho _ _ _ _ ⟨hW, hS, hl, l_or x y, h4⟩)
  next => exact ho.elim
theorem si_idiv (hd : decode bytes pc = .ok (.idiv, 1)) : am_Sim own bytes maxL ret R pc (o_idiv (pc + 1)) := by
  intro p l e s m args below meth c G X q C hX als ast M ho H locs ls st hr
  obtain ⟨hx, hb, hml, hret, hlk, hown, hts, hK, hinj⟩ := C
  obtain ⟨hW, hS, hl, hst⟩ := hr
  unfold o_idiv at ho
  split at ho
  next y0 x0 st0 =>
    obtain ⟨v, vs, rfl, h1, h2⟩ := rvs_c hst
    obtain ⟨v2, vs2, rfl, h3, h4⟩ := rvs_c h2
    obtain ⟨y, rfl, rfl⟩ := rv_i h1
    obtain ⟨x, rfl, rfl⟩ := rv_i h3
    exact lv_idiv hx hb hd (fun h => by have := ho.1.2; rw [h] at this; exact absurd this (by decide)) (hX _ _ _ _ ho.2 _ _ _ _ ⟨hW, hS, hl, n_div ho.1.1 ho.1.2, h4⟩)
  next => exact ho.elim
theorem si_irem (hd : decode bytes pc = .ok (.irem, 1)) : am_Sim own bytes maxL ret R pc (o_irem (pc + 1)) := by
  intro p l e s m args below meth c G X q C hX als ast M ho H locs ls st hr
  obtain ⟨hx, hb, hml, hret, hlk, hown, hts, hK, hinj⟩ := C
  obtain ⟨hW, hS, hl, hst⟩ := hr
  unfold o_irem at ho
  split at ho
  next y0 x0 st0 =>
    obtain ⟨v, vs, rfl, h1, h2⟩ := rvs_c hst
    obtain ⟨v2, vs2, rfl, h3, h4⟩ := rvs_c h2
    obtain ⟨y, rfl, rfl⟩ := rv_i h1
    obtain ⟨x, rfl, rfl⟩ := rv_i h3
    exact lv_irem hx hb hd (fun h => by have := ho.1.2; rw [h] at this; exact absurd this (by decide)) (hX _ _ _ _ ho.2 _ _ _ _ ⟨hW, hS, hl, n_rem ho.1.1 ho.1.2, h4⟩)
  next => exact ho.elim
theorem si_ldiv (hd : decode bytes pc = .ok (.ldiv, 1)) : am_Sim own bytes maxL ret R pc (o_ldiv (pc + 1)) := by
  intro p l e s m args below meth c G X q C hX als ast M ho H locs ls st hr
  obtain ⟨hx, hb, hml, hret, hlk, hown, hts, hK, hinj⟩ := C
  obtain ⟨hW, hS, hl, hst⟩ := hr
  unfold o_ldiv at ho
  split at ho
  next y0 x0 st0 =>
    obtain ⟨v, vs, rfl, h1, h2⟩ := rvs_c hst
    obtain ⟨v2, vs2, rfl, h3, h4⟩ := rvs_c h2
    obtain ⟨y, rfl, rfl⟩ := rv_l h1
    obtain ⟨x, rfl, rfl⟩ := rv_l h3
    exact lv_ldiv hx hb hd (fun h => by have := ho.1.2; rw [h] at this; exact absurd this (by decide)) (hX _ _ _ _ ho.2 _ _ _ _ ⟨hW, hS, hl, l_div ho.1.1 ho.1.2, h4⟩)
  next => exact ho.elim
theorem si_lrem (hd : decode bytes pc = .ok (.lrem, 1)) : am_Sim own bytes maxL ret R pc (o_lrem (pc + 1)) := by
  intro p l e s m args below meth c G X q C hX als ast M ho H locs ls st hr
  obtain ⟨hx, hb, hml, hret, hlk, hown, hts, hK, hinj⟩ := C
  obtain ⟨hW, hS, hl, hst⟩ := hr
  unfold o_lrem at ho
  split at ho
  next y0 x0 st0 =>
    obtain ⟨v, vs, rfl, h1, h2⟩ := rvs_c hst
    obtain ⟨v2, vs2, rfl, h3, h4⟩ := rvs_c h2
    obtain ⟨y, rfl, rfl⟩ := rv_l h1
    obtain ⟨x, rfl, rfl⟩ := rv_l h3
    exact lv_lrem hx hb hd (fun h => by have := ho.1.2; rw [h] at this; exact absurd this (by decide)) (hX _ _ _ _ ho.2 _ _ _ _ ⟨hW, hS, hl, l_rem ho.1.1 ho.1.2, h4⟩)
  next => exact ho.elim
theorem si_lcmp (hd : decode bytes pc = .ok (.lcmp, 1)) : am_Sim own bytes maxL ret R pc (o_lcmp (pc + 1)) := by
  intro p l e s m args below meth c G X q C hX als ast M ho H locs ls st hr
  obtain ⟨hx, hb, hml, hret, hlk, hown, hts, hK, hinj⟩ := C
  obtain ⟨hW, hS, hl, hst⟩ := hr
  unfold o_lcmp at ho
  split at ho
  next y0 x0 st0 =>
    obtain ⟨v, vs, rfl, h1, h2⟩ := rvs_c hst
    obtain ⟨v2, vs2, rfl, h3, h4⟩ := rvs_c h2
    obtain ⟨y, rfl, rfl⟩ := rv_l h1
    obtain ⟨x, rfl, rfl⟩ := rv_l h3
    exact W.lcmp hx hb hd (hX _ _ _ _ ho _ _ _ _ ⟨hW, hS, hl, l_cmp x y, h4⟩)
  next => exact ho.elim
theorem si_ishl (hd : decode bytes pc = .ok (.ishl, 1)) : am_Sim own bytes maxL ret R pc (o_sh am_shl (pc + 1)) := by
  intro p l e s m args below meth c G X q C hX als ast M ho H locs ls st hr
  obtain ⟨hx, hb, hml, hret, hlk, hown, hts, hK, hinj⟩ := C
  obtain ⟨hW, hS, hl, hst⟩ := hr
  unfold o_sh at ho
  split at ho
  next y0 x0 st0 =>
    obtain ⟨v, vs, rfl, h1, h2⟩ := rvs_c hst
    obtain ⟨v2, vs2, rfl, h3, h4⟩ := rvs_c h2
    obtain ⟨y, rfl, rfl⟩ := rv_i h1
    obtain ⟨x, rfl, rfl⟩ := rv_i h3
    exact lv_ishl hx hb hd (hX _ _ _ _ ho.2 _ _ _ _ ⟨hW, hS, hl, n_shl ho.1.1 ho.1.2, h4⟩)
  next => exact ho.elim
theorem si_ishr (hd : decode bytes pc = .ok (.ishr, 1)) : am_Sim own bytes maxL ret R pc (o_sh am_shr (pc + 1)) := by
  intro p l e s m args below meth c G X q C hX als ast M ho H locs ls st hr
  obtain ⟨hx, hb, hml, hret, hlk, hown, hts, hK, hinj⟩ := C
  obtain ⟨hW, hS, hl, hst⟩ := hr
  unfold o_sh at ho
  split at ho
  next y0 x0 st0 =>
    obtain ⟨v, vs, rfl, h1, h2⟩ := rvs_c hst
    obtain ⟨v2, vs2, rfl, h3, h4⟩ := rvs_c h2
    obtain ⟨y, rfl, rfl⟩ := rv_i h1
    obtain ⟨x, rfl, rfl⟩ := rv_i h3
    exact lv_ishr hx hb hd (hX _ _ _ _ ho.2 _ _ _ _ ⟨hW, hS, hl, n_shr ho.1.1 ho.1.2, h4⟩)
  next => exact ho.elim
theorem si_iushr (hd : decode bytes pc = .ok (.iushr, 1)) : am_Sim own bytes maxL ret R pc (o_sh am_ushr (pc + 1)) := by
  intro p l e s m args below meth c G X q C hX als ast M ho H locs ls st hr
  obtain ⟨hx, hb, hml, hret, hlk, hown, hts, hK, hinj⟩ := C
  obtain ⟨hW, hS, hl, hst⟩ := hr
  unfold o_sh at ho
  split at ho
  next y0 x0 st0 =>
    obtain ⟨v, vs, rfl, h1, h2⟩ := rvs_c hst
    obtain ⟨v2, vs2, rfl, h3, h4⟩ := rvs_c h2
    obtain ⟨y, rfl, rfl⟩ := rv_i h1
    obtain ⟨x, rfl, rfl⟩ := rv_i h3
    exact lv_iushr hx hb hd rfl (hX _ _ _ _ ho.2 _ _ _ _ ⟨hW, hS, hl, n_ushr ho.1.1 ho.1.2, h4⟩)
  next => exact ho.elim
theorem si_lshl (hd : decode bytes pc = .ok (.lshl, 1)) : am_Sim own bytes maxL ret R pc (o_shL am_lshl (pc + 1)) := by
  intro p l e s m args below meth c G X q C hX als ast M ho H locs ls st hr
  obtain ⟨hx, hb, hml, hret, hlk, hown, hts, hK, hinj⟩ := C
  obtain ⟨hW, hS, hl, hst⟩ := hr
  unfold o_shL at ho
  split at ho
  next y0 x0 st0 =>
    obtain ⟨v, vs, rfl, h1, h2⟩ := rvs_c hst
    obtain ⟨v2, vs2, rfl, h3, h4⟩ := rvs_c h2
    obtain ⟨y, rfl, rfl⟩ := rv_i h1
    obtain ⟨x, rfl, rfl⟩ := rv_l h3
    exact lv_lshl hx hb hd rfl (hX _ _ _ _ ho.2 _ _ _ _ ⟨hW, hS, hl, l_shl ho.1.1 ho.1.2, h4⟩)
  next => exact ho.elim
theorem si_lushr (hd : decode bytes pc = .ok (.lushr, 1)) : am_Sim own bytes maxL ret R pc (o_shL am_lushr (pc + 1)) := by
  intro p l e s m args below meth c G X q C hX als ast M ho H locs ls st hr
  obtain ⟨hx, hb, hml, hret, hlk, hown, hts, hK, hinj⟩ := C
  obtain ⟨hW, hS, hl, hst⟩ := hr
  unfold o_shL at ho
  split at ho
  next y0 x0 st0 =>
    obtain ⟨v, vs, rfl, h1, h2⟩ := rvs_c hst
    obtain ⟨v2, vs2, rfl, h3, h4⟩ := rvs_c h2
    obtain ⟨y, rfl, rfl⟩ := rv_i h1
    obtain ⟨x, rfl, rfl⟩ := rv_l h3
    exact lv_lushr hx hb hd rfl (hX _ _ _ _ ho.2 _ _ _ _ ⟨hW, hS, hl, l_ushr ho.1.1 ho.1.2, h4⟩)
  next => exact ho.elim
theorem si_i2b (hd : decode bytes pc = .ok (.i2b, 1)) : am_Sim own bytes maxL ret R pc (o_un w8 (pc + 1)) := by
  intro p l e s m args below meth c G X q C hX als ast M ho H locs ls st hr
  obtain ⟨hx, hb, hml, hret, hlk, hown, hts, hK, hinj⟩ := C
  obtain ⟨hW, hS, hl, hst⟩ := hr
  unfold o_un at ho
  split at ho
  next x0 st0 =>
    obtain ⟨v, vs, rfl, h1, h2⟩ := rvs_c hst
    obtain ⟨x, rfl, rfl⟩ := rv_i h1
    exact lv_i2b hx hb hd rfl (hX _ _ _ _ ho _ _ _ _ ⟨hW, hS, hl, n_b x, h2⟩)
  next => exact ho.elim
theorem si_i2s (hd : decode bytes pc = .ok (.i2s, 1)) : am_Sim own bytes maxL ret R pc (o_un w16 (pc + 1)) := by
  intro p l e s m args below meth c G X q C hX als ast M ho H locs ls st hr
  obtain ⟨hx, hb, hml, hret, hlk, hown, hts, hK, hinj⟩ := C
  obtain ⟨hW, hS, hl, hst⟩ := hr
  unfold o_un at ho
  split at ho
  next x0 st0 =>
    obtain ⟨v, vs, rfl, h1, h2⟩ := rvs_c hst
    obtain ⟨x, rfl, rfl⟩ := rv_i h1
    exact lv_i2s hx hb hd rfl (hX _ _ _ _ ho _ _ _ _ ⟨hW, hS, hl, n_s x, h2⟩)
  next => exact ho.elim
theorem si_i2l (hd : decode bytes pc = .ok (.i2l, 1)) : am_Sim own bytes maxL ret R pc (o_i2l (pc + 1)) := by
  intro p l e s m args below meth c G X q C hX als ast M ho H locs ls st hr
  obtain ⟨hx, hb, hml, hret, hlk, hown, hts, hK, hinj⟩ := C
  obtain ⟨hW, hS, hl, hst⟩ := hr
  unfold o_i2l at ho
  split at ho
  next x0 st0 =>
    obtain ⟨v, vs, rfl, h1, h2⟩ := rvs_c hst
    obtain ⟨x, rfl, rfl⟩ := rv_i h1
    exact lv_i2l hx hb hd rfl (hX _ _ _ _ ho _ _ _ _ ⟨hW, hS, hl, Int32.toInt_toInt64 x, h2⟩)
  next => exact ho.elim
theorem si_pop (hd : decode bytes pc = .ok (.pop, 1)) : am_Sim own bytes maxL ret R pc (o_pop (pc + 1)) := by
  intro p l e s m args below meth c G X q C hX als ast M ho H locs ls st hr
  obtain ⟨hx, hb, hml, hret, hlk, hown, hts, hK, hinj⟩ := C
  obtain ⟨hW, hS, hl, hst⟩ := hr
  unfold o_pop at ho
  split at ho
  next x0 st0 =>
    obtain ⟨v, vs, rfl, h1, h2⟩ := rvs_c hst
    obtain ⟨x, rfl, rfl⟩ := rv_i h1
    exact lv_pop hx hb hd rfl (hX _ _ _ _ ho _ _ _ _ ⟨hW, hS, hl, h2⟩)
  next => exact ho.elim
theorem si_pop2 (hd : decode bytes pc = .ok (.pop2, 1)) : am_Sim own bytes maxL ret R pc (o_pop2 (pc + 1)) := by
  intro p l e s m args below meth c G X q C hX als ast M ho H locs ls st hr
  obtain ⟨hx, hb, hml, hret, hlk, hown, hts, hK, hinj⟩ := C
  obtain ⟨hW, hS, hl, hst⟩ := hr
  unfold o_pop2 at ho
  split at ho
  next x0 st0 =>
    obtain ⟨v, vs, rfl, h1, h2⟩ := rvs_c hst
    obtain ⟨x, rfl, rfl⟩ := rv_l h1
    exact lv_pop2_2 hx hb hd rfl (hX _ _ _ _ ho _ _ _ _ ⟨hW, hS, hl, h2⟩)
  next => exact ho.elim
theorem si_dup (hd : decode bytes pc = .ok (.dup, 1)) : am_Sim own bytes maxL ret R pc (o_dup (pc + 1)) := by
  intro p l e s m args below meth c G X q C hX als ast M ho H locs ls st hr
  obtain ⟨hx, hb, hml, hret, hlk, hown, hts, hK, hinj⟩ := C
  obtain ⟨hW, hS, hl, hst⟩ := hr
  unfold o_dup at ho
  split at ho
  next x0 st0 =>
    obtain ⟨v, vs, rfl, h1, h2⟩ := rvs_c hst
    obtain ⟨x, rfl, rfl⟩ := rv_i h1
    exact lv_dup hx hb hd rfl (hX _ _ _ _ ho _ _ _ _ ⟨hW, hS, hl, rfl, rfl, h2⟩)
  next x0 st0 =>
    obtain ⟨v, vs, rfl, h1, h2⟩ := rvs_c hst
    cases x0 with
    | zero =>
      obtain rfl := rv_n h1
      exact lv_dup hx hb hd rfl (hX _ _ _ _ ho _ _ _ _ ⟨hW, hS, hl, trivial, trivial, h2⟩)
    | succ x0 =>
      obtain rfl := rv_r h1
      exact lv_dup hx hb hd rfl (hX _ _ _ _ ho _ _ _ _ ⟨hW, hS, hl, rfl, rfl, h2⟩)
  next => exact ho.elim
theorem si_dup2 (hd : decode bytes pc = .ok (.dup2, 1)) : am_Sim own bytes maxL ret R pc (o_dup2 (pc + 1)) := by
  intro p l e s m args below meth c G X q C hX als ast M ho H locs ls st hr
  obtain ⟨hx, hb, hml, hret, hlk, hown, hts, hK, hinj⟩ := C
  obtain ⟨hW, hS, hl, hst⟩ := hr
  unfold o_dup2 at ho
  split at ho
  next x0 st0 =>
    obtain ⟨v, vs, rfl, h1, h2⟩ := rvs_c hst
    obtain ⟨x, rfl, rfl⟩ := rv_l h1
    exact lv_dup2_2 hx hb hd rfl (hX _ _ _ _ ho _ _ _ _ ⟨hW, hS, hl, rfl, rfl, h2⟩)
  next y0 x0 st0 =>
    obtain ⟨v, vs, rfl, h1, h2⟩ := rvs_c hst
    obtain ⟨v2, vs2, rfl, h3, h4⟩ := rvs_c h2
    obtain ⟨y, rfl, rfl⟩ := rv_i h1
    cases x0 with
    | zero =>
      obtain rfl := rv_n h3
      exact lv_dup2_11 hx hb hd rfl rfl (hX _ _ _ _ ho _ _ _ _ ⟨hW, hS, hl, rfl, trivial, rfl, trivial, h4⟩)
    | succ x0 =>
      obtain rfl := rv_r h3
      exact lv_dup2_11 hx hb hd rfl rfl (hX _ _ _ _ ho _ _ _ _ ⟨hW, hS, hl, rfl, rfl, rfl, rfl, h4⟩)
  next => exact ho.elim
theorem si_goto {off : Int} {t : Nat} (hd : decode bytes pc = .ok (.goto off, 3)) (ht : (pc : Int) + off = (t : Int)) : am_Sim own bytes maxL ret R pc (o_goto t) := by
  intro p l e s m args below meth c G X q C hX als ast M ho H locs ls st hr
  obtain ⟨hx, hb, hml, hret, hlk, hown, hts, hK, hinj⟩ := C
  obtain ⟨hW, hS, hl, hst⟩ := hr
  exact lv_goto hx hb hd ht (hX _ _ _ _ ho _ _ _ _ ⟨hW, hS, hl, hst⟩)
theorem k_lt (x y : Int32) : x < y ↔ x.toInt < y.toInt := Int32.lt_iff_toInt_lt
theorem k_le (x y : Int32) : x ≤ y ↔ x.toInt ≤ y.toInt := Int32.le_iff_toInt_le
theorem k_eq (x y : Int32) : x = y ↔ x.toInt = y.toInt := Int32.toInt_inj.symm

theorem si_if_eq {off : Int} {t : Nat} (hd : decode bytes pc = .ok (.ifCond .eq off, 3)) (ht : (pc : Int) + off = (t : Int)) : am_Sim own bytes maxL ret R pc (o_if (fun a => a = 0) t (pc + 3)) := by
  intro p l e s m args below meth c G X q C hX als ast M ho H locs ls st hr
  obtain ⟨hx, hb, hml, hret, hlk, hown, hts, hK, hinj⟩ := C
  obtain ⟨hW, hS, hl, hst⟩ := hr
  unfold o_if at ho
  split at ho
  next x0 st0 =>
    obtain ⟨v, vs, rfl, h1, h2⟩ := rvs_c hst
    obtain ⟨x, rfl, rfl⟩ := rv_i h1
    exact lv_if_eq hx hb hd ht (fun h => (hX _ _ _ _ (ho.1 ((k_eq x 0).mp h)) _ _ _ _ ⟨hW, hS, hl, h2⟩)) (fun h => (hX _ _ _ _ (ho.2 (fun h0 => h ((k_eq x 0).mpr h0))) _ _ _ _ ⟨hW, hS, hl, h2⟩))
  next => exact ho.elim
theorem si_ic_eq {off : Int} {t : Nat} (hd : decode bytes pc = .ok (.if_icmp .eq off, 3)) (ht : (pc : Int) + off = (t : Int)) : am_Sim own bytes maxL ret R pc (o_ic (fun a b => a = b) t (pc + 3)) := by
  intro p l e s m args below meth c G X q C hX als ast M ho H locs ls st hr
  obtain ⟨hx, hb, hml, hret, hlk, hown, hts, hK, hinj⟩ := C
  obtain ⟨hW, hS, hl, hst⟩ := hr
  unfold o_ic at ho
  split at ho
  next y0 x0 st0 =>
    obtain ⟨v, vs, rfl, h1, h2⟩ := rvs_c hst
    obtain ⟨v2, vs2, rfl, h3, h4⟩ := rvs_c h2
    obtain ⟨y, rfl, rfl⟩ := rv_i h1
    obtain ⟨x, rfl, rfl⟩ := rv_i h3
    exact lv_icmp_eq hx hb hd ht (fun h => (hX _ _ _ _ (ho.1 ((k_eq x y).mp h)) _ _ _ _ ⟨hW, hS, hl, h4⟩)) (fun h => (hX _ _ _ _ (ho.2 (fun h0 => h ((k_eq x y).mpr h0))) _ _ _ _ ⟨hW, hS, hl, h4⟩))
  next => exact ho.elim
theorem si_if_ne {off : Int} {t : Nat} (hd : decode bytes pc = .ok (.ifCond .ne off, 3)) (ht : (pc : Int) + off = (t : Int)) : am_Sim own bytes maxL ret R pc (o_if (fun a => ¬ a = 0) t (pc + 3)) := by
  intro p l e s m args below meth c G X q C hX als ast M ho H locs ls st hr
  obtain ⟨hx, hb, hml, hret, hlk, hown, hts, hK, hinj⟩ := C
  obtain ⟨hW, hS, hl, hst⟩ := hr
  unfold o_if at ho
  split at ho
  next x0 st0 =>
    obtain ⟨v, vs, rfl, h1, h2⟩ := rvs_c hst
    obtain ⟨x, rfl, rfl⟩ := rv_i h1
    exact lv_if_ne hx hb hd ht (fun h => (hX _ _ _ _ (ho.1 (fun h0 => h ((k_eq x 0).mpr h0))) _ _ _ _ ⟨hW, hS, hl, h2⟩)) (fun h => (hX _ _ _ _ (ho.2 (fun h0 => h0 ((k_eq x 0).mp h))) _ _ _ _ ⟨hW, hS, hl, h2⟩))
  next => exact ho.elim
theorem si_ic_ne {off : Int} {t : Nat} (hd : decode bytes pc = .ok (.if_icmp .ne off, 3)) (ht : (pc : Int) + off = (t : Int)) : am_Sim own bytes maxL ret R pc (o_ic (fun a b => ¬ a = b) t (pc + 3)) := by
  intro p l e s m args below meth c G X q C hX als ast M ho H locs ls st hr
  obtain ⟨hx, hb, hml, hret, hlk, hown, hts, hK, hinj⟩ := C
  obtain ⟨hW, hS, hl, hst⟩ := hr
  unfold o_ic at ho
  split at ho
  next y0 x0 st0 =>
    obtain ⟨v, vs, rfl, h1, h2⟩ := rvs_c hst
    obtain ⟨v2, vs2, rfl, h3, h4⟩ := rvs_c h2
    obtain ⟨y, rfl, rfl⟩ := rv_i h1
    obtain ⟨x, rfl, rfl⟩ := rv_i h3
    exact lv_icmp_ne hx hb hd ht (fun h => (hX _ _ _ _ (ho.1 (fun h0 => h ((k_eq x y).mpr h0))) _ _ _ _ ⟨hW, hS, hl, h4⟩)) (fun h => (hX _ _ _ _ (ho.2 (fun h0 => h0 ((k_eq x y).mp h))) _ _ _ _ ⟨hW, hS, hl, h4⟩))
  next => exact ho.elim
theorem si_if_lt {off : Int} {t : Nat} (hd : decode bytes pc = .ok (.ifCond .lt off, 3)) (ht : (pc : Int) + off = (t : Int)) : am_Sim own bytes maxL ret R pc (o_if (fun a => a < 0) t (pc + 3)) := by
  intro p l e s m args below meth c G X q C hX als ast M ho H locs ls st hr
  obtain ⟨hx, hb, hml, hret, hlk, hown, hts, hK, hinj⟩ := C
  obtain ⟨hW, hS, hl, hst⟩ := hr
  unfold o_if at ho
  split at ho
  next x0 st0 =>
    obtain ⟨v, vs, rfl, h1, h2⟩ := rvs_c hst
    obtain ⟨x, rfl, rfl⟩ := rv_i h1
    exact lv_if_lt hx hb hd ht (fun h => (hX _ _ _ _ (ho.1 ((k_lt x 0).mp h)) _ _ _ _ ⟨hW, hS, hl, h2⟩)) (fun h => (hX _ _ _ _ (ho.2 (fun h0 => h ((k_lt x 0).mpr h0))) _ _ _ _ ⟨hW, hS, hl, h2⟩))
  next => exact ho.elim
theorem si_ic_lt {off : Int} {t : Nat} (hd : decode bytes pc = .ok (.if_icmp .lt off, 3)) (ht : (pc : Int) + off = (t : Int)) : am_Sim own bytes maxL ret R pc (o_ic (fun a b => a < b) t (pc + 3)) := by
  intro p l e s m args below meth c G X q C hX als ast M ho H locs ls st hr
  obtain ⟨hx, hb, hml, hret, hlk, hown, hts, hK, hinj⟩ := C
  obtain ⟨hW, hS, hl, hst⟩ := hr
  unfold o_ic at ho
  split at ho
  next y0 x0 st0 =>
    obtain ⟨v, vs, rfl, h1, h2⟩ := rvs_c hst
    obtain ⟨v2, vs2, rfl, h3, h4⟩ := rvs_c h2
    obtain ⟨y, rfl, rfl⟩ := rv_i h1
    obtain ⟨x, rfl, rfl⟩ := rv_i h3
    exact lv_icmp_lt hx hb hd ht (fun h => (hX _ _ _ _ (ho.1 ((k_lt x y).mp h)) _ _ _ _ ⟨hW, hS, hl, h4⟩)) (fun h => (hX _ _ _ _ (ho.2 (fun h0 => h ((k_lt x y).mpr h0))) _ _ _ _ ⟨hW, hS, hl, h4⟩))
  next => exact ho.elim
theorem si_if_ge {off : Int} {t : Nat} (hd : decode bytes pc = .ok (.ifCond .ge off, 3)) (ht : (pc : Int) + off = (t : Int)) : am_Sim own bytes maxL ret R pc (o_if (fun a => 0 ≤ a) t (pc + 3)) := by
  intro p l e s m args below meth c G X q C hX als ast M ho H locs ls st hr
  obtain ⟨hx, hb, hml, hret, hlk, hown, hts, hK, hinj⟩ := C
  obtain ⟨hW, hS, hl, hst⟩ := hr
  unfold o_if at ho
  split at ho
  next x0 st0 =>
    obtain ⟨v, vs, rfl, h1, h2⟩ := rvs_c hst
    obtain ⟨x, rfl, rfl⟩ := rv_i h1
    exact lv_if_ge hx hb hd ht (fun h => (hX _ _ _ _ (ho.1 ((k_le 0 x).mp h)) _ _ _ _ ⟨hW, hS, hl, h2⟩)) (fun h => (hX _ _ _ _ (ho.2 (fun h0 => h ((k_le 0 x).mpr h0))) _ _ _ _ ⟨hW, hS, hl, h2⟩))
  next => exact ho.elim
theorem si_ic_ge {off : Int} {t : Nat} (hd : decode bytes pc = .ok (.if_icmp .ge off, 3)) (ht : (pc : Int) + off = (t : Int)) : am_Sim own bytes maxL ret R pc (o_ic (fun a b => b ≤ a) t (pc + 3)) := by
  intro p l e s m args below meth c G X q C hX als ast M ho H locs ls st hr
  obtain ⟨hx, hb, hml, hret, hlk, hown, hts, hK, hinj⟩ := C
  obtain ⟨hW, hS, hl, hst⟩ := hr
  unfold o_ic at ho
  split at ho
  next y0 x0 st0 =>
    obtain ⟨v, vs, rfl, h1, h2⟩ := rvs_c hst
    obtain ⟨v2, vs2, rfl, h3, h4⟩ := rvs_c h2
    obtain ⟨y, rfl, rfl⟩ := rv_i h1
    obtain ⟨x, rfl, rfl⟩ := rv_i h3
    exact lv_icmp_ge hx hb hd ht (fun h => (hX _ _ _ _ (ho.1 ((k_le y x).mp h)) _ _ _ _ ⟨hW, hS, hl, h4⟩)) (fun h => (hX _ _ _ _ (ho.2 (fun h0 => h ((k_le y x).mpr h0))) _ _ _ _ ⟨hW, hS, hl, h4⟩))
  next => exact ho.elim
theorem si_if_gt {off : Int} {t : Nat} (hd : decode bytes pc = .ok (.ifCond .gt off, 3)) (ht : (pc : Int) + off = (t : Int)) : am_Sim own bytes maxL ret R pc (o_if (fun a => 0 < a) t (pc + 3)) := by
  intro p l e s m args below meth c G X q C hX als ast M ho H locs ls st hr
  obtain ⟨hx, hb, hml, hret, hlk, hown, hts, hK, hinj⟩ := C
  obtain ⟨hW, hS, hl, hst⟩ := hr
  unfold o_if at ho
  split at ho
  next x0 st0 =>
    obtain ⟨v, vs, rfl, h1, h2⟩ := rvs_c hst
    obtain ⟨x, rfl, rfl⟩ := rv_i h1
    exact lv_if_gt hx hb hd ht (fun h => (hX _ _ _ _ (ho.1 ((k_lt 0 x).mp h)) _ _ _ _ ⟨hW, hS, hl, h2⟩)) (fun h => (hX _ _ _ _ (ho.2 (fun h0 => h ((k_lt 0 x).mpr h0))) _ _ _ _ ⟨hW, hS, hl, h2⟩))
  next => exact ho.elim
theorem si_ic_gt {off : Int} {t : Nat} (hd : decode bytes pc = .ok (.if_icmp .gt off, 3)) (ht : (pc : Int) + off = (t : Int)) : am_Sim own bytes maxL ret R pc (o_ic (fun a b => b < a) t (pc + 3)) := by
  intro p l e s m args below meth c G X q C hX als ast M ho H locs ls st hr
  obtain ⟨hx, hb, hml, hret, hlk, hown, hts, hK, hinj⟩ := C
  obtain ⟨hW, hS, hl, hst⟩ := hr
  unfold o_ic at ho
  split at ho
  next y0 x0 st0 =>
    obtain ⟨v, vs, rfl, h1, h2⟩ := rvs_c hst
    obtain ⟨v2, vs2, rfl, h3, h4⟩ := rvs_c h2
    obtain ⟨y, rfl, rfl⟩ := rv_i h1
    obtain ⟨x, rfl, rfl⟩ := rv_i h3
    exact lv_icmp_gt hx hb hd ht (fun h => (hX _ _ _ _ (ho.1 ((k_lt y x).mp h)) _ _ _ _ ⟨hW, hS, hl, h4⟩)) (fun h => (hX _ _ _ _ (ho.2 (fun h0 => h ((k_lt y x).mpr h0))) _ _ _ _ ⟨hW, hS, hl, h4⟩))
  next => exact ho.elim
theorem si_if_le {off : Int} {t : Nat} (hd : decode bytes pc = .ok (.ifCond .le off, 3)) (ht : (pc : Int) + off = (t : Int)) : am_Sim own bytes maxL ret R pc (o_if (fun a => a ≤ 0) t (pc + 3)) := by
  intro p l e s m args below meth c G X q C hX als ast M ho H locs ls st hr
  obtain ⟨hx, hb, hml, hret, hlk, hown, hts, hK, hinj⟩ := C
  obtain ⟨hW, hS, hl, hst⟩ := hr
  unfold o_if at ho
  split at ho
  next x0 st0 =>
    obtain ⟨v, vs, rfl, h1, h2⟩ := rvs_c hst
    obtain ⟨x, rfl, rfl⟩ := rv_i h1
    exact lv_if_le hx hb hd ht (fun h => (hX _ _ _ _ (ho.1 ((k_le x 0).mp h)) _ _ _ _ ⟨hW, hS, hl, h2⟩)) (fun h => (hX _ _ _ _ (ho.2 (fun h0 => h ((k_le x 0).mpr h0))) _ _ _ _ ⟨hW, hS, hl, h2⟩))
  next => exact ho.elim
theorem si_ic_le {off : Int} {t : Nat} (hd : decode bytes pc = .ok (.if_icmp .le off, 3)) (ht : (pc : Int) + off = (t : Int)) : am_Sim own bytes maxL ret R pc (o_ic (fun a b => a ≤ b) t (pc + 3)) := by
  intro p l e s m args below meth c G X q C hX als ast M ho H locs ls st hr
  obtain ⟨hx, hb, hml, hret, hlk, hown, hts, hK, hinj⟩ := C
  obtain ⟨hW, hS, hl, hst⟩ := hr
  unfold o_ic at ho
  split at ho
  next y0 x0 st0 =>
    obtain ⟨v, vs, rfl, h1, h2⟩ := rvs_c hst
    obtain ⟨v2, vs2, rfl, h3, h4⟩ := rvs_c h2
    obtain ⟨y, rfl, rfl⟩ := rv_i h1
    obtain ⟨x, rfl, rfl⟩ := rv_i h3
    exact lv_icmp_le hx hb hd ht (fun h => (hX _ _ _ _ (ho.1 ((k_le x y).mp h)) _ _ _ _ ⟨hW, hS, hl, h4⟩)) (fun h => (hX _ _ _ _ (ho.2 (fun h0 => h ((k_le x y).mpr h0))) _ _ _ _ ⟨hW, hS, hl, h4⟩))
  next => exact ho.elim
theorem si_ifnull {off : Int} {t : Nat} (hd : decode bytes pc = .ok (.ifnull off, 3)) (ht : (pc : Int) + off = (t : Int)) : am_Sim own bytes maxL ret R pc (o_nul t (pc + 3)) := by
  intro p l e s m args below meth c G X q C hX als ast M ho H locs ls st hr
  obtain ⟨hx, hb, hml, hret, hlk, hown, hts, hK, hinj⟩ := C
  obtain ⟨hW, hS, hl, hst⟩ := hr
  unfold o_nul at ho
  split at ho
  next st0 =>
    obtain ⟨v, vs, rfl, h1, h2⟩ := rvs_c hst
    obtain rfl := rv_n h1
    exact lv_ifnullN hx hb hd ht (hX _ _ _ _ ho _ _ _ _ ⟨hW, hS, hl, h2⟩)
  next x0 st0 =>
    obtain ⟨v, vs, rfl, h1, h2⟩ := rvs_c hst
    obtain rfl := rv_r h1
    exact lv_ifnull hx hb hd (hX _ _ _ _ ho _ _ _ _ ⟨hW, hS, hl, h2⟩)
  next => exact ho.elim
theorem si_ifnonnull {off : Int} {t : Nat} (hd : decode bytes pc = .ok (.ifnonnull off, 3)) (ht : (pc : Int) + off = (t : Int)) : am_Sim own bytes maxL ret R pc (o_nul (pc + 3) t) := by
  intro p l e s m args below meth c G X q C hX als ast M ho H locs ls st hr
  obtain ⟨hx, hb, hml, hret, hlk, hown, hts, hK, hinj⟩ := C
  obtain ⟨hW, hS, hl, hst⟩ := hr
  unfold o_nul at ho
  split at ho
  next st0 =>
    obtain ⟨v, vs, rfl, h1, h2⟩ := rvs_c hst
    obtain rfl := rv_n h1
    exact lv_ifnonnullN hx hb hd (hX _ _ _ _ ho _ _ _ _ ⟨hW, hS, hl, h2⟩)
  next x0 st0 =>
    obtain ⟨v, vs, rfl, h1, h2⟩ := rvs_c hst
    obtain rfl := rv_r h1
    exact lv_ifnonnull hx hb hd ht (hX _ _ _ _ ho _ _ _ _ ⟨hW, hS, hl, h2⟩)
  next => exact ho.elim
end SIM
