theorem nI_s (i : Nat) : nI i + Int32.ofInt 1 = nI (i + 1) := by
  show Int32.ofNat i + 1 = Int32.ofNat (i + 1)
  rw [Int32.ofNat_add]
  rfl
set_option maxHeartbeats 4000000 in
set_option maxRecDepth 100000 in
theorem k_fill (l : Launch) (D : va_G) (cI cL cS : ClassId) (sz a n : Nat) (v : Int32) (f : Nat → Int32) (hn : n ≤ 1000) : cMet l D cI cL cS yJ7_fill_53178 cJ7_fill_53178 4 0 0 0 0 sz [.ref a, .int v] [(a, .inl (cI, n, .inl f))] (fun _ => [(a, .inl (cI, n, .inl (fun _ => v)))]) := by
  refine Met.ofW (cc := cJ7_fill_53178) (maxL := 4) (ret := none) (by decide +kernel) rfl ?_
  intro p e s m args below meth c s₁ B hml hv
  obtain ⟨rfl, hsz, hP, hK, hD0, hAO⟩ := hv
  have hx := B.exec
  have hb := B.bytes
  have hr := B.returns
  have hlocks := B.notSynchronized
  subst hsz
  have hD := hD0.self (sz := s.heap.size)
  generalize hAe : va_A [(a, .inl (cI, n, .inl f))] s.heap.size = A at hD ⊢
  have hA : ∀ q : Nat, s.heap.size ≤ q → A q := fun q h => by rw [← hAe]; exact Or.inr h
  have hS : va_S A s.heap s.heap [] := va_S.rf
  have hl := lv_entry ([.ref a, .int v]) (n := 4) (Nat.le_of_ble_eq_true rfl)
  rw [lg_entry_eq]
  generalize (lg_sl ([.ref a, .int v]) ++ List.replicate (4 - (lg_sl ([.ref a, .int v])).length) Slot.unset).toArray = ls at hl ⊢
  have hl : lv_has ls 4 [(0, .ref a), (1, .int v)] := hl
  have loop : ∀ (d i : Nat) (g : Nat → Int32) (H : Heap) (locs : List Loc) (ls : Array Slot), i + d = n → (∀ j, j < i → g j = v) → va_P D am_cl [(a, .inl (cI, n, .inl g))] H → va_D A [(a, .inl (cI, n, .inl g))] → va_S A s.heap H locs → lv_has ls 4 [(2, .int (nI i)), (3, .int (nI n)), (0, .ref a), (1, .int v)] → W p l e (headSpec (Cond.code yJ7_fill_53178 cJ7_fill_53178 4 none :: lw_g) { frames := 0, cells := 0, slots := 0, locals := 0 }).room s m #[Value.ref a, Value.int v] below meth c H locs 0 0 (MQ below (va_Qv (fun _ : Nat → Nat => True) (fun u t => cB D cI cL cS A [(a, .inl (cI, n, .inl (fun _ => v)))] t) A) #[Value.ref a, Value.int v] s 0 0 A) (F0 m 5 ls []) := by
    intro d
    induction d with
    | zero =>
      intro i g H locs ls hi hg hP hD hS hl
      obtain rfl : i = n := by omega
      refine lv_iload_n hx hb dJ7_fill_53178_5 rfl (lv_at hl 0 rfl) ?_
      refine lv_iload_n hx hb dJ7_fill_53178_6 rfl (lv_at hl 1 rfl) ?_
      refine lv_icmp_ge (tgt := 20) hx hb dJ7_fill_53178_7 (by decide) (fun _ => ?_) (fun h => absurd (Int32.le_refl _) h)
      have hP := P_norm hP (k := 0) rfl hg
      have hD9 : va_D A [(a, .inl (cI, i, .inl (fun _ => v)))] := hD.set (p := 0) rfl
      exact W.vret hx hb hr (fun t ht hW => ⟨⟨(fun _ => 0), rfl, trivial, ⟨by rw [ht]; exact hP, va_K.moved hW.alike hK, hD9⟩⟩, hS.F ht⟩) hS.2.2 dJ7_fill_53178_20
    | succ d ih =>
      intro i g H locs ls hi hg hP hD hS hl
      refine lv_iload_n hx hb dJ7_fill_53178_5 rfl (lv_at hl 0 rfl) ?_
      refine lv_iload_n hx hb dJ7_fill_53178_6 rfl (lv_at hl 1 rfl) ?_
      refine lv_icmp_ge (tgt := 20) hx hb dJ7_fill_53178_7 (by decide) (fun h => absurd h (nI_ge (a := i) (b := n) (by omega) (by omega))) (fun _ => ?_)
      refine lv_aload_n hx hb dJ7_fill_53178_10 rfl (lv_at hl 2 rfl) ?_
      refine lv_iload_n hx hb dJ7_fill_53178_11 rfl (lv_at hl 0 rfl) ?_
      refine lv_iload_n hx hb dJ7_fill_53178_12 rfl (lv_at hl 3 rfl) ?_
      refine va_iast hx hb hK hP hD hS 0 0 rfl rfl (vp_in_nI (by omega) (by omega)) dJ7_fill_53178_13 (fun H locs hP hD hS => ?_)
      rw [nI_clamp (by omega)] at hP hD
      refine lv_iinc (v := nI (i + 1)) (k := 0) (lv' := [(2, .int (nI (i + 1))), (3, .int (nI n)), (0, .ref a), (1, .int v)]) hx hb dJ7_fill_53178_14 hl rfl (nI_s i) (by decide) rfl (fun ls hl => ?_)
      refine lv_goto (tgt := 5) hx hb dJ7_fill_53178_17 (by decide) ?_
      refine ih (i + 1) _ H locs ls (by omega) (fun j hj => ?_) hP hD hS hl
      unfold upd
      by_cases e : j = i
      · rw [if_pos e]
      · rw [if_neg e]
        exact hg j (by omega)
  refine lv_iconst (v := nI 0) hx hb dJ7_fill_53178_0 (by decide) ?_
  refine lv_istore_n (lv' := [(2, .int (nI 0)), (0, .ref a), (1, .int v)]) hx hb dJ7_fill_53178_1 rfl hl (by decide) rfl (fun ls hl => ?_)
  refine lv_aload_n hx hb dJ7_fill_53178_2 rfl (lv_at hl 1 rfl) ?_
  refine va_alen hx hb hK hP 0 0 rfl rfl (v := nI n) rfl dJ7_fill_53178_3 ?_
  refine lv_istore_n (lv' := [(3, .int (nI n)), (2, .int (nI 0)), (0, .ref a), (1, .int v)]) hx hb dJ7_fill_53178_4 rfl hl (by decide) rfl (fun ls hl => ?_)
  exact loop n 0 f _ _ _ (by omega) (fun j hj => by omega) hP hD hS ⟨hl.1, hl.2.1, fun q hq => hl.2.2 q (by
    rcases List.mem_cons.mp hq with h | h
    · exact h ▸ List.mem_cons_of_mem _ List.mem_cons_self
    · rcases List.mem_cons.mp h with h | h
      · exact h ▸ List.mem_cons_self
      · exact List.mem_cons_of_mem _ (List.mem_cons_of_mem _ h))⟩
set_option maxHeartbeats 4000000 in
set_option maxRecDepth 100000 in
theorem k_X0_init (l : Launch) (D : va_G) (cI cL cS : ClassId) (sz h0 : Nat) (h1 : Nat) : cMet l D cI cL cS yX0_init cX0_init 2 1 2 128 12 sz [.ref h0, .ref h1] [(h0, .inr (0, [.null, .null, .null]))] (fun u => [(h0, .inr (0, [.ref h1, .ref (u 0), .ref (u 1)])), (u 0, .inl (cI, 64, .inl (fun _ => 0))), (u 1, .inl (cI, 64, .inl (fun _ => 0)))]) := by
  refine Met.ofW (cc := cX0_init) (maxL := 2) (ret := none) (by decide +kernel) rfl ?_
  intro p e s m args below meth c s₁ B hml hv
  obtain ⟨rfl, hsz, hP, hK, hD0, hAO⟩ := hv
  have hx := B.exec
  have hb := B.bytes
  have hr := B.returns
  have hts0 := atoms_spec (ws := Cond.code yX0_init cX0_init 2 none :: lw_g) B.pre
  have hts := fun w hw => hts0 w (List.mem_cons_of_mem _ hw)
  have hown : s.vm.findClass RX0 = some m.cls := findClass_of_methodNamed B.named
  have hlocks := B.notSynchronized
  have hin : meth.name = "<init>" := (name_of_methodNamed B.named B.method).1
  subst hsz
  have hD := hD0.self (sz := s.heap.size)
  generalize hAe : va_A [(h0, .inr (0, [.null, .null, .null]))] s.heap.size = A at hD ⊢
  have hA : ∀ q : Nat, s.heap.size ≤ q → A q := fun q h => by rw [← hAe]; exact Or.inr h
  have hS : va_S A s.heap s.heap [] := va_S.rf
  have hl := lv_entry ([.ref h0, .ref h1]) (n := 2) (Nat.le_of_ble_eq_true rfl)
  rw [lg_entry_eq]
  generalize (lg_sl ([.ref h0, .ref h1]) ++ List.replicate (2 - (lg_sl ([.ref h0, .ref h1])).length) Slot.unset).toArray = ls at hl ⊢
  have hl : lv_has ls 2 [(0, .ref h0), (1, .ref h1)] := hl
  refine lv_aload_n hx hb dX0_init_0 rfl (lv_at hl 0 rfl) ?_
  refine W.objInit hx hb hown (hts (.methodLink RX0 3 Lib.objectInit) (in_g (i := 140) (by decide +kernel) (by decide +kernel))) (hts (.instanceMethod Lib.objectInit) (in_g (i := 88) (by decide +kernel) (by decide +kernel))) (hts _ (in_g (i := 89) (by decide +kernel) (by decide +kernel))) rfl (by rw [hml]; exact hl.1) rfl dX0_init_1 (Nat.le_of_ble_eq_true rfl) (Nat.le_of_ble_eq_true rfl) ?_
  refine W.eq (g2 := F0 m 4 ls []) rfl ?_
  refine lv_aload_n hx hb dX0_init_4 rfl (lv_at hl 0 rfl) ?_
  refine lv_aload_n hx hb dX0_init_5 rfl (lv_at hl 1 rfl) ?_
  refine va_putF (D := D) (ref := RX0) (ci := 0) (v := .ref h1) (ty := tyX0 0) (C := RX0) (T := TX0) (N := 3) hx hb hts inC_0 tyX0 tyX0_ok nmX0 hown hK hP hD hS 0 rfl rfl 0 (by decide) (hts _ (in_g (i := 141) (by decide +kernel) (by decide +kernel))) (fun _ h9 => h9) rfl hin rfl (tyX0_ok 0 (by decide)) rfl rfl (Nat.le_of_ble_eq_true rfl) dX0_init_6 (fun H locs hP hD hS => ?_)
  have hP : va_P D am_cl [(h0, .inr (0, [.ref h1, .null, .null]))] H := hP
  have hD : va_D A [(h0, .inr (0, [.ref h1, .null, .null]))] := hD
  refine lv_aload_n hx hb dX0_init_9 rfl (lv_at hl 0 rfl) ?_
  refine lv_bipush (v := 64) hx hb dX0_init_10 (by decide) ?_
  refine cn_newa (ty := .int) (a0 := (64, .inl (fun _ => 0))) (N' := 64) hx hb (hts _ (in_g (i := 114) (by decide +kernel) (by decide +kernel))) rfl hK 0 rfl hP hD hS hA (fun _ => rfl) (by decide) (by decide) (by decide) (Nat.le_of_ble_eq_true rfl) (Nat.le_of_ble_eq_true rfl) dX0_init_12 (fun q0 H hP hD hS => ?_)
  refine W.widen (k := 1) (n := 64) (by decide) (by decide) ?_
  have hP : va_P D am_cl [(h0, .inr (0, [.ref h1, .null, .null])), (q0, .inl (cI, 64, .inl (fun _ => 0)))] H := hP
  have hD : va_D A [(h0, .inr (0, [.ref h1, .null, .null])), (q0, .inl (cI, 64, .inl (fun _ => 0)))] := hD
  refine va_putF (D := D) (ref := RX0) (ci := 0) (v := .ref q0) (ty := tyX0 1) (C := RX0) (T := TX0) (N := 3) hx hb hts inC_0 tyX0 tyX0_ok nmX0 hown hK hP hD hS 0 rfl rfl 1 (by decide) (hts _ (in_g (i := 142) (by decide +kernel) (by decide +kernel))) (fun _ h9 => h9) rfl hin rfl (tyX0_ok 1 (by decide)) rfl rfl (Nat.le_of_ble_eq_true rfl) dX0_init_14 (fun H locs hP hD hS => ?_)
  have hP : va_P D am_cl [(h0, .inr (0, [.ref h1, .ref q0, .null])), (q0, .inl (cI, 64, .inl (fun _ => 0)))] H := hP
  have hD : va_D A [(h0, .inr (0, [.ref h1, .ref q0, .null])), (q0, .inl (cI, 64, .inl (fun _ => 0)))] := hD
  refine lv_aload_n hx hb dX0_init_17 rfl (lv_at hl 0 rfl) ?_
  refine lv_bipush (v := 64) hx hb dX0_init_18 (by decide) ?_
  refine cn_newa (ty := .int) (a0 := (64, .inl (fun _ => 0))) (N' := 64) hx hb (hts _ (in_g (i := 114) (by decide +kernel) (by decide +kernel))) rfl hK 0 rfl hP hD hS hA (fun _ => rfl) (by decide) (by decide) (by decide) (Nat.le_of_ble_eq_true rfl) (Nat.le_of_ble_eq_true rfl) dX0_init_20 (fun q1 H hP hD hS => ?_)
  refine W.widen (k := 2) (n := 128) (by decide) (by decide) ?_
  have hP : va_P D am_cl [(h0, .inr (0, [.ref h1, .ref q0, .null])), (q0, .inl (cI, 64, .inl (fun _ => 0))), (q1, .inl (cI, 64, .inl (fun _ => 0)))] H := hP
  have hD : va_D A [(h0, .inr (0, [.ref h1, .ref q0, .null])), (q0, .inl (cI, 64, .inl (fun _ => 0))), (q1, .inl (cI, 64, .inl (fun _ => 0)))] := hD
  refine va_putF (D := D) (ref := RX0) (ci := 0) (v := .ref q1) (ty := tyX0 2) (C := RX0) (T := TX0) (N := 3) hx hb hts inC_0 tyX0 tyX0_ok nmX0 hown hK hP hD hS 0 rfl rfl 2 (by decide) (hts _ (in_g (i := 143) (by decide +kernel) (by decide +kernel))) (fun _ h9 => h9) rfl hin rfl (tyX0_ok 2 (by decide)) rfl rfl (Nat.le_of_ble_eq_true rfl) dX0_init_22 (fun H locs hP hD hS => ?_)
  have hP : va_P D am_cl [(h0, .inr (0, [.ref h1, .ref q0, .ref q1])), (q0, .inl (cI, 64, .inl (fun _ => 0))), (q1, .inl (cI, 64, .inl (fun _ => 0)))] H := hP
  have hD : va_D A [(h0, .inr (0, [.ref h1, .ref q0, .ref q1])), (q0, .inl (cI, 64, .inl (fun _ => 0))), (q1, .inl (cI, 64, .inl (fun _ => 0)))] := hD
  have hP9 := hP.sub (ws' := [(h0, .inr (0, [.ref h1, .ref q0, .ref q1])), (q0, .inl (cI, 64, .inl (fun _ => 0))), (q1, .inl (cI, 64, .inl (fun _ => 0)))]) [0, 1, 2] rfl
  have hD9 := hD.sub (ws' := [(h0, .inr (0, [.ref h1, .ref q0, .ref q1])), (q0, .inl (cI, 64, .inl (fun _ => 0))), (q1, .inl (cI, 64, .inl (fun _ => 0)))]) [0, 1, 2] (by decide) rfl
  refine W.widen (k := 2) (n := 128) (Nat.le_refl _) (Nat.le_refl _) ?_
  exact W.vret hx hb hr (fun t ht hW => ⟨⟨(fun k => ([q0, q1] : List Nat).getD k 0), rfl, trivial, ⟨by rw [ht]; exact hP9, va_K.moved hW.alike hK, hD9⟩⟩, hS.F ht⟩) hS.2.2 dX0_init_25

set_option maxHeartbeats 4000000 in
set_option maxRecDepth 100000 in
theorem k_X1_init (l : Launch) (D : va_G) (cI cL cS : ClassId) (sz h0 : Nat) (h1 : Nat) : cMet l D cI cL cS yX1_init cX1_init 2 1 1 64 12 sz [.ref h0, .ref h1] [(h0, .inr (1, [.null, .null, .long 0]))] (fun u => [(h0, .inr (1, [.ref h1, .ref (u 0), .long 0])), (u 0, .inl (cI, 64, .inl (fun _ => 0)))]) := by
  refine Met.ofW (cc := cX1_init) (maxL := 2) (ret := none) (by decide +kernel) rfl ?_
  intro p e s m args below meth c s₁ B hml hv
  obtain ⟨rfl, hsz, hP, hK, hD0, hAO⟩ := hv
  have hx := B.exec
  have hb := B.bytes
  have hr := B.returns
  have hts0 := atoms_spec (ws := Cond.code yX1_init cX1_init 2 none :: lw_g) B.pre
  have hts := fun w hw => hts0 w (List.mem_cons_of_mem _ hw)
  have hown : s.vm.findClass RX1 = some m.cls := findClass_of_methodNamed B.named
  have hlocks := B.notSynchronized
  have hin : meth.name = "<init>" := (name_of_methodNamed B.named B.method).1
  subst hsz
  have hD := hD0.self (sz := s.heap.size)
  generalize hAe : va_A [(h0, .inr (1, [.null, .null, .long 0]))] s.heap.size = A at hD ⊢
  have hA : ∀ q : Nat, s.heap.size ≤ q → A q := fun q h => by rw [← hAe]; exact Or.inr h
  have hS : va_S A s.heap s.heap [] := va_S.rf
  have hl := lv_entry ([.ref h0, .ref h1]) (n := 2) (Nat.le_of_ble_eq_true rfl)
  rw [lg_entry_eq]
  generalize (lg_sl ([.ref h0, .ref h1]) ++ List.replicate (2 - (lg_sl ([.ref h0, .ref h1])).length) Slot.unset).toArray = ls at hl ⊢
  have hl : lv_has ls 2 [(0, .ref h0), (1, .ref h1)] := hl
  refine lv_aload_n hx hb dX1_init_0 rfl (lv_at hl 0 rfl) ?_
  refine W.objInit hx hb hown (hts (.methodLink RX1 3 Lib.objectInit) (in_g (i := 156) (by decide +kernel) (by decide +kernel))) (hts (.instanceMethod Lib.objectInit) (in_g (i := 88) (by decide +kernel) (by decide +kernel))) (hts _ (in_g (i := 89) (by decide +kernel) (by decide +kernel))) rfl (by rw [hml]; exact hl.1) rfl dX1_init_1 (Nat.le_of_ble_eq_true rfl) (Nat.le_of_ble_eq_true rfl) ?_
  refine W.eq (g2 := F0 m 4 ls []) rfl ?_
  refine lv_aload_n hx hb dX1_init_4 rfl (lv_at hl 0 rfl) ?_
  refine lv_aload_n hx hb dX1_init_5 rfl (lv_at hl 1 rfl) ?_
  refine va_putF (D := D) (ref := RX1) (ci := 1) (v := .ref h1) (ty := tyX1 0) (C := RX1) (T := TX1) (N := 3) hx hb hts inC_1 tyX1 tyX1_ok nmX1 hown hK hP hD hS 0 rfl rfl 0 (by decide) (hts _ (in_g (i := 157) (by decide +kernel) (by decide +kernel))) (fun _ h9 => h9) rfl hin rfl (tyX1_ok 0 (by decide)) rfl rfl (Nat.le_of_ble_eq_true rfl) dX1_init_6 (fun H locs hP hD hS => ?_)
  have hP : va_P D am_cl [(h0, .inr (1, [.ref h1, .null, .long 0]))] H := hP
  have hD : va_D A [(h0, .inr (1, [.ref h1, .null, .long 0]))] := hD
  refine lv_aload_n hx hb dX1_init_9 rfl (lv_at hl 0 rfl) ?_
  refine lv_bipush (v := 64) hx hb dX1_init_10 (by decide) ?_
  refine cn_newa (ty := .int) (a0 := (64, .inl (fun _ => 0))) (N' := 64) hx hb (hts _ (in_g (i := 114) (by decide +kernel) (by decide +kernel))) rfl hK 0 rfl hP hD hS hA (fun _ => rfl) (by decide) (by decide) (by decide) (Nat.le_of_ble_eq_true rfl) (Nat.le_of_ble_eq_true rfl) dX1_init_12 (fun q0 H hP hD hS => ?_)
  refine W.widen (k := 1) (n := 64) (by decide) (by decide) ?_
  have hP : va_P D am_cl [(h0, .inr (1, [.ref h1, .null, .long 0])), (q0, .inl (cI, 64, .inl (fun _ => 0)))] H := hP
  have hD : va_D A [(h0, .inr (1, [.ref h1, .null, .long 0])), (q0, .inl (cI, 64, .inl (fun _ => 0)))] := hD
  refine va_putF (D := D) (ref := RX1) (ci := 1) (v := .ref q0) (ty := tyX1 1) (C := RX1) (T := TX1) (N := 3) hx hb hts inC_1 tyX1 tyX1_ok nmX1 hown hK hP hD hS 0 rfl rfl 1 (by decide) (hts _ (in_g (i := 158) (by decide +kernel) (by decide +kernel))) (fun _ h9 => h9) rfl hin rfl (tyX1_ok 1 (by decide)) rfl rfl (Nat.le_of_ble_eq_true rfl) dX1_init_14 (fun H locs hP hD hS => ?_)
  have hP : va_P D am_cl [(h0, .inr (1, [.ref h1, .ref q0, .long 0])), (q0, .inl (cI, 64, .inl (fun _ => 0)))] H := hP
  have hD : va_D A [(h0, .inr (1, [.ref h1, .ref q0, .long 0])), (q0, .inl (cI, 64, .inl (fun _ => 0)))] := hD
  refine lv_aload_n hx hb dX1_init_17 rfl (lv_at hl 0 rfl) ?_
  refine lv_lconst (v := 0) hx hb dX1_init_18 (by decide) ?_
  refine va_put (D := D) (ref := RX1) (ci := 1) (v := .long 0) (ty := tyX1 2) (C := RX1) (T := TX1) (N := 3) hx hb hts inC_1 tyX1 tyX1_ok nmX1 hown hK hP hD hS 0 rfl rfl 2 (by decide) (hts _ (in_g (i := 159) (by decide +kernel) (by decide +kernel))) (fun _ h9 => h9) rfl (tyX1_ok 2 (by decide)) rfl rfl (Nat.le_of_ble_eq_true rfl) dX1_init_19 (fun H locs hP hD hS => ?_)
  have hP : va_P D am_cl [(h0, .inr (1, [.ref h1, .ref q0, .long 0])), (q0, .inl (cI, 64, .inl (fun _ => 0)))] H := hP
  have hD : va_D A [(h0, .inr (1, [.ref h1, .ref q0, .long 0])), (q0, .inl (cI, 64, .inl (fun _ => 0)))] := hD
  have hP9 := hP.sub (ws' := [(h0, .inr (1, [.ref h1, .ref q0, .long 0])), (q0, .inl (cI, 64, .inl (fun _ => 0)))]) [0, 1] rfl
  have hD9 := hD.sub (ws' := [(h0, .inr (1, [.ref h1, .ref q0, .long 0])), (q0, .inl (cI, 64, .inl (fun _ => 0)))]) [0, 1] (by decide) rfl
  refine W.widen (k := 1) (n := 64) (Nat.le_refl _) (Nat.le_refl _) ?_
  exact W.vret hx hb hr (fun t ht hW => ⟨⟨(fun k => ([q0] : List Nat).getD k 0), rfl, trivial, ⟨by rw [ht]; exact hP9, va_K.moved hW.alike hK, hD9⟩⟩, hS.F ht⟩) hS.2.2 dX1_init_22

set_option maxHeartbeats 4000000 in
set_option maxRecDepth 100000 in
theorem k_X4_init (l : Launch) (D : va_G) (cI cL cS : ClassId) (sz h0 : Nat)  : cMet l D cI cL cS yX4_init cX4_init 1 1 2 10 12 sz [.ref h0] [(h0, .inr (4, [.null, .null, .int 0]))] (fun u => [(h0, .inr (4, [.ref (u 0), .ref (u 1), .int 0])), (u 0, .inl (cI, 5, .inl (fun _ => 0))), (u 1, .inl (cI, 5, .inl (fun _ => 0)))]) := by
  refine Met.ofW (cc := cX4_init) (maxL := 1) (ret := none) (by decide +kernel) rfl ?_
  intro p e s m args below meth c s₁ B hml hv
  obtain ⟨rfl, hsz, hP, hK, hD0, hAO⟩ := hv
  have hx := B.exec
  have hb := B.bytes
  have hr := B.returns
  have hts0 := atoms_spec (ws := Cond.code yX4_init cX4_init 1 none :: lw_g) B.pre
  have hts := fun w hw => hts0 w (List.mem_cons_of_mem _ hw)
  have hown : s.vm.findClass RX4 = some m.cls := findClass_of_methodNamed B.named
  have hlocks := B.notSynchronized
  have hin : meth.name = "<init>" := (name_of_methodNamed B.named B.method).1
  subst hsz
  have hD := hD0.self (sz := s.heap.size)
  generalize hAe : va_A [(h0, .inr (4, [.null, .null, .int 0]))] s.heap.size = A at hD ⊢
  have hA : ∀ q : Nat, s.heap.size ≤ q → A q := fun q h => by rw [← hAe]; exact Or.inr h
  have hS : va_S A s.heap s.heap [] := va_S.rf
  have hl := lv_entry ([.ref h0]) (n := 1) (Nat.le_of_ble_eq_true rfl)
  rw [lg_entry_eq]
  generalize (lg_sl ([.ref h0]) ++ List.replicate (1 - (lg_sl ([.ref h0])).length) Slot.unset).toArray = ls at hl ⊢
  have hl : lv_has ls 1 [(0, .ref h0)] := hl
  refine lv_aload_n hx hb dX4_init_0 rfl (lv_at hl 0 rfl) ?_
  refine W.objInit hx hb hown (hts (.methodLink RX4 3 Lib.objectInit) (in_g (i := 277) (by decide +kernel) (by decide +kernel))) (hts (.instanceMethod Lib.objectInit) (in_g (i := 88) (by decide +kernel) (by decide +kernel))) (hts _ (in_g (i := 89) (by decide +kernel) (by decide +kernel))) rfl (by rw [hml]; exact hl.1) rfl dX4_init_1 (Nat.le_of_ble_eq_true rfl) (Nat.le_of_ble_eq_true rfl) ?_
  refine W.eq (g2 := F0 m 4 ls []) rfl ?_
  refine lv_aload_n hx hb dX4_init_4 rfl (lv_at hl 0 rfl) ?_
  refine lv_iconst (v := 5) hx hb dX4_init_5 (by decide) ?_
  refine cn_newa (ty := .int) (a0 := (5, .inl (fun _ => 0))) (N' := 5) hx hb (hts _ (in_g (i := 114) (by decide +kernel) (by decide +kernel))) rfl hK 0 rfl hP hD hS hA (fun _ => rfl) (by decide) (by decide) (by decide) (Nat.le_of_ble_eq_true rfl) (Nat.le_of_ble_eq_true rfl) dX4_init_6 (fun q0 H hP hD hS => ?_)
  refine W.widen (k := 1) (n := 5) (by decide) (by decide) ?_
  have hP : va_P D am_cl [(h0, .inr (4, [.null, .null, .int 0])), (q0, .inl (cI, 5, .inl (fun _ => 0)))] H := hP
  have hD : va_D A [(h0, .inr (4, [.null, .null, .int 0])), (q0, .inl (cI, 5, .inl (fun _ => 0)))] := hD
  refine va_putF (D := D) (ref := RX4) (ci := 4) (v := .ref q0) (ty := tyX4 0) (C := RX4) (T := TX4) (N := 3) hx hb hts inC_4 tyX4 tyX4_ok nmX4 hown hK hP hD hS 0 rfl rfl 0 (by decide) (hts _ (in_g (i := 278) (by decide +kernel) (by decide +kernel))) (fun _ h9 => h9) rfl hin rfl (tyX4_ok 0 (by decide)) rfl rfl (Nat.le_of_ble_eq_true rfl) dX4_init_8 (fun H locs hP hD hS => ?_)
  have hP : va_P D am_cl [(h0, .inr (4, [.ref q0, .null, .int 0])), (q0, .inl (cI, 5, .inl (fun _ => 0)))] H := hP
  have hD : va_D A [(h0, .inr (4, [.ref q0, .null, .int 0])), (q0, .inl (cI, 5, .inl (fun _ => 0)))] := hD
  refine lv_aload_n hx hb dX4_init_11 rfl (lv_at hl 0 rfl) ?_
  refine lv_iconst (v := 5) hx hb dX4_init_12 (by decide) ?_
  refine cn_newa (ty := .int) (a0 := (5, .inl (fun _ => 0))) (N' := 5) hx hb (hts _ (in_g (i := 114) (by decide +kernel) (by decide +kernel))) rfl hK 0 rfl hP hD hS hA (fun _ => rfl) (by decide) (by decide) (by decide) (Nat.le_of_ble_eq_true rfl) (Nat.le_of_ble_eq_true rfl) dX4_init_13 (fun q1 H hP hD hS => ?_)
  refine W.widen (k := 2) (n := 10) (by decide) (by decide) ?_
  have hP : va_P D am_cl [(h0, .inr (4, [.ref q0, .null, .int 0])), (q0, .inl (cI, 5, .inl (fun _ => 0))), (q1, .inl (cI, 5, .inl (fun _ => 0)))] H := hP
  have hD : va_D A [(h0, .inr (4, [.ref q0, .null, .int 0])), (q0, .inl (cI, 5, .inl (fun _ => 0))), (q1, .inl (cI, 5, .inl (fun _ => 0)))] := hD
  refine va_putF (D := D) (ref := RX4) (ci := 4) (v := .ref q1) (ty := tyX4 1) (C := RX4) (T := TX4) (N := 3) hx hb hts inC_4 tyX4 tyX4_ok nmX4 hown hK hP hD hS 0 rfl rfl 1 (by decide) (hts _ (in_g (i := 279) (by decide +kernel) (by decide +kernel))) (fun _ h9 => h9) rfl hin rfl (tyX4_ok 1 (by decide)) rfl rfl (Nat.le_of_ble_eq_true rfl) dX4_init_15 (fun H locs hP hD hS => ?_)
  have hP : va_P D am_cl [(h0, .inr (4, [.ref q0, .ref q1, .int 0])), (q0, .inl (cI, 5, .inl (fun _ => 0))), (q1, .inl (cI, 5, .inl (fun _ => 0)))] H := hP
  have hD : va_D A [(h0, .inr (4, [.ref q0, .ref q1, .int 0])), (q0, .inl (cI, 5, .inl (fun _ => 0))), (q1, .inl (cI, 5, .inl (fun _ => 0)))] := hD
  refine lv_aload_n hx hb dX4_init_18 rfl (lv_at hl 0 rfl) ?_
  refine lv_iconst (v := 0) hx hb dX4_init_19 (by decide) ?_
  refine va_put (D := D) (ref := RX4) (ci := 4) (v := .int 0) (ty := tyX4 2) (C := RX4) (T := TX4) (N := 3) hx hb hts inC_4 tyX4 tyX4_ok nmX4 hown hK hP hD hS 0 rfl rfl 2 (by decide) (hts _ (in_g (i := 280) (by decide +kernel) (by decide +kernel))) (fun _ h9 => h9) rfl (tyX4_ok 2 (by decide)) rfl rfl (Nat.le_of_ble_eq_true rfl) dX4_init_20 (fun H locs hP hD hS => ?_)
  have hP : va_P D am_cl [(h0, .inr (4, [.ref q0, .ref q1, .int 0])), (q0, .inl (cI, 5, .inl (fun _ => 0))), (q1, .inl (cI, 5, .inl (fun _ => 0)))] H := hP
  have hD : va_D A [(h0, .inr (4, [.ref q0, .ref q1, .int 0])), (q0, .inl (cI, 5, .inl (fun _ => 0))), (q1, .inl (cI, 5, .inl (fun _ => 0)))] := hD
  have hP9 := hP.sub (ws' := [(h0, .inr (4, [.ref q0, .ref q1, .int 0])), (q0, .inl (cI, 5, .inl (fun _ => 0))), (q1, .inl (cI, 5, .inl (fun _ => 0)))]) [0, 1, 2] rfl
  have hD9 := hD.sub (ws' := [(h0, .inr (4, [.ref q0, .ref q1, .int 0])), (q0, .inl (cI, 5, .inl (fun _ => 0))), (q1, .inl (cI, 5, .inl (fun _ => 0)))]) [0, 1, 2] (by decide) rfl
  refine W.widen (k := 2) (n := 10) (Nat.le_refl _) (Nat.le_refl _) ?_
  exact W.vret hx hb hr (fun t ht hW => ⟨⟨(fun k => ([q0, q1] : List Nat).getD k 0), rfl, trivial, ⟨by rw [ht]; exact hP9, va_K.moved hW.alike hK, hD9⟩⟩, hS.F ht⟩) hS.2.2 dX4_init_23

set_option maxHeartbeats 4000000 in
set_option maxRecDepth 100000 in
theorem k_X5_init (l : Launch) (D : va_G) (cI cL cS : ClassId) (sz h0 : Nat) (h1 : Nat) (h2 : Nat) : cMet l D cI cL cS yX5_init cX5_init 3 1 2 128 12 sz [.ref h0, .ref h1, .ref h2] [(h0, .inr (5, [.null, .null, .null, .null, .long 0]))] (fun u => [(h0, .inr (5, [.ref h1, .ref h2, .ref (u 0), .ref (u 1), .long 1])), (u 0, .inl (cL, 64, .inr (.inl (fun _ => 0)))), (u 1, .inl (cL, 64, .inr (.inl (fun _ => 0))))]) := by
  refine Met.ofW (cc := cX5_init) (maxL := 3) (ret := none) (by decide +kernel) rfl ?_
  intro p e s m args below meth c s₁ B hml hv
  obtain ⟨rfl, hsz, hP, hK, hD0, hAO⟩ := hv
  have hx := B.exec
  have hb := B.bytes
  have hr := B.returns
  have hts0 := atoms_spec (ws := Cond.code yX5_init cX5_init 3 none :: lw_g) B.pre
  have hts := fun w hw => hts0 w (List.mem_cons_of_mem _ hw)
  have hown : s.vm.findClass RX5 = some m.cls := findClass_of_methodNamed B.named
  have hlocks := B.notSynchronized
  have hin : meth.name = "<init>" := (name_of_methodNamed B.named B.method).1
  subst hsz
  have hD := hD0.self (sz := s.heap.size)
  generalize hAe : va_A [(h0, .inr (5, [.null, .null, .null, .null, .long 0]))] s.heap.size = A at hD ⊢
  have hA : ∀ q : Nat, s.heap.size ≤ q → A q := fun q h => by rw [← hAe]; exact Or.inr h
  have hS : va_S A s.heap s.heap [] := va_S.rf
  have hl := lv_entry ([.ref h0, .ref h1, .ref h2]) (n := 3) (Nat.le_of_ble_eq_true rfl)
  rw [lg_entry_eq]
  generalize (lg_sl ([.ref h0, .ref h1, .ref h2]) ++ List.replicate (3 - (lg_sl ([.ref h0, .ref h1, .ref h2])).length) Slot.unset).toArray = ls at hl ⊢
  have hl : lv_has ls 3 [(0, .ref h0), (1, .ref h1), (2, .ref h2)] := hl
  refine lv_aload_n hx hb dX5_init_0 rfl (lv_at hl 0 rfl) ?_
  refine W.objInit hx hb hown (hts (.methodLink RX5 3 Lib.objectInit) (in_g (i := 253) (by decide +kernel) (by decide +kernel))) (hts (.instanceMethod Lib.objectInit) (in_g (i := 88) (by decide +kernel) (by decide +kernel))) (hts _ (in_g (i := 89) (by decide +kernel) (by decide +kernel))) rfl (by rw [hml]; exact hl.1) rfl dX5_init_1 (Nat.le_of_ble_eq_true rfl) (Nat.le_of_ble_eq_true rfl) ?_
  refine W.eq (g2 := F0 m 4 ls []) rfl ?_
  refine lv_aload_n hx hb dX5_init_4 rfl (lv_at hl 0 rfl) ?_
  refine lv_aload_n hx hb dX5_init_5 rfl (lv_at hl 1 rfl) ?_
  refine va_putF (D := D) (ref := RX5) (ci := 5) (v := .ref h1) (ty := tyX5 0) (C := RX5) (T := TX5) (N := 5) hx hb hts inC_5 tyX5 tyX5_ok nmX5 hown hK hP hD hS 0 rfl rfl 0 (by decide) (hts _ (in_g (i := 254) (by decide +kernel) (by decide +kernel))) (fun _ h9 => h9) rfl hin rfl (tyX5_ok 0 (by decide)) rfl rfl (Nat.le_of_ble_eq_true rfl) dX5_init_6 (fun H locs hP hD hS => ?_)
  have hP : va_P D am_cl [(h0, .inr (5, [.ref h1, .null, .null, .null, .long 0]))] H := hP
  have hD : va_D A [(h0, .inr (5, [.ref h1, .null, .null, .null, .long 0]))] := hD
  refine lv_aload_n hx hb dX5_init_9 rfl (lv_at hl 0 rfl) ?_
  refine lv_aload_n hx hb dX5_init_10 rfl (lv_at hl 2 rfl) ?_
  refine va_putF (D := D) (ref := RX5) (ci := 5) (v := .ref h2) (ty := tyX5 1) (C := RX5) (T := TX5) (N := 5) hx hb hts inC_5 tyX5 tyX5_ok nmX5 hown hK hP hD hS 0 rfl rfl 1 (by decide) (hts _ (in_g (i := 255) (by decide +kernel) (by decide +kernel))) (fun _ h9 => h9) rfl hin rfl (tyX5_ok 1 (by decide)) rfl rfl (Nat.le_of_ble_eq_true rfl) dX5_init_11 (fun H locs hP hD hS => ?_)
  have hP : va_P D am_cl [(h0, .inr (5, [.ref h1, .ref h2, .null, .null, .long 0]))] H := hP
  have hD : va_D A [(h0, .inr (5, [.ref h1, .ref h2, .null, .null, .long 0]))] := hD
  refine lv_aload_n hx hb dX5_init_14 rfl (lv_at hl 0 rfl) ?_
  refine lv_bipush (v := 64) hx hb dX5_init_15 (by decide) ?_
  refine cn_newa (ty := .long) (a0 := (64, .inr (.inl (fun _ => 0)))) (N' := 64) hx hb (hts _ (in_g (i := 271) (by decide +kernel) (by decide +kernel))) rfl hK 1 rfl hP hD hS hA (fun _ => rfl) (by decide) (by decide) (by decide) (Nat.le_of_ble_eq_true rfl) (Nat.le_of_ble_eq_true rfl) dX5_init_17 (fun q0 H hP hD hS => ?_)
  refine W.widen (k := 1) (n := 64) (by decide) (by decide) ?_
  have hP : va_P D am_cl [(h0, .inr (5, [.ref h1, .ref h2, .null, .null, .long 0])), (q0, .inl (cL, 64, .inr (.inl (fun _ => 0))))] H := hP
  have hD : va_D A [(h0, .inr (5, [.ref h1, .ref h2, .null, .null, .long 0])), (q0, .inl (cL, 64, .inr (.inl (fun _ => 0))))] := hD
  refine va_putF (D := D) (ref := RX5) (ci := 5) (v := .ref q0) (ty := tyX5 2) (C := RX5) (T := TX5) (N := 5) hx hb hts inC_5 tyX5 tyX5_ok nmX5 hown hK hP hD hS 0 rfl rfl 2 (by decide) (hts _ (in_g (i := 256) (by decide +kernel) (by decide +kernel))) (fun _ h9 => h9) rfl hin rfl (tyX5_ok 2 (by decide)) rfl rfl (Nat.le_of_ble_eq_true rfl) dX5_init_19 (fun H locs hP hD hS => ?_)
  have hP : va_P D am_cl [(h0, .inr (5, [.ref h1, .ref h2, .ref q0, .null, .long 0])), (q0, .inl (cL, 64, .inr (.inl (fun _ => 0))))] H := hP
  have hD : va_D A [(h0, .inr (5, [.ref h1, .ref h2, .ref q0, .null, .long 0])), (q0, .inl (cL, 64, .inr (.inl (fun _ => 0))))] := hD
  refine lv_aload_n hx hb dX5_init_22 rfl (lv_at hl 0 rfl) ?_
  refine lv_bipush (v := 64) hx hb dX5_init_23 (by decide) ?_
  refine cn_newa (ty := .long) (a0 := (64, .inr (.inl (fun _ => 0)))) (N' := 64) hx hb (hts _ (in_g (i := 271) (by decide +kernel) (by decide +kernel))) rfl hK 1 rfl hP hD hS hA (fun _ => rfl) (by decide) (by decide) (by decide) (Nat.le_of_ble_eq_true rfl) (Nat.le_of_ble_eq_true rfl) dX5_init_25 (fun q1 H hP hD hS => ?_)
  refine W.widen (k := 2) (n := 128) (by decide) (by decide) ?_
  have hP : va_P D am_cl [(h0, .inr (5, [.ref h1, .ref h2, .ref q0, .null, .long 0])), (q0, .inl (cL, 64, .inr (.inl (fun _ => 0)))), (q1, .inl (cL, 64, .inr (.inl (fun _ => 0))))] H := hP
  have hD : va_D A [(h0, .inr (5, [.ref h1, .ref h2, .ref q0, .null, .long 0])), (q0, .inl (cL, 64, .inr (.inl (fun _ => 0)))), (q1, .inl (cL, 64, .inr (.inl (fun _ => 0))))] := hD
  refine va_putF (D := D) (ref := RX5) (ci := 5) (v := .ref q1) (ty := tyX5 3) (C := RX5) (T := TX5) (N := 5) hx hb hts inC_5 tyX5 tyX5_ok nmX5 hown hK hP hD hS 0 rfl rfl 3 (by decide) (hts _ (in_g (i := 257) (by decide +kernel) (by decide +kernel))) (fun _ h9 => h9) rfl hin rfl (tyX5_ok 3 (by decide)) rfl rfl (Nat.le_of_ble_eq_true rfl) dX5_init_27 (fun H locs hP hD hS => ?_)
  have hP : va_P D am_cl [(h0, .inr (5, [.ref h1, .ref h2, .ref q0, .ref q1, .long 0])), (q0, .inl (cL, 64, .inr (.inl (fun _ => 0)))), (q1, .inl (cL, 64, .inr (.inl (fun _ => 0))))] H := hP
  have hD : va_D A [(h0, .inr (5, [.ref h1, .ref h2, .ref q0, .ref q1, .long 0])), (q0, .inl (cL, 64, .inr (.inl (fun _ => 0)))), (q1, .inl (cL, 64, .inr (.inl (fun _ => 0))))] := hD
  refine lv_aload_n hx hb dX5_init_30 rfl (lv_at hl 0 rfl) ?_
  refine lv_lconst (v := 1) hx hb dX5_init_31 (by decide) ?_
  refine va_put (D := D) (ref := RX5) (ci := 5) (v := .long 1) (ty := tyX5 4) (C := RX5) (T := TX5) (N := 5) hx hb hts inC_5 tyX5 tyX5_ok nmX5 hown hK hP hD hS 0 rfl rfl 4 (by decide) (hts _ (in_g (i := 258) (by decide +kernel) (by decide +kernel))) (fun _ h9 => h9) rfl (tyX5_ok 4 (by decide)) rfl rfl (Nat.le_of_ble_eq_true rfl) dX5_init_32 (fun H locs hP hD hS => ?_)
  have hP : va_P D am_cl [(h0, .inr (5, [.ref h1, .ref h2, .ref q0, .ref q1, .long 1])), (q0, .inl (cL, 64, .inr (.inl (fun _ => 0)))), (q1, .inl (cL, 64, .inr (.inl (fun _ => 0))))] H := hP
  have hD : va_D A [(h0, .inr (5, [.ref h1, .ref h2, .ref q0, .ref q1, .long 1])), (q0, .inl (cL, 64, .inr (.inl (fun _ => 0)))), (q1, .inl (cL, 64, .inr (.inl (fun _ => 0))))] := hD
  have hP9 := hP.sub (ws' := [(h0, .inr (5, [.ref h1, .ref h2, .ref q0, .ref q1, .long 1])), (q0, .inl (cL, 64, .inr (.inl (fun _ => 0)))), (q1, .inl (cL, 64, .inr (.inl (fun _ => 0))))]) [0, 1, 2] rfl
  have hD9 := hD.sub (ws' := [(h0, .inr (5, [.ref h1, .ref h2, .ref q0, .ref q1, .long 1])), (q0, .inl (cL, 64, .inr (.inl (fun _ => 0)))), (q1, .inl (cL, 64, .inr (.inl (fun _ => 0))))]) [0, 1, 2] (by decide) rfl
  refine W.widen (k := 2) (n := 128) (Nat.le_refl _) (Nat.le_refl _) ?_
  exact W.vret hx hb hr (fun t ht hW => ⟨⟨(fun k => ([q0, q1] : List Nat).getD k 0), rfl, trivial, ⟨by rw [ht]; exact hP9, va_K.moved hW.alike hK, hD9⟩⟩, hS.F ht⟩) hS.2.2 dX5_init_35

set_option maxHeartbeats 4000000 in
set_option maxRecDepth 100000 in
theorem k_X6_init (l : Launch) (D : va_G) (cI cL cS : ClassId) (sz h0 : Nat)  : cMet l D cI cL cS yX6_init cX6_init 1 1 3 291 12 sz [.ref h0] [(h0, .inr (6, [.null, .null, .null]))] (fun u => [(h0, .inr (6, [.ref (u 0), .ref (u 1), .ref (u 2)])), (u 0, .inl (cI, 35, .inl (fun _ => 0))), (u 1, .inl (cI, 32, .inl (fun _ => 0))), (u 2, .inl (cI, 224, .inl (fun _ => 0)))]) := by
  refine Met.ofW (cc := cX6_init) (maxL := 1) (ret := none) (by decide +kernel) rfl ?_
  intro p e s m args below meth c s₁ B hml hv
  obtain ⟨rfl, hsz, hP, hK, hD0, hAO⟩ := hv
  have hx := B.exec
  have hb := B.bytes
  have hr := B.returns
  have hts0 := atoms_spec (ws := Cond.code yX6_init cX6_init 1 none :: lw_g) B.pre
  have hts := fun w hw => hts0 w (List.mem_cons_of_mem _ hw)
  have hown : s.vm.findClass RX6 = some m.cls := findClass_of_methodNamed B.named
  have hlocks := B.notSynchronized
  have hin : meth.name = "<init>" := (name_of_methodNamed B.named B.method).1
  subst hsz
  have hD := hD0.self (sz := s.heap.size)
  generalize hAe : va_A [(h0, .inr (6, [.null, .null, .null]))] s.heap.size = A at hD ⊢
  have hA : ∀ q : Nat, s.heap.size ≤ q → A q := fun q h => by rw [← hAe]; exact Or.inr h
  have hS : va_S A s.heap s.heap [] := va_S.rf
  have hl := lv_entry ([.ref h0]) (n := 1) (Nat.le_of_ble_eq_true rfl)
  rw [lg_entry_eq]
  generalize (lg_sl ([.ref h0]) ++ List.replicate (1 - (lg_sl ([.ref h0])).length) Slot.unset).toArray = ls at hl ⊢
  have hl : lv_has ls 1 [(0, .ref h0)] := hl
  refine lv_aload_n hx hb dX6_init_0 rfl (lv_at hl 0 rfl) ?_
  refine W.objInit hx hb hown (hts (.methodLink RX6 3 Lib.objectInit) (in_g (i := 294) (by decide +kernel) (by decide +kernel))) (hts (.instanceMethod Lib.objectInit) (in_g (i := 88) (by decide +kernel) (by decide +kernel))) (hts _ (in_g (i := 89) (by decide +kernel) (by decide +kernel))) rfl (by rw [hml]; exact hl.1) rfl dX6_init_1 (Nat.le_of_ble_eq_true rfl) (Nat.le_of_ble_eq_true rfl) ?_
  refine W.eq (g2 := F0 m 4 ls []) rfl ?_
  refine lv_aload_n hx hb dX6_init_4 rfl (lv_at hl 0 rfl) ?_
  refine lv_bipush (v := 35) hx hb dX6_init_5 (by decide) ?_
  refine cn_newa (ty := .int) (a0 := (35, .inl (fun _ => 0))) (N' := 35) hx hb (hts _ (in_g (i := 114) (by decide +kernel) (by decide +kernel))) rfl hK 0 rfl hP hD hS hA (fun _ => rfl) (by decide) (by decide) (by decide) (Nat.le_of_ble_eq_true rfl) (Nat.le_of_ble_eq_true rfl) dX6_init_7 (fun q0 H hP hD hS => ?_)
  refine W.widen (k := 1) (n := 35) (by decide) (by decide) ?_
  have hP : va_P D am_cl [(h0, .inr (6, [.null, .null, .null])), (q0, .inl (cI, 35, .inl (fun _ => 0)))] H := hP
  have hD : va_D A [(h0, .inr (6, [.null, .null, .null])), (q0, .inl (cI, 35, .inl (fun _ => 0)))] := hD
  refine va_putF (D := D) (ref := RX6) (ci := 6) (v := .ref q0) (ty := tyX6 0) (C := RX6) (T := TX6) (N := 3) hx hb hts inC_6 tyX6 tyX6_ok nmX6 hown hK hP hD hS 0 rfl rfl 0 (by decide) (hts _ (in_g (i := 295) (by decide +kernel) (by decide +kernel))) (fun _ h9 => h9) rfl hin rfl (tyX6_ok 0 (by decide)) rfl rfl (Nat.le_of_ble_eq_true rfl) dX6_init_9 (fun H locs hP hD hS => ?_)
  have hP : va_P D am_cl [(h0, .inr (6, [.ref q0, .null, .null])), (q0, .inl (cI, 35, .inl (fun _ => 0)))] H := hP
  have hD : va_D A [(h0, .inr (6, [.ref q0, .null, .null])), (q0, .inl (cI, 35, .inl (fun _ => 0)))] := hD
  refine lv_aload_n hx hb dX6_init_12 rfl (lv_at hl 0 rfl) ?_
  refine lv_bipush (v := 32) hx hb dX6_init_13 (by decide) ?_
  refine cn_newa (ty := .int) (a0 := (32, .inl (fun _ => 0))) (N' := 32) hx hb (hts _ (in_g (i := 114) (by decide +kernel) (by decide +kernel))) rfl hK 0 rfl hP hD hS hA (fun _ => rfl) (by decide) (by decide) (by decide) (Nat.le_of_ble_eq_true rfl) (Nat.le_of_ble_eq_true rfl) dX6_init_15 (fun q1 H hP hD hS => ?_)
  refine W.widen (k := 2) (n := 67) (by decide) (by decide) ?_
  have hP : va_P D am_cl [(h0, .inr (6, [.ref q0, .null, .null])), (q0, .inl (cI, 35, .inl (fun _ => 0))), (q1, .inl (cI, 32, .inl (fun _ => 0)))] H := hP
  have hD : va_D A [(h0, .inr (6, [.ref q0, .null, .null])), (q0, .inl (cI, 35, .inl (fun _ => 0))), (q1, .inl (cI, 32, .inl (fun _ => 0)))] := hD
  refine va_putF (D := D) (ref := RX6) (ci := 6) (v := .ref q1) (ty := tyX6 1) (C := RX6) (T := TX6) (N := 3) hx hb hts inC_6 tyX6 tyX6_ok nmX6 hown hK hP hD hS 0 rfl rfl 1 (by decide) (hts _ (in_g (i := 296) (by decide +kernel) (by decide +kernel))) (fun _ h9 => h9) rfl hin rfl (tyX6_ok 1 (by decide)) rfl rfl (Nat.le_of_ble_eq_true rfl) dX6_init_17 (fun H locs hP hD hS => ?_)
  have hP : va_P D am_cl [(h0, .inr (6, [.ref q0, .ref q1, .null])), (q0, .inl (cI, 35, .inl (fun _ => 0))), (q1, .inl (cI, 32, .inl (fun _ => 0)))] H := hP
  have hD : va_D A [(h0, .inr (6, [.ref q0, .ref q1, .null])), (q0, .inl (cI, 35, .inl (fun _ => 0))), (q1, .inl (cI, 32, .inl (fun _ => 0)))] := hD
  refine lv_aload_n hx hb dX6_init_20 rfl (lv_at hl 0 rfl) ?_
  refine lv_sipush (v := 224) hx hb dX6_init_21 (by decide) ?_
  refine cn_newa (ty := .int) (a0 := (224, .inl (fun _ => 0))) (N' := 224) hx hb (hts _ (in_g (i := 114) (by decide +kernel) (by decide +kernel))) rfl hK 0 rfl hP hD hS hA (fun _ => rfl) (by decide) (by decide) (by decide) (Nat.le_of_ble_eq_true rfl) (Nat.le_of_ble_eq_true rfl) dX6_init_24 (fun q2 H hP hD hS => ?_)
  refine W.widen (k := 3) (n := 291) (by decide) (by decide) ?_
  have hP : va_P D am_cl [(h0, .inr (6, [.ref q0, .ref q1, .null])), (q0, .inl (cI, 35, .inl (fun _ => 0))), (q1, .inl (cI, 32, .inl (fun _ => 0))), (q2, .inl (cI, 224, .inl (fun _ => 0)))] H := hP
  have hD : va_D A [(h0, .inr (6, [.ref q0, .ref q1, .null])), (q0, .inl (cI, 35, .inl (fun _ => 0))), (q1, .inl (cI, 32, .inl (fun _ => 0))), (q2, .inl (cI, 224, .inl (fun _ => 0)))] := hD
  refine va_putF (D := D) (ref := RX6) (ci := 6) (v := .ref q2) (ty := tyX6 2) (C := RX6) (T := TX6) (N := 3) hx hb hts inC_6 tyX6 tyX6_ok nmX6 hown hK hP hD hS 0 rfl rfl 2 (by decide) (hts _ (in_g (i := 297) (by decide +kernel) (by decide +kernel))) (fun _ h9 => h9) rfl hin rfl (tyX6_ok 2 (by decide)) rfl rfl (Nat.le_of_ble_eq_true rfl) dX6_init_26 (fun H locs hP hD hS => ?_)
  have hP : va_P D am_cl [(h0, .inr (6, [.ref q0, .ref q1, .ref q2])), (q0, .inl (cI, 35, .inl (fun _ => 0))), (q1, .inl (cI, 32, .inl (fun _ => 0))), (q2, .inl (cI, 224, .inl (fun _ => 0)))] H := hP
  have hD : va_D A [(h0, .inr (6, [.ref q0, .ref q1, .ref q2])), (q0, .inl (cI, 35, .inl (fun _ => 0))), (q1, .inl (cI, 32, .inl (fun _ => 0))), (q2, .inl (cI, 224, .inl (fun _ => 0)))] := hD
  have hP9 := hP.sub (ws' := [(h0, .inr (6, [.ref q0, .ref q1, .ref q2])), (q0, .inl (cI, 35, .inl (fun _ => 0))), (q1, .inl (cI, 32, .inl (fun _ => 0))), (q2, .inl (cI, 224, .inl (fun _ => 0)))]) [0, 1, 2, 3] rfl
  have hD9 := hD.sub (ws' := [(h0, .inr (6, [.ref q0, .ref q1, .ref q2])), (q0, .inl (cI, 35, .inl (fun _ => 0))), (q1, .inl (cI, 32, .inl (fun _ => 0))), (q2, .inl (cI, 224, .inl (fun _ => 0)))]) [0, 1, 2, 3] (by decide) rfl
  refine W.widen (k := 3) (n := 291) (Nat.le_refl _) (Nat.le_refl _) ?_
  exact W.vret hx hb hr (fun t ht hW => ⟨⟨(fun k => ([q0, q1, q2] : List Nat).getD k 0), rfl, trivial, ⟨by rw [ht]; exact hP9, va_K.moved hW.alike hK, hD9⟩⟩, hS.F ht⟩) hS.2.2 dX6_init_29

set_option maxHeartbeats 4000000 in
set_option maxRecDepth 100000 in
theorem k_X7_init (l : Launch) (D : va_G) (cI cL cS : ClassId) (sz h0 : Nat)  : cMet l D cI cL cS yX7_init cX7_init 1 1 1 64 12 sz [.ref h0] [(h0, .inr (7, [.null, .int 0, .int 0]))] (fun u => [(h0, .inr (7, [.ref (u 0), .int (-1), .int 0])), (u 0, .inl (cI, 64, .inl (fun _ => 0)))]) := by
  refine Met.ofW (cc := cX7_init) (maxL := 1) (ret := none) (by decide +kernel) rfl ?_
  intro p e s m args below meth c s₁ B hml hv
  obtain ⟨rfl, hsz, hP, hK, hD0, hAO⟩ := hv
  have hx := B.exec
  have hb := B.bytes
  have hr := B.returns
  have hts0 := atoms_spec (ws := Cond.code yX7_init cX7_init 1 none :: lw_g) B.pre
  have hts := fun w hw => hts0 w (List.mem_cons_of_mem _ hw)
  have hown : s.vm.findClass RX7 = some m.cls := findClass_of_methodNamed B.named
  have hlocks := B.notSynchronized
  have hin : meth.name = "<init>" := (name_of_methodNamed B.named B.method).1
  subst hsz
  have hD := hD0.self (sz := s.heap.size)
  generalize hAe : va_A [(h0, .inr (7, [.null, .int 0, .int 0]))] s.heap.size = A at hD ⊢
  have hA : ∀ q : Nat, s.heap.size ≤ q → A q := fun q h => by rw [← hAe]; exact Or.inr h
  have hS : va_S A s.heap s.heap [] := va_S.rf
  have hl := lv_entry ([.ref h0]) (n := 1) (Nat.le_of_ble_eq_true rfl)
  rw [lg_entry_eq]
  generalize (lg_sl ([.ref h0]) ++ List.replicate (1 - (lg_sl ([.ref h0])).length) Slot.unset).toArray = ls at hl ⊢
  have hl : lv_has ls 1 [(0, .ref h0)] := hl
  refine lv_aload_n hx hb dX7_init_0 rfl (lv_at hl 0 rfl) ?_
  refine W.objInit hx hb hown (hts (.methodLink RX7 3 Lib.objectInit) (in_g (i := 311) (by decide +kernel) (by decide +kernel))) (hts (.instanceMethod Lib.objectInit) (in_g (i := 88) (by decide +kernel) (by decide +kernel))) (hts _ (in_g (i := 89) (by decide +kernel) (by decide +kernel))) rfl (by rw [hml]; exact hl.1) rfl dX7_init_1 (Nat.le_of_ble_eq_true rfl) (Nat.le_of_ble_eq_true rfl) ?_
  refine W.eq (g2 := F0 m 4 ls []) rfl ?_
  refine lv_aload_n hx hb dX7_init_4 rfl (lv_at hl 0 rfl) ?_
  refine lv_bipush (v := 64) hx hb dX7_init_5 (by decide) ?_
  refine cn_newa (ty := .int) (a0 := (64, .inl (fun _ => 0))) (N' := 64) hx hb (hts _ (in_g (i := 114) (by decide +kernel) (by decide +kernel))) rfl hK 0 rfl hP hD hS hA (fun _ => rfl) (by decide) (by decide) (by decide) (Nat.le_of_ble_eq_true rfl) (Nat.le_of_ble_eq_true rfl) dX7_init_7 (fun q0 H hP hD hS => ?_)
  refine W.widen (k := 1) (n := 64) (by decide) (by decide) ?_
  have hP : va_P D am_cl [(h0, .inr (7, [.null, .int 0, .int 0])), (q0, .inl (cI, 64, .inl (fun _ => 0)))] H := hP
  have hD : va_D A [(h0, .inr (7, [.null, .int 0, .int 0])), (q0, .inl (cI, 64, .inl (fun _ => 0)))] := hD
  refine va_putF (D := D) (ref := RX7) (ci := 7) (v := .ref q0) (ty := tyX7 0) (C := RX7) (T := TX7) (N := 3) hx hb hts inC_7 tyX7 tyX7_ok nmX7 hown hK hP hD hS 0 rfl rfl 0 (by decide) (hts _ (in_g (i := 312) (by decide +kernel) (by decide +kernel))) (fun _ h9 => h9) rfl hin rfl (tyX7_ok 0 (by decide)) rfl rfl (Nat.le_of_ble_eq_true rfl) dX7_init_9 (fun H locs hP hD hS => ?_)
  have hP : va_P D am_cl [(h0, .inr (7, [.ref q0, .int 0, .int 0])), (q0, .inl (cI, 64, .inl (fun _ => 0)))] H := hP
  have hD : va_D A [(h0, .inr (7, [.ref q0, .int 0, .int 0])), (q0, .inl (cI, 64, .inl (fun _ => 0)))] := hD
  refine lv_aload_n hx hb dX7_init_12 rfl (lv_at hl 0 rfl) ?_
  refine lv_iconst (v := (-1)) hx hb dX7_init_13 (by decide) ?_
  refine va_put (D := D) (ref := RX7) (ci := 7) (v := .int (-1)) (ty := tyX7 1) (C := RX7) (T := TX7) (N := 3) hx hb hts inC_7 tyX7 tyX7_ok nmX7 hown hK hP hD hS 0 rfl rfl 1 (by decide) (hts _ (in_g (i := 314) (by decide +kernel) (by decide +kernel))) (fun _ h9 => h9) rfl (tyX7_ok 1 (by decide)) rfl rfl (Nat.le_of_ble_eq_true rfl) dX7_init_14 (fun H locs hP hD hS => ?_)
  have hP : va_P D am_cl [(h0, .inr (7, [.ref q0, .int (-1), .int 0])), (q0, .inl (cI, 64, .inl (fun _ => 0)))] H := hP
  have hD : va_D A [(h0, .inr (7, [.ref q0, .int (-1), .int 0])), (q0, .inl (cI, 64, .inl (fun _ => 0)))] := hD
  refine lv_aload_n hx hb dX7_init_17 rfl (lv_at hl 0 rfl) ?_
  refine lv_iconst (v := 0) hx hb dX7_init_18 (by decide) ?_
  refine va_put (D := D) (ref := RX7) (ci := 7) (v := .int 0) (ty := tyX7 2) (C := RX7) (T := TX7) (N := 3) hx hb hts inC_7 tyX7 tyX7_ok nmX7 hown hK hP hD hS 0 rfl rfl 2 (by decide) (hts _ (in_g (i := 316) (by decide +kernel) (by decide +kernel))) (fun _ h9 => h9) rfl (tyX7_ok 2 (by decide)) rfl rfl (Nat.le_of_ble_eq_true rfl) dX7_init_19 (fun H locs hP hD hS => ?_)
  have hP : va_P D am_cl [(h0, .inr (7, [.ref q0, .int (-1), .int 0])), (q0, .inl (cI, 64, .inl (fun _ => 0)))] H := hP
  have hD : va_D A [(h0, .inr (7, [.ref q0, .int (-1), .int 0])), (q0, .inl (cI, 64, .inl (fun _ => 0)))] := hD
  have hP9 := hP.sub (ws' := [(h0, .inr (7, [.ref q0, .int (-1), .int 0])), (q0, .inl (cI, 64, .inl (fun _ => 0)))]) [0, 1] rfl
  have hD9 := hD.sub (ws' := [(h0, .inr (7, [.ref q0, .int (-1), .int 0])), (q0, .inl (cI, 64, .inl (fun _ => 0)))]) [0, 1] (by decide) rfl
  refine W.widen (k := 1) (n := 64) (Nat.le_refl _) (Nat.le_refl _) ?_
  exact W.vret hx hb hr (fun t ht hW => ⟨⟨(fun k => ([q0] : List Nat).getD k 0), rfl, trivial, ⟨by rw [ht]; exact hP9, va_K.moved hW.alike hK, hD9⟩⟩, hS.F ht⟩) hS.2.2 dX7_init_22

set_option maxHeartbeats 4000000 in
set_option maxRecDepth 100000 in
theorem k_X8_startWhole (l : Launch) (D : va_G) (cI cL cS : ClassId) (sz h0 : Nat) (v0 v1 v2 v3 v4 : Int32) : cMet l D cI cL cS yX8_startWhole cX8_startWhole 1 0 0 0 0 sz [.ref h0] [(h0, .inr (8, [.int v0, .int v1, .int v2, .int v3, .int v4]))] (fun u => [(h0, .inr (8, [.int v0, .int 0, .int (-1), .int (-1), .int 0]))]) := by
  refine Met.ofW (cc := cX8_startWhole) (maxL := 1) (ret := none) (by decide +kernel) rfl ?_
  intro p e s m args below meth c s₁ B hml hv
  obtain ⟨rfl, hsz, hP, hK, hD0, hAO⟩ := hv
  have hx := B.exec
  have hb := B.bytes
  have hr := B.returns
  have hts0 := atoms_spec (ws := Cond.code yX8_startWhole cX8_startWhole 1 none :: lw_g) B.pre
  have hts := fun w hw => hts0 w (List.mem_cons_of_mem _ hw)
  have hown : s.vm.findClass RX8 = some m.cls := findClass_of_methodNamed B.named
  have hlocks := B.notSynchronized
  subst hsz
  have hD := hD0.self (sz := s.heap.size)
  generalize hAe : va_A [(h0, .inr (8, [.int v0, .int v1, .int v2, .int v3, .int v4]))] s.heap.size = A at hD ⊢
  have hA : ∀ q : Nat, s.heap.size ≤ q → A q := fun q h => by rw [← hAe]; exact Or.inr h
  have hS : va_S A s.heap s.heap [] := va_S.rf
  have hl := lv_entry ([.ref h0]) (n := 1) (Nat.le_of_ble_eq_true rfl)
  rw [lg_entry_eq]
  generalize (lg_sl ([.ref h0]) ++ List.replicate (1 - (lg_sl ([.ref h0])).length) Slot.unset).toArray = ls at hl ⊢
  have hl : lv_has ls 1 [(0, .ref h0)] := hl
  refine lv_aload_n hx hb dX8_startWhole_0 rfl (lv_at hl 0 rfl) ?_
  refine lv_iconst (v := 0) hx hb dX8_startWhole_1 (by decide) ?_
  refine va_put (D := D) (ref := RX8) (ci := 8) (v := .int 0) (ty := tyX8 1) (C := RX8) (T := TX8) (N := 5) hx hb hts inC_8 tyX8 tyX8_ok nmX8 hown hK hP hD hS 0 rfl rfl 1 (by decide) (hts _ (in_g (i := 230) (by decide +kernel) (by decide +kernel))) (fun _ h9 => h9) rfl (tyX8_ok 1 (by decide)) rfl rfl (Nat.le_of_ble_eq_true rfl) dX8_startWhole_2 (fun H locs hP hD hS => ?_)
  have hP : va_P D am_cl [(h0, .inr (8, [.int v0, .int 0, .int v2, .int v3, .int v4]))] H := hP
  have hD : va_D A [(h0, .inr (8, [.int v0, .int 0, .int v2, .int v3, .int v4]))] := hD
  refine lv_aload_n hx hb dX8_startWhole_5 rfl (lv_at hl 0 rfl) ?_
  refine lv_iconst (v := (-1)) hx hb dX8_startWhole_6 (by decide) ?_
  refine va_put (D := D) (ref := RX8) (ci := 8) (v := .int (-1)) (ty := tyX8 2) (C := RX8) (T := TX8) (N := 5) hx hb hts inC_8 tyX8 tyX8_ok nmX8 hown hK hP hD hS 0 rfl rfl 2 (by decide) (hts _ (in_g (i := 231) (by decide +kernel) (by decide +kernel))) (fun _ h9 => h9) rfl (tyX8_ok 2 (by decide)) rfl rfl (Nat.le_of_ble_eq_true rfl) dX8_startWhole_7 (fun H locs hP hD hS => ?_)
  have hP : va_P D am_cl [(h0, .inr (8, [.int v0, .int 0, .int (-1), .int v3, .int v4]))] H := hP
  have hD : va_D A [(h0, .inr (8, [.int v0, .int 0, .int (-1), .int v3, .int v4]))] := hD
  refine lv_aload_n hx hb dX8_startWhole_10 rfl (lv_at hl 0 rfl) ?_
  refine lv_iconst (v := (-1)) hx hb dX8_startWhole_11 (by decide) ?_
  refine va_put (D := D) (ref := RX8) (ci := 8) (v := .int (-1)) (ty := tyX8 3) (C := RX8) (T := TX8) (N := 5) hx hb hts inC_8 tyX8 tyX8_ok nmX8 hown hK hP hD hS 0 rfl rfl 3 (by decide) (hts _ (in_g (i := 233) (by decide +kernel) (by decide +kernel))) (fun _ h9 => h9) rfl (tyX8_ok 3 (by decide)) rfl rfl (Nat.le_of_ble_eq_true rfl) dX8_startWhole_12 (fun H locs hP hD hS => ?_)
  have hP : va_P D am_cl [(h0, .inr (8, [.int v0, .int 0, .int (-1), .int (-1), .int v4]))] H := hP
  have hD : va_D A [(h0, .inr (8, [.int v0, .int 0, .int (-1), .int (-1), .int v4]))] := hD
  refine lv_aload_n hx hb dX8_startWhole_15 rfl (lv_at hl 0 rfl) ?_
  refine lv_iconst (v := 0) hx hb dX8_startWhole_16 (by decide) ?_
  refine va_put (D := D) (ref := RX8) (ci := 8) (v := .int 0) (ty := tyX8 4) (C := RX8) (T := TX8) (N := 5) hx hb hts inC_8 tyX8 tyX8_ok nmX8 hown hK hP hD hS 0 rfl rfl 4 (by decide) (hts _ (in_g (i := 235) (by decide +kernel) (by decide +kernel))) (fun _ h9 => h9) rfl (tyX8_ok 4 (by decide)) rfl rfl (Nat.le_of_ble_eq_true rfl) dX8_startWhole_17 (fun H locs hP hD hS => ?_)
  have hP : va_P D am_cl [(h0, .inr (8, [.int v0, .int 0, .int (-1), .int (-1), .int 0]))] H := hP
  have hD : va_D A [(h0, .inr (8, [.int v0, .int 0, .int (-1), .int (-1), .int 0]))] := hD
  have hP9 := hP.sub (ws' := [(h0, .inr (8, [.int v0, .int 0, .int (-1), .int (-1), .int 0]))]) [0] rfl
  have hD9 := hD.sub (ws' := [(h0, .inr (8, [.int v0, .int 0, .int (-1), .int (-1), .int 0]))]) [0] (by decide) rfl
  refine W.widen (k := 0) (n := 0) (Nat.le_refl _) (Nat.le_refl _) ?_
  exact W.vret hx hb hr (fun t ht hW => ⟨⟨(fun k => ([] : List Nat).getD k 0), rfl, trivial, ⟨by rw [ht]; exact hP9, va_K.moved hW.alike hK, hD9⟩⟩, hS.F ht⟩) hS.2.2 dX8_startWhole_20

set_option maxHeartbeats 4000000 in
set_option maxRecDepth 100000 in
theorem k_X9_init (l : Launch) (D : va_G) (cI cL cS : ClassId) (sz h0 : Nat) (x1 : Int32) : cMet l D cI cL cS yX9_init cX9_init 2 1 1 71 12 sz [.ref h0, .int x1] [(h0, .inr (9, [.int 0, .null, .int 0, .int 0]))] (fun u => [(h0, .inr (9, [.int x1, .ref (u 0), .int 0, .int (-1)])), (u 0, .inl (cI, 71, .inl (fun _ => 0)))]) := by
  refine Met.ofW (cc := cX9_init) (maxL := 2) (ret := none) (by decide +kernel) rfl ?_
  intro p e s m args below meth c s₁ B hml hv
  obtain ⟨rfl, hsz, hP, hK, hD0, hAO⟩ := hv
  have hx := B.exec
  have hb := B.bytes
  have hr := B.returns
  have hts0 := atoms_spec (ws := Cond.code yX9_init cX9_init 2 none :: lw_g) B.pre
  have hts := fun w hw => hts0 w (List.mem_cons_of_mem _ hw)
  have hown : s.vm.findClass RX9 = some m.cls := findClass_of_methodNamed B.named
  have hlocks := B.notSynchronized
  have hin : meth.name = "<init>" := (name_of_methodNamed B.named B.method).1
  subst hsz
  have hD := hD0.self (sz := s.heap.size)
  generalize hAe : va_A [(h0, .inr (9, [.int 0, .null, .int 0, .int 0]))] s.heap.size = A at hD ⊢
  have hA : ∀ q : Nat, s.heap.size ≤ q → A q := fun q h => by rw [← hAe]; exact Or.inr h
  have hS : va_S A s.heap s.heap [] := va_S.rf
  have hl := lv_entry ([.ref h0, .int x1]) (n := 2) (Nat.le_of_ble_eq_true rfl)
  rw [lg_entry_eq]
  generalize (lg_sl ([.ref h0, .int x1]) ++ List.replicate (2 - (lg_sl ([.ref h0, .int x1])).length) Slot.unset).toArray = ls at hl ⊢
  have hl : lv_has ls 2 [(0, .ref h0), (1, .int x1)] := hl
  refine lv_aload_n hx hb dX9_init_0 rfl (lv_at hl 0 rfl) ?_
  refine W.objInit hx hb hown (hts (.methodLink RX9 3 Lib.objectInit) (in_g (i := 95) (by decide +kernel) (by decide +kernel))) (hts (.instanceMethod Lib.objectInit) (in_g (i := 88) (by decide +kernel) (by decide +kernel))) (hts _ (in_g (i := 89) (by decide +kernel) (by decide +kernel))) rfl (by rw [hml]; exact hl.1) rfl dX9_init_1 (Nat.le_of_ble_eq_true rfl) (Nat.le_of_ble_eq_true rfl) ?_
  refine W.eq (g2 := F0 m 4 ls []) rfl ?_
  refine lv_aload_n hx hb dX9_init_4 rfl (lv_at hl 0 rfl) ?_
  refine lv_iload_n hx hb dX9_init_5 rfl (lv_at hl 1 rfl) ?_
  refine va_putF (D := D) (ref := RX9) (ci := 9) (v := .int x1) (ty := tyX9 0) (C := RX9) (T := TX9) (N := 4) hx hb hts inC_9 tyX9 tyX9_ok nmX9 hown hK hP hD hS 0 rfl rfl 0 (by decide) (hts _ (in_g (i := 96) (by decide +kernel) (by decide +kernel))) (fun _ h9 => h9) rfl hin rfl (tyX9_ok 0 (by decide)) rfl rfl (Nat.le_of_ble_eq_true rfl) dX9_init_6 (fun H locs hP hD hS => ?_)
  have hP : va_P D am_cl [(h0, .inr (9, [.int x1, .null, .int 0, .int 0]))] H := hP
  have hD : va_D A [(h0, .inr (9, [.int x1, .null, .int 0, .int 0]))] := hD
  refine lv_aload_n hx hb dX9_init_9 rfl (lv_at hl 0 rfl) ?_
  refine lv_bipush (v := 71) hx hb dX9_init_10 (by decide) ?_
  refine cn_newa (ty := .int) (a0 := (71, .inl (fun _ => 0))) (N' := 71) hx hb (hts _ (in_g (i := 114) (by decide +kernel) (by decide +kernel))) rfl hK 0 rfl hP hD hS hA (fun _ => rfl) (by decide) (by decide) (by decide) (Nat.le_of_ble_eq_true rfl) (Nat.le_of_ble_eq_true rfl) dX9_init_12 (fun q0 H hP hD hS => ?_)
  refine W.widen (k := 1) (n := 71) (by decide) (by decide) ?_
  have hP : va_P D am_cl [(h0, .inr (9, [.int x1, .null, .int 0, .int 0])), (q0, .inl (cI, 71, .inl (fun _ => 0)))] H := hP
  have hD : va_D A [(h0, .inr (9, [.int x1, .null, .int 0, .int 0])), (q0, .inl (cI, 71, .inl (fun _ => 0)))] := hD
  refine va_putF (D := D) (ref := RX9) (ci := 9) (v := .ref q0) (ty := tyX9 1) (C := RX9) (T := TX9) (N := 4) hx hb hts inC_9 tyX9 tyX9_ok nmX9 hown hK hP hD hS 0 rfl rfl 1 (by decide) (hts _ (in_g (i := 97) (by decide +kernel) (by decide +kernel))) (fun _ h9 => h9) rfl hin rfl (tyX9_ok 1 (by decide)) rfl rfl (Nat.le_of_ble_eq_true rfl) dX9_init_14 (fun H locs hP hD hS => ?_)
  have hP : va_P D am_cl [(h0, .inr (9, [.int x1, .ref q0, .int 0, .int 0])), (q0, .inl (cI, 71, .inl (fun _ => 0)))] H := hP
  have hD : va_D A [(h0, .inr (9, [.int x1, .ref q0, .int 0, .int 0])), (q0, .inl (cI, 71, .inl (fun _ => 0)))] := hD
  refine lv_aload_n hx hb dX9_init_17 rfl (lv_at hl 0 rfl) ?_
  refine lv_iconst (v := 0) hx hb dX9_init_18 (by decide) ?_
  refine va_put (D := D) (ref := RX9) (ci := 9) (v := .int 0) (ty := tyX9 2) (C := RX9) (T := TX9) (N := 4) hx hb hts inC_9 tyX9 tyX9_ok nmX9 hown hK hP hD hS 0 rfl rfl 2 (by decide) (hts _ (in_g (i := 98) (by decide +kernel) (by decide +kernel))) (fun _ h9 => h9) rfl (tyX9_ok 2 (by decide)) rfl rfl (Nat.le_of_ble_eq_true rfl) dX9_init_19 (fun H locs hP hD hS => ?_)
  have hP : va_P D am_cl [(h0, .inr (9, [.int x1, .ref q0, .int 0, .int 0])), (q0, .inl (cI, 71, .inl (fun _ => 0)))] H := hP
  have hD : va_D A [(h0, .inr (9, [.int x1, .ref q0, .int 0, .int 0])), (q0, .inl (cI, 71, .inl (fun _ => 0)))] := hD
  refine lv_aload_n hx hb dX9_init_22 rfl (lv_at hl 0 rfl) ?_
  refine lv_iconst (v := (-1)) hx hb dX9_init_23 (by decide) ?_
  refine va_put (D := D) (ref := RX9) (ci := 9) (v := .int (-1)) (ty := tyX9 3) (C := RX9) (T := TX9) (N := 4) hx hb hts inC_9 tyX9 tyX9_ok nmX9 hown hK hP hD hS 0 rfl rfl 3 (by decide) (hts _ (in_g (i := 103) (by decide +kernel) (by decide +kernel))) (fun _ h9 => h9) rfl (tyX9_ok 3 (by decide)) rfl rfl (Nat.le_of_ble_eq_true rfl) dX9_init_24 (fun H locs hP hD hS => ?_)
  have hP : va_P D am_cl [(h0, .inr (9, [.int x1, .ref q0, .int 0, .int (-1)])), (q0, .inl (cI, 71, .inl (fun _ => 0)))] H := hP
  have hD : va_D A [(h0, .inr (9, [.int x1, .ref q0, .int 0, .int (-1)])), (q0, .inl (cI, 71, .inl (fun _ => 0)))] := hD
  have hP9 := hP.sub (ws' := [(h0, .inr (9, [.int x1, .ref q0, .int 0, .int (-1)])), (q0, .inl (cI, 71, .inl (fun _ => 0)))]) [0, 1] rfl
  have hD9 := hD.sub (ws' := [(h0, .inr (9, [.int x1, .ref q0, .int 0, .int (-1)])), (q0, .inl (cI, 71, .inl (fun _ => 0)))]) [0, 1] (by decide) rfl
  refine W.widen (k := 1) (n := 71) (Nat.le_refl _) (Nat.le_refl _) ?_
  exact W.vret hx hb hr (fun t ht hW => ⟨⟨(fun k => ([q0] : List Nat).getD k 0), rfl, trivial, ⟨by rw [ht]; exact hP9, va_K.moved hW.alike hK, hD9⟩⟩, hS.F ht⟩) hS.2.2 dX9_init_27

set_option maxHeartbeats 4000000 in
set_option maxRecDepth 100000 in
theorem k_X10_init (l : Launch) (D : va_G) (cI cL cS : ClassId) (sz h0 : Nat)  : cMet l D cI cL cS yX10_init cX10_init 1 1 2 81 12 sz [.ref h0] [(h0, .inr (10, [.null, .null, .int 0, .int 0, .int 0]))] (fun u => [(h0, .inr (10, [.ref (u 0), .ref (u 1), .int 0, .int 0, .int 0])), (u 0, .inl (cI, 40, .inl (fun _ => 0))), (u 1, .inl (cI, 41, .inl (fun _ => 0)))]) := by
  refine Met.ofW (cc := cX10_init) (maxL := 1) (ret := none) (by decide +kernel) rfl ?_
  intro p e s m args below meth c s₁ B hml hv
  obtain ⟨rfl, hsz, hP, hK, hD0, hAO⟩ := hv
  have hx := B.exec
  have hb := B.bytes
  have hr := B.returns
  have hts0 := atoms_spec (ws := Cond.code yX10_init cX10_init 1 none :: lw_g) B.pre
  have hts := fun w hw => hts0 w (List.mem_cons_of_mem _ hw)
  have hown : s.vm.findClass RX10 = some m.cls := findClass_of_methodNamed B.named
  have hlocks := B.notSynchronized
  have hin : meth.name = "<init>" := (name_of_methodNamed B.named B.method).1
  subst hsz
  have hD := hD0.self (sz := s.heap.size)
  generalize hAe : va_A [(h0, .inr (10, [.null, .null, .int 0, .int 0, .int 0]))] s.heap.size = A at hD ⊢
  have hA : ∀ q : Nat, s.heap.size ≤ q → A q := fun q h => by rw [← hAe]; exact Or.inr h
  have hS : va_S A s.heap s.heap [] := va_S.rf
  have hl := lv_entry ([.ref h0]) (n := 1) (Nat.le_of_ble_eq_true rfl)
  rw [lg_entry_eq]
  generalize (lg_sl ([.ref h0]) ++ List.replicate (1 - (lg_sl ([.ref h0])).length) Slot.unset).toArray = ls at hl ⊢
  have hl : lv_has ls 1 [(0, .ref h0)] := hl
  refine lv_aload_n hx hb dX10_init_0 rfl (lv_at hl 0 rfl) ?_
  refine W.objInit hx hb hown (hts (.methodLink RX10 3 Lib.objectInit) (in_g (i := 198) (by decide +kernel) (by decide +kernel))) (hts (.instanceMethod Lib.objectInit) (in_g (i := 88) (by decide +kernel) (by decide +kernel))) (hts _ (in_g (i := 89) (by decide +kernel) (by decide +kernel))) rfl (by rw [hml]; exact hl.1) rfl dX10_init_1 (Nat.le_of_ble_eq_true rfl) (Nat.le_of_ble_eq_true rfl) ?_
  refine W.eq (g2 := F0 m 4 ls []) rfl ?_
  refine lv_aload_n hx hb dX10_init_4 rfl (lv_at hl 0 rfl) ?_
  refine lv_bipush (v := 40) hx hb dX10_init_5 (by decide) ?_
  refine cn_newa (ty := .int) (a0 := (40, .inl (fun _ => 0))) (N' := 40) hx hb (hts _ (in_g (i := 114) (by decide +kernel) (by decide +kernel))) rfl hK 0 rfl hP hD hS hA (fun _ => rfl) (by decide) (by decide) (by decide) (Nat.le_of_ble_eq_true rfl) (Nat.le_of_ble_eq_true rfl) dX10_init_7 (fun q0 H hP hD hS => ?_)
  refine W.widen (k := 1) (n := 40) (by decide) (by decide) ?_
  have hP : va_P D am_cl [(h0, .inr (10, [.null, .null, .int 0, .int 0, .int 0])), (q0, .inl (cI, 40, .inl (fun _ => 0)))] H := hP
  have hD : va_D A [(h0, .inr (10, [.null, .null, .int 0, .int 0, .int 0])), (q0, .inl (cI, 40, .inl (fun _ => 0)))] := hD
  refine va_putF (D := D) (ref := RX10) (ci := 10) (v := .ref q0) (ty := tyX10 0) (C := RX10) (T := TX10) (N := 5) hx hb hts inC_10 tyX10 tyX10_ok nmX10 hown hK hP hD hS 0 rfl rfl 0 (by decide) (hts _ (in_g (i := 199) (by decide +kernel) (by decide +kernel))) (fun _ h9 => h9) rfl hin rfl (tyX10_ok 0 (by decide)) rfl rfl (Nat.le_of_ble_eq_true rfl) dX10_init_9 (fun H locs hP hD hS => ?_)
  have hP : va_P D am_cl [(h0, .inr (10, [.ref q0, .null, .int 0, .int 0, .int 0])), (q0, .inl (cI, 40, .inl (fun _ => 0)))] H := hP
  have hD : va_D A [(h0, .inr (10, [.ref q0, .null, .int 0, .int 0, .int 0])), (q0, .inl (cI, 40, .inl (fun _ => 0)))] := hD
  refine lv_aload_n hx hb dX10_init_12 rfl (lv_at hl 0 rfl) ?_
  refine lv_bipush (v := 41) hx hb dX10_init_13 (by decide) ?_
  refine cn_newa (ty := .int) (a0 := (41, .inl (fun _ => 0))) (N' := 41) hx hb (hts _ (in_g (i := 114) (by decide +kernel) (by decide +kernel))) rfl hK 0 rfl hP hD hS hA (fun _ => rfl) (by decide) (by decide) (by decide) (Nat.le_of_ble_eq_true rfl) (Nat.le_of_ble_eq_true rfl) dX10_init_15 (fun q1 H hP hD hS => ?_)
  refine W.widen (k := 2) (n := 81) (by decide) (by decide) ?_
  have hP : va_P D am_cl [(h0, .inr (10, [.ref q0, .null, .int 0, .int 0, .int 0])), (q0, .inl (cI, 40, .inl (fun _ => 0))), (q1, .inl (cI, 41, .inl (fun _ => 0)))] H := hP
  have hD : va_D A [(h0, .inr (10, [.ref q0, .null, .int 0, .int 0, .int 0])), (q0, .inl (cI, 40, .inl (fun _ => 0))), (q1, .inl (cI, 41, .inl (fun _ => 0)))] := hD
  refine va_putF (D := D) (ref := RX10) (ci := 10) (v := .ref q1) (ty := tyX10 1) (C := RX10) (T := TX10) (N := 5) hx hb hts inC_10 tyX10 tyX10_ok nmX10 hown hK hP hD hS 0 rfl rfl 1 (by decide) (hts _ (in_g (i := 200) (by decide +kernel) (by decide +kernel))) (fun _ h9 => h9) rfl hin rfl (tyX10_ok 1 (by decide)) rfl rfl (Nat.le_of_ble_eq_true rfl) dX10_init_17 (fun H locs hP hD hS => ?_)
  have hP : va_P D am_cl [(h0, .inr (10, [.ref q0, .ref q1, .int 0, .int 0, .int 0])), (q0, .inl (cI, 40, .inl (fun _ => 0))), (q1, .inl (cI, 41, .inl (fun _ => 0)))] H := hP
  have hD : va_D A [(h0, .inr (10, [.ref q0, .ref q1, .int 0, .int 0, .int 0])), (q0, .inl (cI, 40, .inl (fun _ => 0))), (q1, .inl (cI, 41, .inl (fun _ => 0)))] := hD
  refine lv_aload_n hx hb dX10_init_20 rfl (lv_at hl 0 rfl) ?_
  refine lv_iconst (v := 0) hx hb dX10_init_21 (by decide) ?_
  refine va_put (D := D) (ref := RX10) (ci := 10) (v := .int 0) (ty := tyX10 2) (C := RX10) (T := TX10) (N := 5) hx hb hts inC_10 tyX10 tyX10_ok nmX10 hown hK hP hD hS 0 rfl rfl 2 (by decide) (hts _ (in_g (i := 201) (by decide +kernel) (by decide +kernel))) (fun _ h9 => h9) rfl (tyX10_ok 2 (by decide)) rfl rfl (Nat.le_of_ble_eq_true rfl) dX10_init_22 (fun H locs hP hD hS => ?_)
  have hP : va_P D am_cl [(h0, .inr (10, [.ref q0, .ref q1, .int 0, .int 0, .int 0])), (q0, .inl (cI, 40, .inl (fun _ => 0))), (q1, .inl (cI, 41, .inl (fun _ => 0)))] H := hP
  have hD : va_D A [(h0, .inr (10, [.ref q0, .ref q1, .int 0, .int 0, .int 0])), (q0, .inl (cI, 40, .inl (fun _ => 0))), (q1, .inl (cI, 41, .inl (fun _ => 0)))] := hD
  refine lv_aload_n hx hb dX10_init_25 rfl (lv_at hl 0 rfl) ?_
  refine lv_iconst (v := 0) hx hb dX10_init_26 (by decide) ?_
  refine va_put (D := D) (ref := RX10) (ci := 10) (v := .int 0) (ty := tyX10 3) (C := RX10) (T := TX10) (N := 5) hx hb hts inC_10 tyX10 tyX10_ok nmX10 hown hK hP hD hS 0 rfl rfl 3 (by decide) (hts _ (in_g (i := 203) (by decide +kernel) (by decide +kernel))) (fun _ h9 => h9) rfl (tyX10_ok 3 (by decide)) rfl rfl (Nat.le_of_ble_eq_true rfl) dX10_init_27 (fun H locs hP hD hS => ?_)
  have hP : va_P D am_cl [(h0, .inr (10, [.ref q0, .ref q1, .int 0, .int 0, .int 0])), (q0, .inl (cI, 40, .inl (fun _ => 0))), (q1, .inl (cI, 41, .inl (fun _ => 0)))] H := hP
  have hD : va_D A [(h0, .inr (10, [.ref q0, .ref q1, .int 0, .int 0, .int 0])), (q0, .inl (cI, 40, .inl (fun _ => 0))), (q1, .inl (cI, 41, .inl (fun _ => 0)))] := hD
  refine lv_aload_n hx hb dX10_init_30 rfl (lv_at hl 0 rfl) ?_
  refine lv_iconst (v := 0) hx hb dX10_init_31 (by decide) ?_
  refine va_put (D := D) (ref := RX10) (ci := 10) (v := .int 0) (ty := tyX10 4) (C := RX10) (T := TX10) (N := 5) hx hb hts inC_10 tyX10 tyX10_ok nmX10 hown hK hP hD hS 0 rfl rfl 4 (by decide) (hts _ (in_g (i := 205) (by decide +kernel) (by decide +kernel))) (fun _ h9 => h9) rfl (tyX10_ok 4 (by decide)) rfl rfl (Nat.le_of_ble_eq_true rfl) dX10_init_32 (fun H locs hP hD hS => ?_)
  have hP : va_P D am_cl [(h0, .inr (10, [.ref q0, .ref q1, .int 0, .int 0, .int 0])), (q0, .inl (cI, 40, .inl (fun _ => 0))), (q1, .inl (cI, 41, .inl (fun _ => 0)))] H := hP
  have hD : va_D A [(h0, .inr (10, [.ref q0, .ref q1, .int 0, .int 0, .int 0])), (q0, .inl (cI, 40, .inl (fun _ => 0))), (q1, .inl (cI, 41, .inl (fun _ => 0)))] := hD
  have hP9 := hP.sub (ws' := [(h0, .inr (10, [.ref q0, .ref q1, .int 0, .int 0, .int 0])), (q0, .inl (cI, 40, .inl (fun _ => 0))), (q1, .inl (cI, 41, .inl (fun _ => 0)))]) [0, 1, 2] rfl
  have hD9 := hD.sub (ws' := [(h0, .inr (10, [.ref q0, .ref q1, .int 0, .int 0, .int 0])), (q0, .inl (cI, 40, .inl (fun _ => 0))), (q1, .inl (cI, 41, .inl (fun _ => 0)))]) [0, 1, 2] (by decide) rfl
  refine W.widen (k := 2) (n := 81) (Nat.le_refl _) (Nat.le_refl _) ?_
  exact W.vret hx hb hr (fun t ht hW => ⟨⟨(fun k => ([q0, q1] : List Nat).getD k 0), rfl, trivial, ⟨by rw [ht]; exact hP9, va_K.moved hW.alike hK, hD9⟩⟩, hS.F ht⟩) hS.2.2 dX10_init_35

