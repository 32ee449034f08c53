/-! the native copy, calls, returns; a method out of its operations -/
theorem ok_ob {M : am_M} (h : am_ok M) {a b : Nat} {n0 n1 k : Nat} (ha : am_kd a = .inr (k, n0)) (hb : am_kd b = .inr (k, n1)) (sp dp n : Nat) : am_ok (am_ob M b (am_cpy (M a) (M b) sp dp n)) := by
  intro p i
  unfold am_ob
  by_cases e : p = b
  · subst e
    rw [if_pos rfl]
    unfold am_cpy
    rw [wd_a hb]
    by_cases e2 : dp ≤ i ∧ i < dp + n
    · have := h a (sp + (i - dp))
      rw [wd_a ha] at this
      rw [if_pos e2]
      exact this
    · have := h p i
      rw [wd_a hb] at this
      rw [if_neg e2]
      exact this
  · rw [if_neg e]
    exact h p i
theorem n_tc {x : Int32} (_h : 0 ≤ x.toInt) : x.toNatClampNeg = x.toInt.toNat := rfl
theorem n_nn {x : Int32} (h : 0 ≤ x.toInt) : ¬ x < 0 := fun h1 => by have := (k_lt x 0).mp h1; rw [Int32.toInt_zero] at this; omega
/-- the call as the kit has it, its end as ours -/
theorem am_ret {p : Program} {l : Launch} {e : Env} {R : Room} {s : State} {m : MethodId} {args : Array Value} {below : List Frame} {meth : Method} {c : Code} {G : am_G} {q : am_Q} {H : Heap} {locs : List Loc} {ls : Array Slot} {st0 rest : List Value} {a : Array Value} {pc : Nat} {zret ret : Option FieldType} {P : am_Q}
    (hr : va_Run p l e R s m args below meth c H locs 0 0 0 0 (F0 m pc ls st0) rest (am_Qc G zret P a) (am_A G)) (hS : va_S (am_A G) s.heap H locs)
    (kk : ∀ (r : am_V) (M' : am_M) (v : Option Value) (H1 : Heap) (locs1 : List Loc), P r M' → am_out G.2.1 zret r (.returned v) → am_W G M' H1 → va_S (am_A G) s.heap H1 locs1 → W p l e R s m args below meth c H1 locs1 0 0 (MQ below (am_Qc G ret q) args s 0 0 (am_A G)) (F0 m (pc + 3) ls (v.toList ++ rest))) :
    W p l e R s m args below meth c H locs 0 0 (MQ below (am_Qc G ret q) args s 0 0 (am_A G)) (F0 m pc ls st0) := by
  intro T hT X
  obtain ⟨v, st₀, t, T', L, h0, X', hL, e1, e2, ⟨⟨r, M', hq, hout, hW', hK'⟩, hz, hk⟩, st⟩ := hr T hT X
  rw [h0] at hz hk
  obtain ⟨t2, a1, b1⟩ := kk r M' v T'.heap (locs ++ L) hq hout (by rw [e1]; exact hW')
    ⟨Nat.le_trans hS.1 (by rw [e1]; exact hz), fun x h1 h2 => by rw [e1, hk x (Nat.lt_of_lt_of_le h1 hS.1) h2]; exact hS.2.1 x h1 h2, fun x hx => by
      rcases List.mem_append.mp hx with h | h
      · exact hS.2.2 x h
      · exact hL x h⟩ T' rfl X'
  exact ⟨t2, st t2 a1, b1⟩
theorem out_push {al : Nat → Nat} {zret : Option FieldType} {r : am_V} {v : Option Value} {as : List am_V} {vs : List Value} (h : am_out al zret r (.returned v)) (hr : am_rvs al as vs) : am_rvs al (am_push zret.isNone r as) (v.toList ++ vs) := by
  cases zret with
  | none =>
    have : v = none := by simpa [am_out] using h
    subst this
    exact hr
  | some t =>
    obtain ⟨w, h1, h2⟩ := h
    have : v = some w := by simpa using h1
    subst this
    exact ⟨h2, hr⟩
theorem am_blind {G : am_G} {vs : List Value} {M : am_M} : FrameBlind (va_Pc vs (fun U => am_W G M U.heap ∧ va_K G.1 am_cl (am_tys G) U)) := by
  intro a U g mk h
  obtain ⟨h1, h2, h3⟩ := h
  exact ⟨h1, h2, va_K.moved (u := U) (U := U.calling g mk a) (Vm.Alike.refl U.vm) h3⟩
theorem le_at : ∀ {as bs : List am_V} {i : Nat} {a : am_V}, am_le as bs → as[i]? = some a → a = aJ ∨ bs[i]? = some a
  | [], _, _, _, _, h => by simp at h
  | _ :: _, [], _, _, h, _ => h.elim
  | _ :: _, _ :: _, 0, _, h, h2 => by
    rw [List.getElem?_cons_zero] at h2 ⊢
    cases h2
    rcases h.1 with h3 | h3
    · exact Or.inl h3
    · exact Or.inr (by rw [h3])
  | _ :: _, _ :: _, _ + 1, _, h, h2 => by
    rw [List.getElem?_cons_succ] at h2 ⊢
    exact le_at h.2 h2
theorem lr_le {al : Nat → Nat} {n : Nat} {as bs : List am_V} {ls : Array Slot} (h : am_le as bs) (hr : am_lr al n bs ls) : am_lr al n as ls := by
  refine ⟨hr.1, hr.2.1, fun i a hi => ?_⟩
  rcases le_at h hi with h1 | h1
  · exact Or.inl h1
  · exact hr.2.2 i a h1
section SIM
variable {own : String} {bytes : ByteArray} {maxL : Nat} {ret : Option FieldType} {R : Room} {pc : Nat}
theorem si_max {i : Nat} (hd : decode bytes pc = .ok (.invokestatic i, 3)) (h1 : Cond.methodLink own i Lib.Math.max.name ∈ lw_g) (h2 : Cond.static Lib.Math.max.name ∈ lw_g) (h3 : Cond.initialized "java/lang/Math" ∈ lw_g) (h4 : Cond.code Lib.Math.max.name Lib.Math.max.code 2 (some .int) ∈ lw_g) (hR : Nat.ble 1 R.frames = true ∧ Nat.ble 21 R.locals = true) : am_Sim own bytes maxL ret R pc (fun ls st M k q => am_cat (st.drop 2) ≤ 8 ∧ o_bin (fun a b => if a < b then b else a) (pc + 3) ls st M k q) := by
  intro p l e s m args below meth c G X q C hX als ast M ho H locs ls st hr
  obtain ⟨hx, hb, hml, hret, hlk, hown, hts, hK, hinj⟩ := C
  obtain ⟨hW, hS, hl, hst⟩ := hr
  obtain ⟨hcat, ho⟩ := ho
  unfold o_bin at ho
  split at ho
  next y0 x0 st0 =>
    obtain ⟨v, vs, rfl, a1, a2⟩ := rvs_c hst
    obtain ⟨v2, vs2, rfl, a3, a4⟩ := rvs_c a2
    obtain ⟨y, rfl, rfl⟩ := rv_i a1
    obtain ⟨x, rfl, rfl⟩ := rv_i a3
    have h21 := Nat.le_of_ble_eq_true hR.2
    have hc : am_cat st0 ≤ 8 := hcat
    refine va_mmax hx hb (by rw [hml]; exact hl.1.symm) hown (hts _ h1) (hts _ h2) (hts _ h3) (hts _ h4) (Nat.le_of_ble_eq_true hR.1) (by rw [rvs_cat a4]; omega) (Nat.zero_le _) (Nat.zero_le _) hd (hX _ _ _ _ ho _ _ _ _ ⟨hW, hS, hl, ?_, a4⟩)
    show (if x < y then y else x).toInt = if x.toInt < y.toInt then y.toInt else x.toInt
    by_cases h : x < y
    · rw [if_pos h, if_pos ((k_lt x y).mp h)]
    · rw [if_neg h, if_neg (fun h9 => h ((k_lt x y).mpr h9))]
  next => exact ho.elim
theorem si_min {i : Nat} (hd : decode bytes pc = .ok (.invokestatic i, 3)) (h1 : Cond.methodLink own i Lib.Math.min.name ∈ lw_g) (h2 : Cond.static Lib.Math.min.name ∈ lw_g) (h3 : Cond.initialized "java/lang/Math" ∈ lw_g) (h4 : Cond.code Lib.Math.min.name Lib.Math.min.code 2 (some .int) ∈ lw_g) (hR : Nat.ble 1 R.frames = true ∧ Nat.ble 21 R.locals = true) : am_Sim own bytes maxL ret R pc (fun ls st M k q => am_cat (st.drop 2) ≤ 8 ∧ o_bin (fun a b => if b < a then b else a) (pc + 3) ls st M k q) := by
  intro p l e s m args below meth c G X q C hX als ast M ho H locs ls st hr
  obtain ⟨hx, hb, hml, hret, hlk, hown, hts, hK, hinj⟩ := C
  obtain ⟨hW, hS, hl, hst⟩ := hr
  obtain ⟨hcat, ho⟩ := ho
  unfold o_bin at ho
  split at ho
  next y0 x0 st0 =>
    obtain ⟨v, vs, rfl, a1, a2⟩ := rvs_c hst
    obtain ⟨v2, vs2, rfl, a3, a4⟩ := rvs_c a2
    obtain ⟨y, rfl, rfl⟩ := rv_i a1
    obtain ⟨x, rfl, rfl⟩ := rv_i a3
    have h21 := Nat.le_of_ble_eq_true hR.2
    have hc : am_cat st0 ≤ 8 := hcat
    refine va_mmin hx hb (by rw [hml]; exact hl.1.symm) hown (hts _ h1) (hts _ h2) (hts _ h3) (hts _ h4) (Nat.le_of_ble_eq_true hR.1) (by rw [rvs_cat a4]; omega) (Nat.zero_le _) (Nat.zero_le _) hd (hX _ _ _ _ ho _ _ _ _ ⟨hW, hS, hl, ?_, a4⟩)
    show (if y < x then y else x).toInt = if y.toInt < x.toInt then y.toInt else x.toInt
    by_cases h : y < x
    · rw [if_pos h, if_pos ((k_lt y x).mp h)]
    · rw [if_neg h, if_neg (fun h9 => h ((k_lt y x).mpr h9))]
  next => exact ho.elim
theorem si_acpyI {i : Nat} (hd : decode bytes pc = .ok (.invokestatic i, 3)) (h1 : Cond.methodLink own i arraycopyName ∈ lw_g) (h0 : Cond.native arraycopyName ∈ lw_g) (h2 : Cond.static arraycopyName ∈ lw_g) (h3 : Cond.initialized "java/lang/System" ∈ lw_g) (hR : Nat.ble 1 R.frames = true ∧ Nat.ble 26 R.locals = true) : am_Sim own bytes maxL ret R pc (o_acpy 0 (pc + 3)) := by
  intro p l e s m args below meth c G X q C hX als ast M ho H locs ls st hr
  obtain ⟨hx, hb, hml, hret, hlk, hown, hts, hK, hinj⟩ := C
  obtain ⟨hW, hS, hl, hst⟩ := hr
  unfold o_acpy at ho
  split at ho
  next n0 dp0 b sp0 a st0 =>
    obtain ⟨v, vs, rfl, a1, a2⟩ := rvs_c hst
    obtain ⟨v2, vs2, rfl, a3, a4⟩ := rvs_c a2
    obtain ⟨v3, vs3, rfl, a5, a6⟩ := rvs_c a4
    obtain ⟨v4, vs4, rfl, a7, a8⟩ := rvs_c a6
    obtain ⟨v5, vs5, rfl, a9, a10⟩ := rvs_c a8
    obtain ⟨n, rfl, rfl⟩ := rv_i a1
    obtain ⟨dp, rfl, rfl⟩ := rv_i a3
    obtain rfl := rv_r a5
    obtain ⟨sp, rfl, rfl⟩ := rv_i a7
    obtain rfl := rv_r a9
    obtain ⟨n0, n1, ha, hb1, ⟨c1, c2, c3, c4, c5, c6, c7⟩, hcat, ho⟩ := ho
    have k0 := al_spec ha
    have k1 := al_spec hb1
    have h26 := Nat.le_of_ble_eq_true hR.2
    have hlt0 : a < am_N := kd_lt k0 (by simp; omega)
    have hlt1 : b < am_N := kd_lt k1 (by simp; omega)
    have he0 := wl_at G M hlt0
    have he1 := wl_at G M hlt1
    rw [k0] at he0
    rw [k1] at he1
    refine va_copyi hx hb (by rw [hml]; exact hl.1.symm) hown (hts _ h1) (hts _ h0) (hts _ h2) (hts _ h3) hK hW.2 (wl_D hinj M) hS a b 0 0 (ty := .int) he0 he1 rfl rfl rfl (n_nn c1) (n_nn c2) (n_nn c3) (by rw [n_clamp, n_clamp]; omega) (by rw [n_clamp, n_clamp]; omega) (fun _ _ => rfl) (Nat.le_of_ble_eq_true hR.1) (by rw [rvs_cat a10]; show am_cat st0 + 18 ≤ R.locals; omega) hd (fun H1 locs1 hP hD hS1 => hX _ _ _ _ ho _ _ _ _ ⟨⟨ok_ob hW.1 k0 k1 _ _ _, ?_⟩, hS1, hl, a10⟩)
    have e1 : am_cell G (am_cpy (M a) (M b) sp.toInt.toNat dp.toInt.toNat n.toInt.toNat) (am_kd b) = .inl (G.2.2.1, n1, .inl (va_cpy (fun j => Int32.ofInt (M a j)) (fun j => Int32.ofInt (M b j)) sp.toNatClampNeg dp.toNatClampNeg n.toNatClampNeg)) := by
      rw [k1]
      show (Sum.inl (G.2.2.1, n1, Sum.inl (fun j => Int32.ofInt (am_cpy (M a) (M b) sp.toInt.toNat dp.toInt.toNat n.toInt.toNat j))) : va_E) = _
      congr 4
      funext j
      unfold am_cpy va_cpy
      rw [n_clamp, n_clamp, n_clamp]
      split <;> rfl
    rw [← e1, wl_set G M hlt1] at hP
    exact hP
  next => exact ho.elim
theorem si_acpyL {i : Nat} (hd : decode bytes pc = .ok (.invokestatic i, 3)) (h1 : Cond.methodLink own i arraycopyName ∈ lw_g) (h0 : Cond.native arraycopyName ∈ lw_g) (h2 : Cond.static arraycopyName ∈ lw_g) (h3 : Cond.initialized "java/lang/System" ∈ lw_g) (hR : Nat.ble 1 R.frames = true ∧ Nat.ble 26 R.locals = true) : am_Sim own bytes maxL ret R pc (o_acpy 1 (pc + 3)) := by
  intro p l e s m args below meth c G X q C hX als ast M ho H locs ls st hr
  obtain ⟨hx, hb, hml, hret, hlk, hown, hts, hK, hinj⟩ := C
  obtain ⟨hW, hS, hl, hst⟩ := hr
  unfold o_acpy at ho
  split at ho
  next n0 dp0 b sp0 a st0 =>
    obtain ⟨v, vs, rfl, a1, a2⟩ := rvs_c hst
    obtain ⟨v2, vs2, rfl, a3, a4⟩ := rvs_c a2
    obtain ⟨v3, vs3, rfl, a5, a6⟩ := rvs_c a4
    obtain ⟨v4, vs4, rfl, a7, a8⟩ := rvs_c a6
    obtain ⟨v5, vs5, rfl, a9, a10⟩ := rvs_c a8
    obtain ⟨n, rfl, rfl⟩ := rv_i a1
    obtain ⟨dp, rfl, rfl⟩ := rv_i a3
    obtain rfl := rv_r a5
    obtain ⟨sp, rfl, rfl⟩ := rv_i a7
    obtain rfl := rv_r a9
    obtain ⟨n0, n1, ha, hb1, ⟨c1, c2, c3, c4, c5, c6, c7⟩, hcat, ho⟩ := ho
    have k0 := al_spec ha
    have k1 := al_spec hb1
    have h26 := Nat.le_of_ble_eq_true hR.2
    have hlt0 : a < am_N := kd_lt k0 (by simp)
    have hlt1 : b < am_N := kd_lt k1 (by simp)
    have he0 := wl_at G M hlt0
    have he1 := wl_at G M hlt1
    rw [k0] at he0
    rw [k1] at he1
    refine va_copyl hx hb (by rw [hml]; exact hl.1.symm) hown (hts _ h1) (hts _ h0) (hts _ h2) (hts _ h3) hK hW.2 (wl_D hinj M) hS a b 1 1 (ty := .long) he0 he1 rfl rfl rfl (n_nn c1) (n_nn c2) (n_nn c3) (by rw [n_clamp, n_clamp]; omega) (by rw [n_clamp, n_clamp]; omega) (fun _ _ => rfl) (Nat.le_of_ble_eq_true hR.1) (by rw [rvs_cat a10]; show am_cat st0 + 18 ≤ R.locals; omega) hd (fun H1 locs1 hP hD hS1 => hX _ _ _ _ ho _ _ _ _ ⟨⟨ok_ob hW.1 k0 k1 _ _ _, ?_⟩, hS1, hl, a10⟩)
    have e1 : am_cell G (am_cpy (M a) (M b) sp.toInt.toNat dp.toInt.toNat n.toInt.toNat) (am_kd b) = .inl (G.2.2.2.1, n1, .inr (.inl (va_cpy (fun j => Int64.ofInt (M a j)) (fun j => Int64.ofInt (M b j)) sp.toNatClampNeg dp.toNatClampNeg n.toNatClampNeg))) := by
      rw [k1]
      show (Sum.inl (G.2.2.2.1, n1, Sum.inr (Sum.inl (fun j => Int64.ofInt (am_cpy (M a) (M b) sp.toInt.toNat dp.toInt.toNat n.toInt.toNat j)))) : va_E) = _
      congr 5
      funext j
      unfold am_cpy va_cpy
      rw [n_clamp, n_clamp, n_clamp]
      split <;> rfl
    rw [← e1, wl_set G M hlt1] at hP
    exact hP
  next => exact ho.elim
theorem si_call {S : am_E} {z : MethodName} {zb : ByteArray} {zL fr lo i n : Nat} {zret : Option FieldType} (hZ : am_Sound z zb zL zret fr lo S) (hd : decode bytes pc = .ok (.invokestatic i, 3)) (hli : Cond.methodLink own i z ∈ lw_g) (hst : Cond.static z ∈ lw_g) (hini : Cond.initialized z.cls ∈ lw_g) (hcode : Cond.code z zb zL zret ∈ lw_g) (hdd : z.cls ≠ "java/lang/invoke/MethodHandle" ∧ z.cls ≠ "java/lang/invoke/VarHandle" ∧ (parseMethodDescriptor z.desc).map (fun d => d.parameters.length) = some n) (hR : Nat.ble (fr + 1) R.frames = true ∧ Nat.ble (8 + (zL + 11) + lo) R.locals = true) : am_Sim own bytes maxL ret R pc (o_call S n zret.isNone (pc + 3)) := by
  intro p l e s m args below meth c G X q C hX als ast M ho H locs ls st hr
  obtain ⟨hx, hb, hml, hret, hlk, hown, hts, hK, hinj⟩ := C
  obtain ⟨hW, hS, hl, hst1⟩ := hr
  obtain ⟨hlen, hcat, ho⟩ := ho
  obtain ⟨ht, hdr⟩ := rvs_take n hst1
  have hM := hZ l G _ _ M _ hinj (rvs_rev ht) ho
  have cb := callB_of (R := R) n hts (lw_goodIn hcode) rfl rfl rfl (hts _ hini) (hts _ hli) hdd ⟨Nat.le_of_ble_eq_true hR.1, Nat.le_of_ble_eq_true hR.2⟩ (rm := { frames := fr, cells := 0, slots := 0, locals := lo })
  have hsl : st.length = ast.length := (rvs_len hst1).symm
  refine am_ret (va_runS (As := (st.take n).reverse) (rest := st.drop n) (g := F0 m pc ls st) ⟨hx, hb, hml, hown, hts⟩ hM ⟨cb, hts _ hst⟩ ⟨am_blind, fun U hU hW1 => ⟨rfl, by rw [hU]; exact hW, va_K.moved hW1.alike hK⟩⟩ rfl (by rw [List.length_reverse, List.length_take]; omega) hl.1 (by rw [List.reverse_reverse, List.take_append_drop]) (lv_room (by rw [rvs_cat hdr]; exact hcat)) hd ⟨Nat.zero_le _, Nat.zero_le _⟩) hS (fun r M' v H1 locs1 hp hout hW1 hS1 => hX _ _ _ _ hp _ _ _ _ ⟨hW1, hS1, hl, out_push hout hdr⟩)
theorem si_callv {S : am_E} {z : MethodName} {zb : ByteArray} {zL fr lo i n ci N : Nat} {T : u_T} {C : String} {zret : Option FieldType} (hZ : am_Sound z zb zL zret fr lo S) (hc : am_cl[ci]? = some (C, T, N)) (hd : decode bytes pc = .ok (.invokevirtual i, 3)) (hli : Cond.methodLink own i z ∈ lw_g) (hst : Cond.instanceMethod z ∈ lw_g) (hse : Cond.selects C z z ∈ lw_g) (hini : Cond.initialized z.cls ∈ lw_g) (hcode : Cond.code z zb zL zret ∈ lw_g) (hdd : z.cls ≠ "java/lang/invoke/MethodHandle" ∧ z.cls ≠ "java/lang/invoke/VarHandle" ∧ (parseMethodDescriptor z.desc).map (fun d => d.parameters.length) = some n) (hR : Nat.ble (fr + 1) R.frames = true ∧ Nat.ble (8 + (zL + 11) + lo) R.locals = true) : am_Sim own bytes maxL ret R pc (o_callv S ci n zret.isNone (pc + 3)) := by
  intro p l e s m args below meth c G X q C hX als ast M ho H locs ls st hr
  obtain ⟨hx, hb, hml, hret, hlk, hown, hts, hK, hinj⟩ := C
  obtain ⟨hW, hS, hl, hst1⟩ := hr
  unfold o_callv at ho
  split at ho
  next o rest0 hdrop =>
    obtain ⟨hisc, hcat, ho⟩ := ho
    obtain ⟨ht, hdr⟩ := rvs_take n hst1
    rw [hdrop] at hdr
    obtain ⟨w, ws, hst2, h1, h2⟩ := rvs_c hdr
    obtain rfl := rv_r h1
    obtain ⟨fs, k1⟩ := isC_spec hisc
    have hlt : o < am_N := kd_lt k1 (by simp)
    have he := wl_at G M hlt
    rw [k1] at he
    have hM := hZ l G (aR o :: (ast.take n).reverse) (Value.ref (G.2.1 o) :: (st.take n).reverse) M _ hinj ⟨rfl, rvs_rev ht⟩ ho
    have cb := callB_of (R := R) n hts (lw_goodIn hcode) rfl rfl rfl (hts _ hini) (hts _ hli) hdd ⟨Nat.le_of_ble_eq_true hR.1, Nat.le_of_ble_eq_true hR.2⟩ (rm := { frames := fr, cells := 0, slots := 0, locals := lo })
    have hsl : st.length = ast.length := (rvs_len hst1).symm
    have hln : n ≤ ast.length := by
      rcases Nat.lt_or_ge ast.length n with h9 | h9
      · rw [List.drop_eq_nil_of_le (by omega)] at hdrop
        cases hdrop
      · exact h9
    refine am_ret (va_runV (b := G.2.1 o) (C := C) (As := (st.take n).reverse) (rest := ws) (g := F0 m pc ls st) ⟨hx, hb, hml, hown, hts⟩ hM ⟨cb, hts _ hst, hts _ hse⟩ ⟨am_blind, va_recv hK hW.2 hc he, fun U hU hW1 => ⟨rfl, by rw [hU]; exact hW, va_K.moved hW1.alike hK⟩⟩ rfl (by rw [List.length_reverse, List.length_take]; omega) hl.1 (by rw [List.reverse_reverse, ← hst2, List.take_append_drop]) (lv_room (by rw [rvs_cat h2]; exact hcat)) hd ⟨Nat.zero_le _, Nat.zero_le _⟩) hS (fun r M' v H1 locs1 hp hout hW1 hS1 => hX _ _ _ _ hp _ _ _ _ ⟨hW1, hS1, hl, out_push hout h2⟩)
  next => exact ho.elim
theorem si_iret (hret0 : ret = some .int) (hd : decode bytes pc = .ok (.ireturn, 1)) : am_Sim own bytes maxL ret R pc o_iret := by
  intro p l e s m args below meth c G X q C hX als ast M ho H locs ls st hr
  obtain ⟨hx, hb, hml, hret, hlk, hown, hts, hK, hinj⟩ := C
  obtain ⟨hW, hS, hl, hst⟩ := hr
  subst hret0
  unfold o_iret at ho
  split at ho
  next x0 =>
    obtain ⟨v, vs, rfl, h1, h2⟩ := rvs_c hst
    obtain rfl := rvs_0 h2
    obtain ⟨x, rfl, rfl⟩ := rv_i h1
    exact W.iret hx hb hret (fun t ht hW1 => ⟨⟨_, _, ho, ⟨_, rfl, rfl⟩, by rw [ht]; exact hW, va_K.moved hW1.alike hK⟩, hS.F ht⟩) hS.2.2 hd hlk
  next => exact ho.elim
theorem si_zret (hret0 : ret = some .boolean) (hd : decode bytes pc = .ok (.ireturn, 1)) : am_Sim own bytes maxL ret R pc o_zret := by
  intro p l e s m args below meth c G X q C hX als ast M ho H locs ls st hr
  obtain ⟨hx, hb, hml, hret, hlk, hown, hts, hK, hinj⟩ := C
  obtain ⟨hW, hS, hl, hst⟩ := hr
  subst hret0
  unfold o_zret at ho
  split at ho
  next x0 =>
    obtain ⟨v, vs, rfl, h1, h2⟩ := rvs_c hst
    obtain rfl := rvs_0 h2
    obtain ⟨x, rfl, rfl⟩ := rv_i h1
    obtain ⟨h01, ho⟩ := ho
    have hn : narrow .boolean (.int x) = .int x := by
      rcases h01 with h | h
      · have : x = 0 := Int32.toInt_inj.mp (by rw [h]; rfl)
        subst this
        decide
      · have : x = 1 := Int32.toInt_inj.mp (by rw [h]; rfl)
        subst this
        decide
    exact W.zret hx hb hret hn (fun t ht hW1 => ⟨⟨_, _, ho, ⟨_, rfl, rfl⟩, by rw [ht]; exact hW, va_K.moved hW1.alike hK⟩, hS.F ht⟩) hS.2.2 hd hlk
  next => exact ho.elim
theorem si_lret (hret0 : ret = some .long) (hd : decode bytes pc = .ok (.lreturn, 1)) : am_Sim own bytes maxL ret R pc o_lret := by
  intro p l e s m args below meth c G X q C hX als ast M ho H locs ls st hr
  obtain ⟨hx, hb, hml, hret, hlk, hown, hts, hK, hinj⟩ := C
  obtain ⟨hW, hS, hl, hst⟩ := hr
  subst hret0
  unfold o_lret at ho
  split at ho
  next x0 =>
    obtain ⟨v, vs, rfl, h1, h2⟩ := rvs_c hst
    obtain rfl := rvs_0 h2
    obtain ⟨x, rfl, rfl⟩ := rv_l h1
    exact W.lret hx hb hret (fun t ht hW1 => ⟨⟨_, _, ho, ⟨_, rfl, rfl⟩, by rw [ht]; exact hW, va_K.moved hW1.alike hK⟩, hS.F ht⟩) hS.2.2 hd hlk
  next => exact ho.elim
theorem si_aret {n : String} (hret0 : ret = some (.object n)) (hd : decode bytes pc = .ok (.areturn, 1)) : am_Sim own bytes maxL ret R pc o_aret := by
  intro p l e s m args below meth c G X q C hX als ast M ho H locs ls st hr
  obtain ⟨hx, hb, hml, hret, hlk, hown, hts, hK, hinj⟩ := C
  obtain ⟨hW, hS, hl, hst⟩ := hr
  subst hret0
  unfold o_aret at ho
  split at ho
  next x0 =>
    obtain ⟨v, vs, rfl, h1, h2⟩ := rvs_c hst
    obtain rfl := rvs_0 h2
    cases x0 with
    | zero =>
      obtain rfl := rv_n h1
      exact W.aret hx hb hret (Or.inl ⟨_, rfl⟩) (Or.inl rfl) (fun t ht hW1 => ⟨⟨_, _, ho, ⟨_, rfl, trivial⟩, by rw [ht]; exact hW, va_K.moved hW1.alike hK⟩, hS.F ht⟩) hS.2.2 hd hlk
    | succ x0 =>
      obtain rfl := rv_r h1
      exact W.aret hx hb hret (Or.inl ⟨_, rfl⟩) (Or.inr ⟨_, rfl⟩) (fun t ht hW1 => ⟨⟨_, _, ho, ⟨_, rfl, rfl⟩, by rw [ht]; exact hW, va_K.moved hW1.alike hK⟩, hS.F ht⟩) hS.2.2 hd hlk
  next => exact ho.elim
theorem si_vret (hret0 : ret = none) (hd : decode bytes pc = .ok (.return_, 1)) : am_Sim own bytes maxL ret R pc o_vret := by
  intro p l e s m args below meth c G X q C hX als ast M ho H locs ls st hr
  obtain ⟨hx, hb, hml, hret, hlk, hown, hts, hK, hinj⟩ := C
  obtain ⟨hW, hS, hl, hst⟩ := hr
  subst hret0
  unfold o_vret at ho
  split at ho
  next =>
    obtain rfl := rvs_0 hst
    exact W.vret hx hb hret (fun t ht hW1 => ⟨⟨_, _, ho, rfl, by rw [ht]; exact hW, va_K.moved hW1.alike hK⟩, hS.F ht⟩) hS.2.2 hd hlk
  next => exact ho.elim
end SIM
theorem am_sound_of {y : MethodName} {own : String} {bytes : ByteArray} {maxL fr lo : Nat} {ret : Option FieldType} {cd : List (Nat × am_O)} (hy : plainName y.cls = true) (hown : y.cls = own)
    (h : ∀ e ∈ cd, am_Sim own bytes maxL ret ({ frames := fr, cells := 0, slots := 0, locals := lo } : Room) e.1 e.2) : am_Sound y bytes maxL ret fr lo (am_S cd maxL) := by
  intro l G as vs M q hinj hrv hS
  obtain ⟨P, hlen, hR, hPq⟩ := hS
  refine Met.ofW (cc := bytes) (maxL := maxL) (ret := ret) hy rfl ?_
  intro p e s m args below meth c s₁ B hml hv
  obtain ⟨rfl, hW, hK⟩ := hv
  have hts0 := atoms_spec (ws := Cond.code y bytes maxL ret :: lw_g) B.pre
  have hcx : am_Cx G own bytes maxL ret p s m vs.toArray meth c := ⟨B.exec, B.bytes, hml, B.returns, B.notSynchronized, by rw [← hown]; exact findClass_of_methodNamed B.named, fun w hw => hts0 w (List.mem_cons_of_mem _ hw), hK, hinj⟩
  have go := hR (fun pc als ast M => am_Go G maxL ret p l e ({ frames := fr, cells := 0, slots := 0, locals := lo } : Room) s m vs.toArray below meth c P pc als ast M) (fun pc als als' ast M hle hg H locs ls st hr => hg H locs ls st ⟨hr.1, hr.2.1, lr_le hle hr.2.2.1, hr.2.2.2⟩) (fun en hen als ast M ho => h en hen p l e s m vs.toArray below meth c G _ P hcx (fun _ _ _ _ h => h) als ast M ho)
  rw [lg_entry_eq]
  have go2 := go s.heap [] ((lg_sl vs ++ List.replicate (maxL - (lg_sl vs).length) Slot.unset).toArray) [] ⟨hW, va_S.rf, lr_entry hrv hlen, trivial⟩
  intro T hT X
  obtain ⟨t, a1, o, b1, b2, ⟨⟨r, M', c1, c2, c3, c4⟩, c5⟩, b4⟩ := go2 T hT X
  exact ⟨t, a1, o, b1, b2, ⟨⟨r, M', hPq r M' c1, c2, c3, c4⟩, c5⟩, b4⟩
