/-! rows for the constructors: a world that grows, with the three array classes fixed -/
theorem RA_eq {U : State} {x y : ClassId} {ty : FieldType} (h1 : va_RA U x ty) (h2 : va_RA U y ty) : x = y := by
  cases ty with
  | object C =>
    obtain ⟨_, _, _, _, _, e1⟩ := h1
    obtain ⟨_, _, _, _, _, e2⟩ := h2
    exact Option.some.inj (e1.symm.trans e2)
  | _ => exact Option.some.inj (Eq.trans (Eq.symm h1) h2)
abbrev c3 (cI cL cS : ClassId) : List (ClassId × FieldType) := [(cI, .int), (cL, .long), (cS, .object RX7)]
def cP (D : va_G) (cI cL cS : ClassId) (sz : Nat) (ws : va_W) (U : State) : Prop := U.heap.size = sz ∧ va_P D am_cl ws U.heap ∧ va_K D am_cl (c3 cI cL cS) U ∧ va_D (fun _ => True) ws ∧ va_AO RX7 U
def cB (D : va_G) (cI cL cS : ClassId) (A : Nat → Prop) (ws : va_W) (U : State) : Prop := va_P D am_cl ws U.heap ∧ va_K D am_cl (c3 cI cL cS) U ∧ va_D A ws
/-- the form of a constructor's contract -/
abbrev cMet (l : Launch) (D : va_G) (cI cL cS : ClassId) (y : MethodName) (bytes : ByteArray) (maxL fr mc ms lo sz : Nat) (vs : List Value) (wc : va_W) (w1 : (Nat → Nat) → va_W) : Prop :=
  Met l y (Cond.code y bytes maxL none :: lw_g) ({ frames := fr, cells := mc, slots := ms, locals := lo } : Room) (va_Pc vs (cP D cI cL cS sz wc)) (va_Qv (fun _ : Nat → Nat => True) (fun u t => cB D cI cL cS (va_A wc sz) (w1 u) t) (va_A wc sz)) mc ms (va_A wc sz)
theorem cP_blind {D : va_G} {cI cL cS : ClassId} {sz : Nat} {ws : va_W} {vs : List Value} : FrameBlind (va_Pc vs (cP D cI cL cS sz ws)) := by
  intro a U g mk h
  obtain ⟨h1, h2, h3, h4, h5, h6⟩ := h
  exact ⟨h1, h2, h3, va_K.moved (u := U) (U := U.calling g mk a) (Vm.Alike.refl U.vm) h4, h5, va_AO.moved (u := U) (U := U.calling g mk a) (Vm.Alike.refl U.vm) h6⟩
theorem P_norm {D : va_G} {cl : List vw_C} {ws : va_W} {H : Heap} {k q n : Nat} {cA : ClassId} {f g : Nat → Int32} (h : va_P D cl ws H) (hk : ws[k]? = some (q, .inl (cA, n, .inl f))) (hfg : ∀ j, j < n → f j = g j) : va_P D cl (ws.set k (q, .inl (cA, n, .inl g))) H := by
  intro i x hx
  have hl := (List.getElem?_eq_some_iff.mp hk).1
  rw [List.getElem?_set] at hx
  by_cases e : k = i
  · subst e
    rw [if_pos rfl, if_pos hl] at hx
    cases hx
    have h1 := h k _ hk
    have e1 : vp_cell cA (n, .inl f) = vp_cell cA (n, .inl g) := by
      show arrV cA n (fun j => .int (f j)) = arrV cA n (fun j => .int (g j))
      unfold arrV
      congr 1
      congr 1
      funext j
      show Value.int (f j.1) = Value.int (g j.1)
      rw [hfg j.1 j.2]
    show H[q]? = some (vp_cell cA (n, .inl g))
    rw [← e1]
    exact h1
  · rw [if_neg e] at hx
    exact h i x hx
section CTOR
variable {p : Program} {l : Launch} {e : Env} {R : Room} {s : State} {m : MethodId} {args : Array Value} {below : List Frame} {meth : Method} {c : Code} {H : Heap} {locs : List Loc} {cells slots : Nat} {Q : State → Prop}
variable {cc : ByteArray} {pc : Nat} {ls : Array Slot} {rest : List Value} {D : va_G} {cl : List vw_C} {A : Nat → Prop} {a : Nat} {tys : List (ClassId × FieldType)} {ws : va_W} {H0 : Heap}
theorem cn_newa (hexec : p.tables.exec = Jvm.exec) (hb : c.code = cc) {atype : ArrayType} (harr : (Cond.arrayClass (newarray.typeOf atype)).before args s = true) {ty : FieldType} (hty : newarray.typeOf atype = ty) (hK : va_K D cl tys s) (t0 : Nat) {cA0 : ClassId} (ht : tys[t0]? = some (cA0, ty)) (hP : va_P D cl ws H) (hD : va_D A ws) (hS : va_S A H0 H locs) (hA : ∀ q, H0.size ≤ q → A q)
    {n : Int32} {N' : Nat} {a0 : vp_A} (ha : ∀ cA : ClassId, vp_cell cA a0 = arrV cA N' (fun _ => defaultValue ty)) (hn : ¬ n < 0) (hN : n.toNatClampNeg = N') (hbytes : N' * componentBytes ty ≤ 536870912) (hcells : cells + 1 ≤ R.cells) (hslots : slots + N' ≤ R.slots) (hdg : decode cc pc = .ok (.newarray atype, 2))
    (kk : ∀ (q : Nat) (H1 : Heap), va_P D cl (ws ++ [(q, .inl (cA0, a0))]) H1 → va_D A (ws ++ [(q, .inl (cA0, a0))]) → va_S A H0 H1 locs →
      W p l e R s m args below meth c H1 locs (cells + 1) (slots + N') Q (F0 m (pc + 2) ls (.ref q :: rest))) : W p l e R s m args below meth c H locs cells slots Q (F0 m pc ls (.int n :: rest)) :=
  va_newa hexec hb harr hty hK hP hD hS hA ha hn hN hbytes hcells hslots hdg (fun q cA H1 hK1 hP1 hD1 hS1 => by
    have h1 := (hK1.2 tys.length (cA, ty) (by simp)).2
    have h2 := (hK.2 t0 _ ht).2
    have h3 : cA = cA0 := RA_eq h1 h2
    rw [h3] at hP1 hD1
    exact kk q H1 hP1 hD1 hS1)
theorem cn_newq (hexec : p.tables.exec = Jvm.exec) (hb : c.code = cc) {own C : String} {index : Nat} (hown : s.vm.findClass own = some m.cls) (hclink : (Cond.classLink own index C).before args s = true) (hover : va_AO C s) (hK : va_K D cl tys s) (t0 : Nat) {cA0 : ClassId} (ht : tys[t0]? = some (cA0, .object C)) (hP : va_P D cl ws H) (hD : va_D A ws) (hS : va_S A H0 H locs) (hA : ∀ q, H0.size ≤ q → A q)
    {n : Int32} {N' : Nat} (hn : ¬ n < 0) (hN : n.toNatClampNeg = N') (hbytes : N' * 4 ≤ 536870912) (hcells : cells + 1 ≤ R.cells) (hslots : slots + N' ≤ R.slots) (hdg : decode cc pc = .ok (.anewarray index, 3))
    (kk : ∀ (q : Nat) (H1 : Heap), va_P D cl (ws ++ [(q, .inl (cA0, N', .inr (.inr (.inr (.inr (fun _ => none))))))]) H1 → va_D A (ws ++ [(q, .inl (cA0, N', .inr (.inr (.inr (.inr (fun _ => none))))))]) → va_S A H0 H1 locs →
      W p l e R s m args below meth c H1 locs (cells + 1) (slots + N') Q (F0 m (pc + 3) ls (.ref q :: rest))) : W p l e R s m args below meth c H locs cells slots Q (F0 m pc ls (.int n :: rest)) :=
  va_newq hexec hb hown hclink hover hK hP hD hS hA hn hN hbytes hcells hslots hdg (fun q cA H1 hK1 hP1 hD1 hS1 => by
    have h1 := (hK1.2 tys.length (cA, .object C) (by simp)).2
    have h2 := (hK.2 t0 _ ht).2
    have h3 : cA = cA0 := RA_eq h1 h2
    rw [h3] at hP1 hD1
    exact kk q H1 hP1 hD1 hS1)
/-- a call of a constructor: its cell and what it makes come behind what stays -/
theorem cn_callI {cI cL cS : ClassId} {own : String} {y : MethodName} {bytes : ByteArray} {maxL fr mc ms lo index n nL b : Nat} {As : List Value} {wc wr : va_W} {w1 : (Nat → Nat) → va_W}
    (S : CallFix p m c cc nL s args lw_g own) (hM : cMet l D cI cL cS y bytes maxL fr mc ms lo H.size (.ref b :: As) wc w1) (hin : y.name = "<init>") (hli : Cond.methodLink own index y ∈ lw_g) (hst : Cond.instanceMethod y ∈ lw_g) (hini : Cond.initialized y.cls ∈ lw_g) (hcode : Cond.code y bytes maxL none ∈ lw_g) (hdd : y.cls ≠ "java/lang/invoke/MethodHandle" ∧ y.cls ≠ "java/lang/invoke/VarHandle" ∧ (parseMethodDescriptor y.desc).map (fun d => d.parameters.length) = some n) (hR : Nat.ble (fr + 1) R.frames = true ∧ Nat.ble (8 + (maxL + 11) + lo) R.locals = true)
    (hn : As.length = n) (hls : ls.size = nL) (hcat : (rest.map fun v => v.category).sum ≤ 8) (hdg : decode cc pc = .ok (.invokespecial index, 3)) (hf : cells + mc ≤ R.cells ∧ slots + ms ≤ R.slots)
    (hAO : va_AO RX7 s) (hK : va_K D am_cl (c3 cI cL cS) s) (hP : va_P D am_cl ws H) (hD : va_D A ws) (hS : va_S A H0 H locs) (hA : ∀ q, H0.size ≤ q → A q)
    (isC isR : List Nat) (hC1 : isC.filterMap (fun i => ws[i]?) = wc) (hC : isC.map (fun i => ws[i]?) = wc.map some) (hR1 : isR.map (fun i => ws[i]?) = wr.map some) (hnd : va_nd isR = true) (hndC : va_nd isC = true) (hdis : ∀ i ∈ isR, i ∉ isC)
    (kk : ∀ (u : Nat → Nat) (H1 : Heap) (locs1 : List Loc), va_P D am_cl (wr ++ w1 u) H1 → va_D A (wr ++ w1 u) → va_S A H0 H1 locs1 → W p l e R s m args below meth c H1 locs1 (cells + mc) (slots + ms) Q (F0 m (pc + 3) ls rest)) : W p l e R s m args below meth c H locs cells slots Q (F0 m pc ls (As.reverse ++ .ref b :: rest)) := by
  obtain ⟨hx, hb, hml, hown, hts⟩ := S
  have hPc := hP.sub (ws' := wc) isC hC1
  have hDc := hD.sub (ws' := wc) isC hndC hC
  have hFc := va_free (wc := wc) hD hS hA isC hC
  have cb := callB_of (R := R) n hts (lw_goodIn hcode) rfl rfl rfl (hts _ hini) (hts _ hli) hdd ⟨Nat.le_of_ble_eq_true hR.1, Nat.le_of_ble_eq_true hR.2⟩ (rm := { frames := fr, cells := mc, slots := ms, locals := lo })
  refine va_callv (va_runI (As := As) (rest := rest) ⟨hx, hb, hml, hown, hts⟩ hM ⟨cb, hin, hts _ hst⟩ ⟨cP_blind, fun U hU hW => ⟨rfl, by rw [hU], by rw [hU]; exact hPc, va_K.moved hW.alike hK, hDc.weaken (fun _ _ _ _ => trivial), va_AO.moved hW.alike hAO⟩⟩ rfl hn hls rfl (lv_room hcat) hdg hf) hS (fun q _ h => hFc q h) hFc (fun u t H1 locs ht hvm hw hB hz1 hk1 hS => ?_)
  obtain ⟨hP1, hK1, hD1⟩ := hB
  rw [ht] at hP1
  obtain ⟨hP, hD⟩ := va_join (wr := wr) (w1 := w1 u) hP hD isC isR hC hR1 hnd hdis hk1 hFc hP1 hD1
  exact kk u H1 locs hP hD hS
theorem cn_callS {cI cL cS : ClassId} {own : String} {y : MethodName} {bytes : ByteArray} {maxL fr mc ms lo index n nL : Nat} {As : List Value} {wc wr : va_W} {w1 : (Nat → Nat) → va_W}
    (S : CallFix p m c cc nL s args lw_g own) (hM : cMet l D cI cL cS y bytes maxL fr mc ms lo H.size As wc w1) (hli : Cond.methodLink own index y ∈ lw_g) (hst : Cond.static y ∈ lw_g) (hini : Cond.initialized y.cls ∈ lw_g) (hcode : Cond.code y bytes maxL none ∈ lw_g) (hdd : y.cls ≠ "java/lang/invoke/MethodHandle" ∧ y.cls ≠ "java/lang/invoke/VarHandle" ∧ (parseMethodDescriptor y.desc).map (fun d => d.parameters.length) = some n) (hR : Nat.ble (fr + 1) R.frames = true ∧ Nat.ble (8 + (maxL + 11) + lo) R.locals = true)
    (hn : As.length = n) (hls : ls.size = nL) (hcat : (rest.map fun v => v.category).sum ≤ 8) (hdg : decode cc pc = .ok (.invokestatic index, 3)) (hf : cells + mc ≤ R.cells ∧ slots + ms ≤ R.slots)
    (hAO : va_AO RX7 s) (hK : va_K D am_cl (c3 cI cL cS) s) (hP : va_P D am_cl ws H) (hD : va_D A ws) (hS : va_S A H0 H locs) (hA : ∀ q, H0.size ≤ q → A q)
    (isC isR : List Nat) (hC1 : isC.filterMap (fun i => ws[i]?) = wc) (hC : isC.map (fun i => ws[i]?) = wc.map some) (hR1 : isR.map (fun i => ws[i]?) = wr.map some) (hnd : va_nd isR = true) (hndC : va_nd isC = true) (hdis : ∀ i ∈ isR, i ∉ isC)
    (kk : ∀ (u : Nat → Nat) (H1 : Heap) (locs1 : List Loc), va_P D am_cl (wr ++ w1 u) H1 → va_D A (wr ++ w1 u) → va_S A H0 H1 locs1 → W p l e R s m args below meth c H1 locs1 (cells + mc) (slots + ms) Q (F0 m (pc + 3) ls rest)) : W p l e R s m args below meth c H locs cells slots Q (F0 m pc ls (As.reverse ++ rest)) := by
  obtain ⟨hx, hb, hml, hown, hts⟩ := S
  have hPc := hP.sub (ws' := wc) isC hC1
  have hDc := hD.sub (ws' := wc) isC hndC hC
  have hFc := va_free (wc := wc) hD hS hA isC hC
  have cb := callB_of (R := R) n hts (lw_goodIn hcode) rfl rfl rfl (hts _ hini) (hts _ hli) hdd ⟨Nat.le_of_ble_eq_true hR.1, Nat.le_of_ble_eq_true hR.2⟩ (rm := { frames := fr, cells := mc, slots := ms, locals := lo })
  refine va_callv (va_runS (As := As) (rest := rest) ⟨hx, hb, hml, hown, hts⟩ hM ⟨cb, hts _ hst⟩ ⟨cP_blind, fun U hU hW => ⟨rfl, by rw [hU], by rw [hU]; exact hPc, va_K.moved hW.alike hK, hDc.weaken (fun _ _ _ _ => trivial), va_AO.moved hW.alike hAO⟩⟩ rfl hn hls rfl (lv_room hcat) hdg hf) hS (fun q _ h => hFc q h) hFc (fun u t H1 locs ht hvm hw hB hz1 hk1 hS => ?_)
  obtain ⟨hP1, hK1, hD1⟩ := hB
  rw [ht] at hP1
  obtain ⟨hP, hD⟩ := va_join (wr := wr) (w1 := w1 u) hP hD isC isR hC hR1 hnd hdis hk1 hFc hP1 hD1
  exact kk u H1 locs hP hD hS
theorem cn_callV {cI cL cS : ClassId} {own : String} {y : MethodName} {bytes : ByteArray} {maxL fr mc ms lo index n nL b ci N : Nat} {T : u_T} {C : String} {fs : List Value} {As : List Value} {wc wr : va_W} {w1 : (Nat → Nat) → va_W}
    (S : CallFix p m c cc nL s args lw_g own) (hM : cMet l D cI cL cS y bytes maxL fr mc ms lo H.size (.ref b :: As) wc w1) (hc : am_cl[ci]? = some (C, T, N)) (qb : Nat) (hqb : ws[qb]? = some (b, .inr (ci, fs))) (hli : Cond.methodLink own index y ∈ lw_g) (hst : Cond.instanceMethod y ∈ lw_g) (hse : Cond.selects C y y ∈ lw_g) (hini : Cond.initialized y.cls ∈ lw_g) (hcode : Cond.code y bytes maxL none ∈ lw_g) (hdd : y.cls ≠ "java/lang/invoke/MethodHandle" ∧ y.cls ≠ "java/lang/invoke/VarHandle" ∧ (parseMethodDescriptor y.desc).map (fun d => d.parameters.length) = some n) (hR : Nat.ble (fr + 1) R.frames = true ∧ Nat.ble (8 + (maxL + 11) + lo) R.locals = true)
    (hn : As.length = n) (hls : ls.size = nL) (hcat : (rest.map fun v => v.category).sum ≤ 8) (hdg : decode cc pc = .ok (.invokevirtual index, 3)) (hf : cells + mc ≤ R.cells ∧ slots + ms ≤ R.slots)
    (hAO : va_AO RX7 s) (hK : va_K D am_cl (c3 cI cL cS) s) (hP : va_P D am_cl ws H) (hD : va_D A ws) (hS : va_S A H0 H locs) (hA : ∀ q, H0.size ≤ q → A q)
    (isC isR : List Nat) (hC1 : isC.filterMap (fun i => ws[i]?) = wc) (hC : isC.map (fun i => ws[i]?) = wc.map some) (hR1 : isR.map (fun i => ws[i]?) = wr.map some) (hnd : va_nd isR = true) (hndC : va_nd isC = true) (hdis : ∀ i ∈ isR, i ∉ isC)
    (kk : ∀ (u : Nat → Nat) (H1 : Heap) (locs1 : List Loc), va_P D am_cl (wr ++ w1 u) H1 → va_D A (wr ++ w1 u) → va_S A H0 H1 locs1 → W p l e R s m args below meth c H1 locs1 (cells + mc) (slots + ms) Q (F0 m (pc + 3) ls rest)) : W p l e R s m args below meth c H locs cells slots Q (F0 m pc ls (As.reverse ++ .ref b :: rest)) := by
  obtain ⟨hx, hb, hml, hown, hts⟩ := S
  have hPc := hP.sub (ws' := wc) isC hC1
  have hDc := hD.sub (ws' := wc) isC hndC hC
  have hFc := va_free (wc := wc) hD hS hA isC hC
  have cb := callB_of (R := R) n hts (lw_goodIn hcode) rfl rfl rfl (hts _ hini) (hts _ hli) hdd ⟨Nat.le_of_ble_eq_true hR.1, Nat.le_of_ble_eq_true hR.2⟩ (rm := { frames := fr, cells := mc, slots := ms, locals := lo })
  refine va_callv (va_runV (b := b) (C := C) (As := As) (rest := rest) ⟨hx, hb, hml, hown, hts⟩ hM ⟨cb, hts _ hst, hts _ hse⟩ ⟨cP_blind, va_recv hK hP hc hqb, fun U hU hW => ⟨rfl, by rw [hU], by rw [hU]; exact hPc, va_K.moved hW.alike hK, hDc.weaken (fun _ _ _ _ => trivial), va_AO.moved hW.alike hAO⟩⟩ rfl hn hls rfl (lv_room hcat) hdg hf) hS (fun q _ h => hFc q h) hFc (fun u t H1 locs ht hvm hw hB hz1 hk1 hS => ?_)
  obtain ⟨hP1, hK1, hD1⟩ := hB
  rw [ht] at hP1
  obtain ⟨hP, hD⟩ := va_join (wr := wr) (w1 := w1 u) hP hD isC isR hC hR1 hnd hdis hk1 hFc hP1 hD1
  exact kk u H1 locs hP hD hS
end CTOR
