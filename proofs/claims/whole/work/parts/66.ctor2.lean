theorem fs_0 : ∀ j, j < 3 → defaultValue (tyX0 j) = vp_V [.null, .null, .null] j
  | 0, _ => rfl
  | 1, _ => rfl
  | 2, _ => rfl
  | n + 3, h => absurd h (by omega)
theorem fs_1 : ∀ j, j < 3 → defaultValue (tyX1 j) = vp_V [.null, .null, .long 0] j
  | 0, _ => rfl
  | 1, _ => rfl
  | 2, _ => rfl
  | n + 3, h => absurd h (by omega)
theorem fs_2 : ∀ j, j < 3 → defaultValue (tyX2 j) = vp_V [.null, .null, .int 0] j
  | 0, _ => rfl
  | 1, _ => rfl
  | 2, _ => rfl
  | n + 3, h => absurd h (by omega)
theorem fs_3 : ∀ j, j < 5 → defaultValue (tyX3 j) = vp_V [.null, .null, .null, .null, .int 0] j
  | 0, _ => rfl
  | 1, _ => rfl
  | 2, _ => rfl
  | 3, _ => rfl
  | 4, _ => rfl
  | n + 5, h => absurd h (by omega)
theorem fs_4 : ∀ j, j < 3 → defaultValue (tyX4 j) = vp_V [.null, .null, .int 0] j
  | 0, _ => rfl
  | 1, _ => rfl
  | 2, _ => rfl
  | n + 3, h => absurd h (by omega)
theorem fs_5 : ∀ j, j < 5 → defaultValue (tyX5 j) = vp_V [.null, .null, .null, .null, .long 0] j
  | 0, _ => rfl
  | 1, _ => rfl
  | 2, _ => rfl
  | 3, _ => rfl
  | 4, _ => rfl
  | n + 5, h => absurd h (by omega)
theorem fs_6 : ∀ j, j < 3 → defaultValue (tyX6 j) = vp_V [.null, .null, .null] j
  | 0, _ => rfl
  | 1, _ => rfl
  | 2, _ => rfl
  | n + 3, h => absurd h (by omega)
theorem fs_7 : ∀ j, j < 3 → defaultValue (tyX7 j) = vp_V [.null, .int 0, .int 0] j
  | 0, _ => rfl
  | 1, _ => rfl
  | 2, _ => rfl
  | n + 3, h => absurd h (by omega)
theorem fs_8 : ∀ j, j < 5 → defaultValue (tyX8 j) = vp_V [.int 0, .int 0, .int 0, .int 0, .int 0] j
  | 0, _ => rfl
  | 1, _ => rfl
  | 2, _ => rfl
  | 3, _ => rfl
  | 4, _ => rfl
  | n + 5, h => absurd h (by omega)
theorem fs_9 : ∀ j, j < 4 → defaultValue (tyX9 j) = vp_V [.int 0, .null, .int 0, .int 0] j
  | 0, _ => rfl
  | 1, _ => rfl
  | 2, _ => rfl
  | 3, _ => rfl
  | n + 4, h => absurd h (by omega)
theorem fs_10 : ∀ j, j < 5 → defaultValue (tyX10 j) = vp_V [.null, .null, .int 0, .int 0, .int 0] j
  | 0, _ => rfl
  | 1, _ => rfl
  | 2, _ => rfl
  | 3, _ => rfl
  | 4, _ => rfl
  | n + 5, h => absurd h (by omega)
theorem fs_11 : ∀ j, j < 17 → defaultValue (tyX11 j) = vp_V [.null, .null, .null, .null, .null, .null, .null, .null, .null, .null, .null, .null, .null, .null, .int 0, .int 0, .int 0] j
  | 0, _ => rfl
  | 1, _ => rfl
  | 2, _ => rfl
  | 3, _ => rfl
  | 4, _ => rfl
  | 5, _ => rfl
  | 6, _ => rfl
  | 7, _ => rfl
  | 8, _ => rfl
  | 9, _ => rfl
  | 10, _ => rfl
  | 11, _ => rfl
  | 12, _ => rfl
  | 13, _ => rfl
  | 14, _ => rfl
  | 15, _ => rfl
  | 16, _ => rfl
  | n + 17, h => absurd h (by omega)
theorem fs_12 : ∀ j, j < 34 → defaultValue (tyX12 j) = vp_V [.null, .null, .null, .null, .int 0, .null, .null, .int 0, .null, .int 0, .null, .int 0, .null, .null, .null, .null, .null, .int 0, .null, .null, .null, .null, .int 0, .int 0, .int 0, .int 0, .null, .null, .int 0, .null, .null, .null, .int 0, .null] j
  | 0, _ => rfl
  | 1, _ => rfl
  | 2, _ => rfl
  | 3, _ => rfl
  | 4, _ => rfl
  | 5, _ => rfl
  | 6, _ => rfl
  | 7, _ => rfl
  | 8, _ => rfl
  | 9, _ => rfl
  | 10, _ => rfl
  | 11, _ => rfl
  | 12, _ => rfl
  | 13, _ => rfl
  | 14, _ => rfl
  | 15, _ => rfl
  | 16, _ => rfl
  | 17, _ => rfl
  | 18, _ => rfl
  | 19, _ => rfl
  | 20, _ => rfl
  | 21, _ => rfl
  | 22, _ => rfl
  | 23, _ => rfl
  | 24, _ => rfl
  | 25, _ => rfl
  | 26, _ => rfl
  | 27, _ => rfl
  | 28, _ => rfl
  | 29, _ => rfl
  | 30, _ => rfl
  | 31, _ => rfl
  | 32, _ => rfl
  | 33, _ => rfl
  | n + 34, h => absurd h (by omega)
theorem PQ_norm {D : va_G} {cl : List vw_C} {ws : va_W} {H : Heap} {k q n : Nat} {cA : ClassId} {f g : Nat → Option Nat} (h : va_P D cl ws H) (hk : ws[k]? = some (q, .inl (cA, n, .inr (.inr (.inr (.inr f)))))) (hfg : ∀ j, j < n → f j = g j) : va_P D cl (ws.set k (q, .inl (cA, n, .inr (.inr (.inr (.inr g)))))) H := by
  intro i x hx
  have hl := (List.getElem?_eq_some_iff.mp hk).1
  rw [List.getElem?_set] at hx
  by_cases e : k = i
  · subst e
    rw [if_pos rfl, if_pos hl] at hx
    cases hx
    have h1 := h k _ hk
    have e1 : vp_cell cA (n, .inr (.inr (.inr (.inr f)))) = vp_cell cA (n, .inr (.inr (.inr (.inr g)))) := by
      rw [vp_cell_q, vp_cell_q]
      unfold arrV
      congr 1
      congr 1
      funext j
      show va_rf (f j.1) = va_rf (g j.1)
      rw [hfg j.1 j.2]
    show H[q]? = some (vp_cell cA (n, .inr (.inr (.inr (.inr g)))))
    rw [← e1]
    exact h1
  · rw [if_neg e] at hx
    exact h i x hx
set_option maxHeartbeats 4000000 in
set_option maxRecDepth 100000 in
theorem k_X2_init (l : Launch) (D : va_G) (cI cL cS : ClassId) (sz h0 : Nat)  : cMet l D cI cL cS yX2_init cX2_init 1 1 2 320 23 sz [.ref h0] [(h0, .inr (2, [.null, .null, .int 0]))] (fun u => [(h0, .inr (2, [.ref (u 0), .ref (u 1), .int 0])), (u 0, .inl (cI, 64, .inl (fun _ => (-1)))), (u 1, .inl (cI, 256, .inl (fun _ => (-1))))]) := by
  refine Met.ofW (cc := cX2_init) (maxL := 1) (ret := none) (by decide +kernel) rfl ?_
  intro p e s m args below meth c s₁ B hml hv
  obtain ⟨rfl, hsz, hP, hK, hD0, hAO⟩ := hv
  have hx := B.exec
  have hb := B.bytes
  have hr := B.returns
  have hts0 := atoms_spec (ws := Cond.code yX2_init cX2_init 1 none :: lw_g) B.pre
  have hts := fun w hw => hts0 w (List.mem_cons_of_mem _ hw)
  have hown : s.vm.findClass RX2 = some m.cls := findClass_of_methodNamed B.named
  have hlocks := B.notSynchronized
  have hin : meth.name = "<init>" := (name_of_methodNamed B.named B.method).1
  subst hsz
  have hD := hD0.self (sz := s.heap.size)
  generalize hAe : va_A [(h0, .inr (2, [.null, .null, .int 0]))] s.heap.size = A at hD ⊢
  have hA : ∀ q : Nat, s.heap.size ≤ q → A q := fun q h => by rw [← hAe]; exact Or.inr h
  have hS : va_S A s.heap s.heap [] := va_S.rf
  have hl := lv_entry ([.ref h0]) (n := 1) (Nat.le_of_ble_eq_true rfl)
  rw [lg_entry_eq]
  generalize (lg_sl ([.ref h0]) ++ List.replicate (1 - (lg_sl ([.ref h0])).length) Slot.unset).toArray = ls at hl ⊢
  have hl : lv_has ls 1 [(0, .ref h0)] := hl
  refine lv_aload_n hx hb dX2_init_0 rfl (lv_at hl 0 rfl) ?_
  refine W.objInit hx hb hown (hts (.methodLink RX2 3 Lib.objectInit) (in_g (i := 120) (by decide +kernel) (by decide +kernel))) (hts (.instanceMethod Lib.objectInit) (in_g (i := 88) (by decide +kernel) (by decide +kernel))) (hts _ (in_g (i := 89) (by decide +kernel) (by decide +kernel))) rfl (by rw [hml]; exact hl.1) rfl dX2_init_1 (Nat.le_of_ble_eq_true rfl) (Nat.le_of_ble_eq_true rfl) ?_
  refine W.eq (g2 := F0 m 4 ls []) rfl ?_
  refine lv_aload_n hx hb dX2_init_4 rfl (lv_at hl 0 rfl) ?_
  refine lv_bipush (v := 64) hx hb dX2_init_5 (by decide) ?_
  refine cn_newa (ty := .int) (a0 := (64, .inl (fun _ => 0))) (N' := 64) hx hb (hts _ (in_g (i := 114) (by decide +kernel) (by decide +kernel))) rfl hK 0 rfl hP hD hS hA (fun _ => rfl) (by decide) (by decide) (by decide) (Nat.le_of_ble_eq_true rfl) (Nat.le_of_ble_eq_true rfl) dX2_init_7 (fun q0 H hP hD hS => ?_)
  refine W.widen (k := 1) (n := 64) (by decide) (by decide) ?_
  have hP : va_P D am_cl [(h0, .inr (2, [.null, .null, .int 0])), (q0, .inl (cI, 64, .inl (fun _ => 0)))] H := hP
  have hD : va_D A [(h0, .inr (2, [.null, .null, .int 0])), (q0, .inl (cI, 64, .inl (fun _ => 0)))] := hD
  refine va_putF (D := D) (ref := RX2) (ci := 2) (v := .ref q0) (ty := tyX2 0) (C := RX2) (T := TX2) (N := 3) hx hb hts inC_2 tyX2 tyX2_ok nmX2 hown hK hP hD hS 0 rfl rfl 0 (by decide) (hts _ (in_g (i := 124) (by decide +kernel) (by decide +kernel))) (fun _ h9 => h9) rfl hin rfl (tyX2_ok 0 (by decide)) rfl rfl (Nat.le_of_ble_eq_true rfl) dX2_init_9 (fun H locs hP hD hS => ?_)
  have hP : va_P D am_cl [(h0, .inr (2, [.ref q0, .null, .int 0])), (q0, .inl (cI, 64, .inl (fun _ => 0)))] H := hP
  have hD : va_D A [(h0, .inr (2, [.ref q0, .null, .int 0])), (q0, .inl (cI, 64, .inl (fun _ => 0)))] := hD
  refine lv_aload_n hx hb dX2_init_12 rfl (lv_at hl 0 rfl) ?_
  refine lv_sipush (v := 256) hx hb dX2_init_13 (by decide) ?_
  refine cn_newa (ty := .int) (a0 := (256, .inl (fun _ => 0))) (N' := 256) hx hb (hts _ (in_g (i := 114) (by decide +kernel) (by decide +kernel))) rfl hK 0 rfl hP hD hS hA (fun _ => rfl) (by decide) (by decide) (by decide) (Nat.le_of_ble_eq_true rfl) (Nat.le_of_ble_eq_true rfl) dX2_init_16 (fun q1 H hP hD hS => ?_)
  refine W.widen (k := 2) (n := 320) (by decide) (by decide) ?_
  have hP : va_P D am_cl [(h0, .inr (2, [.ref q0, .null, .int 0])), (q0, .inl (cI, 64, .inl (fun _ => 0))), (q1, .inl (cI, 256, .inl (fun _ => 0)))] H := hP
  have hD : va_D A [(h0, .inr (2, [.ref q0, .null, .int 0])), (q0, .inl (cI, 64, .inl (fun _ => 0))), (q1, .inl (cI, 256, .inl (fun _ => 0)))] := hD
  refine va_putF (D := D) (ref := RX2) (ci := 2) (v := .ref q1) (ty := tyX2 1) (C := RX2) (T := TX2) (N := 3) hx hb hts inC_2 tyX2 tyX2_ok nmX2 hown hK hP hD hS 0 rfl rfl 1 (by decide) (hts _ (in_g (i := 125) (by decide +kernel) (by decide +kernel))) (fun _ h9 => h9) rfl hin rfl (tyX2_ok 1 (by decide)) rfl rfl (Nat.le_of_ble_eq_true rfl) dX2_init_18 (fun H locs hP hD hS => ?_)
  have hP : va_P D am_cl [(h0, .inr (2, [.ref q0, .ref q1, .int 0])), (q0, .inl (cI, 64, .inl (fun _ => 0))), (q1, .inl (cI, 256, .inl (fun _ => 0)))] H := hP
  have hD : va_D A [(h0, .inr (2, [.ref q0, .ref q1, .int 0])), (q0, .inl (cI, 64, .inl (fun _ => 0))), (q1, .inl (cI, 256, .inl (fun _ => 0)))] := hD
  refine lv_aload_n hx hb dX2_init_21 rfl (lv_at hl 0 rfl) ?_
  refine va_get (ref := RX2) (C := RX2) (T := TX2) (N := 3) hx hb hts inC_2 hown hK hP 0 rfl rfl 0 (by decide) (hts _ (in_g (i := 124) (by decide +kernel) (by decide +kernel))) (fun _ h9 => h9) (v := .ref q0) rfl dX2_init_22 ?_
  refine lv_iconst (v := (-1)) hx hb dX2_init_25 (by decide) ?_
  refine cn_callS (n := 2) (As := [.ref q0, .int (-1)]) (rest := []) (wc := [(q0, .inl (cI, 64, .inl (fun _ => 0)))]) (wr := [(h0, .inr (2, [.ref q0, .ref q1, .int 0])), (q1, .inl (cI, 256, .inl (fun _ => 0)))]) ⟨hx, hb, hml, hown, hts⟩ (k_fill l D cI cL cS _ q0 64 (-1) (fun _ => 0) (by decide)) (hli := (in_g (i := 121) (by decide +kernel) (by decide +kernel))) (hst := (in_g (i := 122) (by decide +kernel) (by decide +kernel))) (hini := (in_g (i := 68) (by decide +kernel) (by decide +kernel))) (hcode := (in_g (i := 123) (by decide +kernel) (by decide +kernel))) (hdd := by decide +kernel) (hR := ⟨rfl, rfl⟩) rfl hl.1 (by decide) dX2_init_26 ⟨Nat.le_of_ble_eq_true rfl, Nat.le_of_ble_eq_true rfl⟩ hAO hK hP hD hS hA [1] [0, 2] rfl rfl rfl (by decide) (by decide) (by decide) (fun u26 H locs hP hD hS => ?_)
  have hP : va_P D am_cl [(h0, .inr (2, [.ref q0, .ref q1, .int 0])), (q1, .inl (cI, 256, .inl (fun _ => 0))), (q0, .inl (cI, 64, .inl (fun _ => (-1))))] H := hP
  have hD : va_D A [(h0, .inr (2, [.ref q0, .ref q1, .int 0])), (q1, .inl (cI, 256, .inl (fun _ => 0))), (q0, .inl (cI, 64, .inl (fun _ => (-1))))] := hD
  refine lv_aload_n hx hb dX2_init_29 rfl (lv_at hl 0 rfl) ?_
  refine va_get (ref := RX2) (C := RX2) (T := TX2) (N := 3) hx hb hts inC_2 hown hK hP 0 rfl rfl 1 (by decide) (hts _ (in_g (i := 125) (by decide +kernel) (by decide +kernel))) (fun _ h9 => h9) (v := .ref q1) rfl dX2_init_30 ?_
  refine lv_iconst (v := (-1)) hx hb dX2_init_33 (by decide) ?_
  refine cn_callS (n := 2) (As := [.ref q1, .int (-1)]) (rest := []) (wc := [(q1, .inl (cI, 256, .inl (fun _ => 0)))]) (wr := [(h0, .inr (2, [.ref q0, .ref q1, .int 0])), (q0, .inl (cI, 64, .inl (fun _ => (-1))))]) ⟨hx, hb, hml, hown, hts⟩ (k_fill l D cI cL cS _ q1 256 (-1) (fun _ => 0) (by decide)) (hli := (in_g (i := 121) (by decide +kernel) (by decide +kernel))) (hst := (in_g (i := 122) (by decide +kernel) (by decide +kernel))) (hini := (in_g (i := 68) (by decide +kernel) (by decide +kernel))) (hcode := (in_g (i := 123) (by decide +kernel) (by decide +kernel))) (hdd := by decide +kernel) (hR := ⟨rfl, rfl⟩) rfl hl.1 (by decide) dX2_init_34 ⟨Nat.le_of_ble_eq_true rfl, Nat.le_of_ble_eq_true rfl⟩ hAO hK hP hD hS hA [1] [0, 2] rfl rfl rfl (by decide) (by decide) (by decide) (fun u34 H locs hP hD hS => ?_)
  have hP : va_P D am_cl [(h0, .inr (2, [.ref q0, .ref q1, .int 0])), (q0, .inl (cI, 64, .inl (fun _ => (-1)))), (q1, .inl (cI, 256, .inl (fun _ => (-1))))] H := hP
  have hD : va_D A [(h0, .inr (2, [.ref q0, .ref q1, .int 0])), (q0, .inl (cI, 64, .inl (fun _ => (-1)))), (q1, .inl (cI, 256, .inl (fun _ => (-1))))] := hD
  refine lv_aload_n hx hb dX2_init_37 rfl (lv_at hl 0 rfl) ?_
  refine lv_iconst (v := 0) hx hb dX2_init_38 (by decide) ?_
  refine va_put (D := D) (ref := RX2) (ci := 2) (v := .int 0) (ty := tyX2 2) (C := RX2) (T := TX2) (N := 3) hx hb hts inC_2 tyX2 tyX2_ok nmX2 hown hK hP hD hS 0 rfl rfl 2 (by decide) (hts _ (in_g (i := 126) (by decide +kernel) (by decide +kernel))) (fun _ h9 => h9) rfl (tyX2_ok 2 (by decide)) rfl rfl (Nat.le_of_ble_eq_true rfl) dX2_init_39 (fun H locs hP hD hS => ?_)
  have hP : va_P D am_cl [(h0, .inr (2, [.ref q0, .ref q1, .int 0])), (q0, .inl (cI, 64, .inl (fun _ => (-1)))), (q1, .inl (cI, 256, .inl (fun _ => (-1))))] H := hP
  have hD : va_D A [(h0, .inr (2, [.ref q0, .ref q1, .int 0])), (q0, .inl (cI, 64, .inl (fun _ => (-1)))), (q1, .inl (cI, 256, .inl (fun _ => (-1))))] := hD
  have hP9 := hP.sub (ws' := [(h0, .inr (2, [.ref q0, .ref q1, .int 0])), (q0, .inl (cI, 64, .inl (fun _ => (-1)))), (q1, .inl (cI, 256, .inl (fun _ => (-1))))]) [0, 1, 2] rfl
  have hD9 := hD.sub (ws' := [(h0, .inr (2, [.ref q0, .ref q1, .int 0])), (q0, .inl (cI, 64, .inl (fun _ => (-1)))), (q1, .inl (cI, 256, .inl (fun _ => (-1))))]) [0, 1, 2] (by decide) rfl
  refine W.widen (k := 2) (n := 320) (Nat.le_refl _) (Nat.le_refl _) ?_
  exact W.vret hx hb hr (fun t ht hW => ⟨⟨(fun k => ([q0, q1] : List Nat).getD k 0), rfl, trivial, ⟨by rw [ht]; exact hP9, va_K.moved hW.alike hK, hD9⟩⟩, hS.F ht⟩) hS.2.2 dX2_init_42

set_option maxHeartbeats 4000000 in
set_option maxRecDepth 100000 in
theorem k_X3_init (l : Launch) (D : va_G) (cI cL cS : ClassId) (sz h0 : Nat)  : cMet l D cI cL cS yX3_init cX3_init 1 1 4 40 23 sz [.ref h0] [(h0, .inr (3, [.null, .null, .null, .null, .int 0]))] (fun u => [(h0, .inr (3, [.ref (u 0), .ref (u 1), .ref (u 2), .ref (u 3), .int 0])), (u 0, .inl (cI, 25, .inl (fun _ => 8))), (u 1, .inl (cI, 5, .inl (fun _ => 8))), (u 2, .inl (cI, 5, .inl (fun _ => 0))), (u 3, .inl (cI, 5, .inl (fun _ => 0)))]) := by
  refine Met.ofW (cc := cX3_init) (maxL := 1) (ret := none) (by decide +kernel) rfl ?_
  intro p e s m args below meth c s₁ B hml hv
  obtain ⟨rfl, hsz, hP, hK, hD0, hAO⟩ := hv
  have hx := B.exec
  have hb := B.bytes
  have hr := B.returns
  have hts0 := atoms_spec (ws := Cond.code yX3_init cX3_init 1 none :: lw_g) B.pre
  have hts := fun w hw => hts0 w (List.mem_cons_of_mem _ hw)
  have hown : s.vm.findClass RX3 = some m.cls := findClass_of_methodNamed B.named
  have hlocks := B.notSynchronized
  have hin : meth.name = "<init>" := (name_of_methodNamed B.named B.method).1
  subst hsz
  have hD := hD0.self (sz := s.heap.size)
  generalize hAe : va_A [(h0, .inr (3, [.null, .null, .null, .null, .int 0]))] s.heap.size = A at hD ⊢
  have hA : ∀ q : Nat, s.heap.size ≤ q → A q := fun q h => by rw [← hAe]; exact Or.inr h
  have hS : va_S A s.heap s.heap [] := va_S.rf
  have hl := lv_entry ([.ref h0]) (n := 1) (Nat.le_of_ble_eq_true rfl)
  rw [lg_entry_eq]
  generalize (lg_sl ([.ref h0]) ++ List.replicate (1 - (lg_sl ([.ref h0])).length) Slot.unset).toArray = ls at hl ⊢
  have hl : lv_has ls 1 [(0, .ref h0)] := hl
  refine lv_aload_n hx hb dX3_init_0 rfl (lv_at hl 0 rfl) ?_
  refine W.objInit hx hb hown (hts (.methodLink RX3 3 Lib.objectInit) (in_g (i := 172) (by decide +kernel) (by decide +kernel))) (hts (.instanceMethod Lib.objectInit) (in_g (i := 88) (by decide +kernel) (by decide +kernel))) (hts _ (in_g (i := 89) (by decide +kernel) (by decide +kernel))) rfl (by rw [hml]; exact hl.1) rfl dX3_init_1 (Nat.le_of_ble_eq_true rfl) (Nat.le_of_ble_eq_true rfl) ?_
  refine W.eq (g2 := F0 m 4 ls []) rfl ?_
  refine lv_aload_n hx hb dX3_init_4 rfl (lv_at hl 0 rfl) ?_
  refine lv_bipush (v := 25) hx hb dX3_init_5 (by decide) ?_
  refine cn_newa (ty := .int) (a0 := (25, .inl (fun _ => 0))) (N' := 25) hx hb (hts _ (in_g (i := 114) (by decide +kernel) (by decide +kernel))) rfl hK 0 rfl hP hD hS hA (fun _ => rfl) (by decide) (by decide) (by decide) (Nat.le_of_ble_eq_true rfl) (Nat.le_of_ble_eq_true rfl) dX3_init_7 (fun q0 H hP hD hS => ?_)
  refine W.widen (k := 1) (n := 25) (by decide) (by decide) ?_
  have hP : va_P D am_cl [(h0, .inr (3, [.null, .null, .null, .null, .int 0])), (q0, .inl (cI, 25, .inl (fun _ => 0)))] H := hP
  have hD : va_D A [(h0, .inr (3, [.null, .null, .null, .null, .int 0])), (q0, .inl (cI, 25, .inl (fun _ => 0)))] := hD
  refine va_putF (D := D) (ref := RX3) (ci := 3) (v := .ref q0) (ty := tyX3 0) (C := RX3) (T := TX3) (N := 5) hx hb hts inC_3 tyX3 tyX3_ok nmX3 hown hK hP hD hS 0 rfl rfl 0 (by decide) (hts _ (in_g (i := 174) (by decide +kernel) (by decide +kernel))) (fun _ h9 => h9) rfl hin rfl (tyX3_ok 0 (by decide)) rfl rfl (Nat.le_of_ble_eq_true rfl) dX3_init_9 (fun H locs hP hD hS => ?_)
  have hP : va_P D am_cl [(h0, .inr (3, [.ref q0, .null, .null, .null, .int 0])), (q0, .inl (cI, 25, .inl (fun _ => 0)))] H := hP
  have hD : va_D A [(h0, .inr (3, [.ref q0, .null, .null, .null, .int 0])), (q0, .inl (cI, 25, .inl (fun _ => 0)))] := hD
  refine lv_aload_n hx hb dX3_init_12 rfl (lv_at hl 0 rfl) ?_
  refine lv_iconst (v := 5) hx hb dX3_init_13 (by decide) ?_
  refine cn_newa (ty := .int) (a0 := (5, .inl (fun _ => 0))) (N' := 5) hx hb (hts _ (in_g (i := 114) (by decide +kernel) (by decide +kernel))) rfl hK 0 rfl hP hD hS hA (fun _ => rfl) (by decide) (by decide) (by decide) (Nat.le_of_ble_eq_true rfl) (Nat.le_of_ble_eq_true rfl) dX3_init_14 (fun q1 H hP hD hS => ?_)
  refine W.widen (k := 2) (n := 30) (by decide) (by decide) ?_
  have hP : va_P D am_cl [(h0, .inr (3, [.ref q0, .null, .null, .null, .int 0])), (q0, .inl (cI, 25, .inl (fun _ => 0))), (q1, .inl (cI, 5, .inl (fun _ => 0)))] H := hP
  have hD : va_D A [(h0, .inr (3, [.ref q0, .null, .null, .null, .int 0])), (q0, .inl (cI, 25, .inl (fun _ => 0))), (q1, .inl (cI, 5, .inl (fun _ => 0)))] := hD
  refine va_putF (D := D) (ref := RX3) (ci := 3) (v := .ref q1) (ty := tyX3 1) (C := RX3) (T := TX3) (N := 5) hx hb hts inC_3 tyX3 tyX3_ok nmX3 hown hK hP hD hS 0 rfl rfl 1 (by decide) (hts _ (in_g (i := 175) (by decide +kernel) (by decide +kernel))) (fun _ h9 => h9) rfl hin rfl (tyX3_ok 1 (by decide)) rfl rfl (Nat.le_of_ble_eq_true rfl) dX3_init_16 (fun H locs hP hD hS => ?_)
  have hP : va_P D am_cl [(h0, .inr (3, [.ref q0, .ref q1, .null, .null, .int 0])), (q0, .inl (cI, 25, .inl (fun _ => 0))), (q1, .inl (cI, 5, .inl (fun _ => 0)))] H := hP
  have hD : va_D A [(h0, .inr (3, [.ref q0, .ref q1, .null, .null, .int 0])), (q0, .inl (cI, 25, .inl (fun _ => 0))), (q1, .inl (cI, 5, .inl (fun _ => 0)))] := hD
  refine lv_aload_n hx hb dX3_init_19 rfl (lv_at hl 0 rfl) ?_
  refine lv_iconst (v := 5) hx hb dX3_init_20 (by decide) ?_
  refine cn_newa (ty := .int) (a0 := (5, .inl (fun _ => 0))) (N' := 5) hx hb (hts _ (in_g (i := 114) (by decide +kernel) (by decide +kernel))) rfl hK 0 rfl hP hD hS hA (fun _ => rfl) (by decide) (by decide) (by decide) (Nat.le_of_ble_eq_true rfl) (Nat.le_of_ble_eq_true rfl) dX3_init_21 (fun q2 H hP hD hS => ?_)
  refine W.widen (k := 3) (n := 35) (by decide) (by decide) ?_
  have hP : va_P D am_cl [(h0, .inr (3, [.ref q0, .ref q1, .null, .null, .int 0])), (q0, .inl (cI, 25, .inl (fun _ => 0))), (q1, .inl (cI, 5, .inl (fun _ => 0))), (q2, .inl (cI, 5, .inl (fun _ => 0)))] H := hP
  have hD : va_D A [(h0, .inr (3, [.ref q0, .ref q1, .null, .null, .int 0])), (q0, .inl (cI, 25, .inl (fun _ => 0))), (q1, .inl (cI, 5, .inl (fun _ => 0))), (q2, .inl (cI, 5, .inl (fun _ => 0)))] := hD
  refine va_putF (D := D) (ref := RX3) (ci := 3) (v := .ref q2) (ty := tyX3 2) (C := RX3) (T := TX3) (N := 5) hx hb hts inC_3 tyX3 tyX3_ok nmX3 hown hK hP hD hS 0 rfl rfl 2 (by decide) (hts _ (in_g (i := 177) (by decide +kernel) (by decide +kernel))) (fun _ h9 => h9) rfl hin rfl (tyX3_ok 2 (by decide)) rfl rfl (Nat.le_of_ble_eq_true rfl) dX3_init_23 (fun H locs hP hD hS => ?_)
  have hP : va_P D am_cl [(h0, .inr (3, [.ref q0, .ref q1, .ref q2, .null, .int 0])), (q0, .inl (cI, 25, .inl (fun _ => 0))), (q1, .inl (cI, 5, .inl (fun _ => 0))), (q2, .inl (cI, 5, .inl (fun _ => 0)))] H := hP
  have hD : va_D A [(h0, .inr (3, [.ref q0, .ref q1, .ref q2, .null, .int 0])), (q0, .inl (cI, 25, .inl (fun _ => 0))), (q1, .inl (cI, 5, .inl (fun _ => 0))), (q2, .inl (cI, 5, .inl (fun _ => 0)))] := hD
  refine lv_aload_n hx hb dX3_init_26 rfl (lv_at hl 0 rfl) ?_
  refine lv_iconst (v := 5) hx hb dX3_init_27 (by decide) ?_
  refine cn_newa (ty := .int) (a0 := (5, .inl (fun _ => 0))) (N' := 5) hx hb (hts _ (in_g (i := 114) (by decide +kernel) (by decide +kernel))) rfl hK 0 rfl hP hD hS hA (fun _ => rfl) (by decide) (by decide) (by decide) (Nat.le_of_ble_eq_true rfl) (Nat.le_of_ble_eq_true rfl) dX3_init_28 (fun q3 H hP hD hS => ?_)
  refine W.widen (k := 4) (n := 40) (by decide) (by decide) ?_
  have hP : va_P D am_cl [(h0, .inr (3, [.ref q0, .ref q1, .ref q2, .null, .int 0])), (q0, .inl (cI, 25, .inl (fun _ => 0))), (q1, .inl (cI, 5, .inl (fun _ => 0))), (q2, .inl (cI, 5, .inl (fun _ => 0))), (q3, .inl (cI, 5, .inl (fun _ => 0)))] H := hP
  have hD : va_D A [(h0, .inr (3, [.ref q0, .ref q1, .ref q2, .null, .int 0])), (q0, .inl (cI, 25, .inl (fun _ => 0))), (q1, .inl (cI, 5, .inl (fun _ => 0))), (q2, .inl (cI, 5, .inl (fun _ => 0))), (q3, .inl (cI, 5, .inl (fun _ => 0)))] := hD
  refine va_putF (D := D) (ref := RX3) (ci := 3) (v := .ref q3) (ty := tyX3 3) (C := RX3) (T := TX3) (N := 5) hx hb hts inC_3 tyX3 tyX3_ok nmX3 hown hK hP hD hS 0 rfl rfl 3 (by decide) (hts _ (in_g (i := 179) (by decide +kernel) (by decide +kernel))) (fun _ h9 => h9) rfl hin rfl (tyX3_ok 3 (by decide)) rfl rfl (Nat.le_of_ble_eq_true rfl) dX3_init_30 (fun H locs hP hD hS => ?_)
  have hP : va_P D am_cl [(h0, .inr (3, [.ref q0, .ref q1, .ref q2, .ref q3, .int 0])), (q0, .inl (cI, 25, .inl (fun _ => 0))), (q1, .inl (cI, 5, .inl (fun _ => 0))), (q2, .inl (cI, 5, .inl (fun _ => 0))), (q3, .inl (cI, 5, .inl (fun _ => 0)))] H := hP
  have hD : va_D A [(h0, .inr (3, [.ref q0, .ref q1, .ref q2, .ref q3, .int 0])), (q0, .inl (cI, 25, .inl (fun _ => 0))), (q1, .inl (cI, 5, .inl (fun _ => 0))), (q2, .inl (cI, 5, .inl (fun _ => 0))), (q3, .inl (cI, 5, .inl (fun _ => 0)))] := hD
  refine lv_aload_n hx hb dX3_init_33 rfl (lv_at hl 0 rfl) ?_
  refine va_get (ref := RX3) (C := RX3) (T := TX3) (N := 5) hx hb hts inC_3 hown hK hP 0 rfl rfl 0 (by decide) (hts _ (in_g (i := 174) (by decide +kernel) (by decide +kernel))) (fun _ h9 => h9) (v := .ref q0) rfl dX3_init_34 ?_
  refine lv_bipush (v := 8) hx hb dX3_init_37 (by decide) ?_
  refine cn_callS (n := 2) (As := [.ref q0, .int 8]) (rest := []) (wc := [(q0, .inl (cI, 25, .inl (fun _ => 0)))]) (wr := [(h0, .inr (3, [.ref q0, .ref q1, .ref q2, .ref q3, .int 0])), (q1, .inl (cI, 5, .inl (fun _ => 0))), (q2, .inl (cI, 5, .inl (fun _ => 0))), (q3, .inl (cI, 5, .inl (fun _ => 0)))]) ⟨hx, hb, hml, hown, hts⟩ (k_fill l D cI cL cS _ q0 25 8 (fun _ => 0) (by decide)) (hli := (in_g (i := 173) (by decide +kernel) (by decide +kernel))) (hst := (in_g (i := 122) (by decide +kernel) (by decide +kernel))) (hini := (in_g (i := 68) (by decide +kernel) (by decide +kernel))) (hcode := (in_g (i := 123) (by decide +kernel) (by decide +kernel))) (hdd := by decide +kernel) (hR := ⟨rfl, rfl⟩) rfl hl.1 (by decide) dX3_init_39 ⟨Nat.le_of_ble_eq_true rfl, Nat.le_of_ble_eq_true rfl⟩ hAO hK hP hD hS hA [1] [0, 2, 3, 4] rfl rfl rfl (by decide) (by decide) (by decide) (fun u39 H locs hP hD hS => ?_)
  have hP : va_P D am_cl [(h0, .inr (3, [.ref q0, .ref q1, .ref q2, .ref q3, .int 0])), (q1, .inl (cI, 5, .inl (fun _ => 0))), (q2, .inl (cI, 5, .inl (fun _ => 0))), (q3, .inl (cI, 5, .inl (fun _ => 0))), (q0, .inl (cI, 25, .inl (fun _ => 8)))] H := hP
  have hD : va_D A [(h0, .inr (3, [.ref q0, .ref q1, .ref q2, .ref q3, .int 0])), (q1, .inl (cI, 5, .inl (fun _ => 0))), (q2, .inl (cI, 5, .inl (fun _ => 0))), (q3, .inl (cI, 5, .inl (fun _ => 0))), (q0, .inl (cI, 25, .inl (fun _ => 8)))] := hD
  refine lv_aload_n hx hb dX3_init_42 rfl (lv_at hl 0 rfl) ?_
  refine va_get (ref := RX3) (C := RX3) (T := TX3) (N := 5) hx hb hts inC_3 hown hK hP 0 rfl rfl 1 (by decide) (hts _ (in_g (i := 175) (by decide +kernel) (by decide +kernel))) (fun _ h9 => h9) (v := .ref q1) rfl dX3_init_43 ?_
  refine lv_bipush (v := 8) hx hb dX3_init_46 (by decide) ?_
  refine cn_callS (n := 2) (As := [.ref q1, .int 8]) (rest := []) (wc := [(q1, .inl (cI, 5, .inl (fun _ => 0)))]) (wr := [(h0, .inr (3, [.ref q0, .ref q1, .ref q2, .ref q3, .int 0])), (q2, .inl (cI, 5, .inl (fun _ => 0))), (q3, .inl (cI, 5, .inl (fun _ => 0))), (q0, .inl (cI, 25, .inl (fun _ => 8)))]) ⟨hx, hb, hml, hown, hts⟩ (k_fill l D cI cL cS _ q1 5 8 (fun _ => 0) (by decide)) (hli := (in_g (i := 173) (by decide +kernel) (by decide +kernel))) (hst := (in_g (i := 122) (by decide +kernel) (by decide +kernel))) (hini := (in_g (i := 68) (by decide +kernel) (by decide +kernel))) (hcode := (in_g (i := 123) (by decide +kernel) (by decide +kernel))) (hdd := by decide +kernel) (hR := ⟨rfl, rfl⟩) rfl hl.1 (by decide) dX3_init_48 ⟨Nat.le_of_ble_eq_true rfl, Nat.le_of_ble_eq_true rfl⟩ hAO hK hP hD hS hA [1] [0, 2, 3, 4] rfl rfl rfl (by decide) (by decide) (by decide) (fun u48 H locs hP hD hS => ?_)
  have hP : va_P D am_cl [(h0, .inr (3, [.ref q0, .ref q1, .ref q2, .ref q3, .int 0])), (q2, .inl (cI, 5, .inl (fun _ => 0))), (q3, .inl (cI, 5, .inl (fun _ => 0))), (q0, .inl (cI, 25, .inl (fun _ => 8))), (q1, .inl (cI, 5, .inl (fun _ => 8)))] H := hP
  have hD : va_D A [(h0, .inr (3, [.ref q0, .ref q1, .ref q2, .ref q3, .int 0])), (q2, .inl (cI, 5, .inl (fun _ => 0))), (q3, .inl (cI, 5, .inl (fun _ => 0))), (q0, .inl (cI, 25, .inl (fun _ => 8))), (q1, .inl (cI, 5, .inl (fun _ => 8)))] := hD
  refine lv_aload_n hx hb dX3_init_51 rfl (lv_at hl 0 rfl) ?_
  refine lv_iconst (v := 0) hx hb dX3_init_52 (by decide) ?_
  refine va_put (D := D) (ref := RX3) (ci := 3) (v := .int 0) (ty := tyX3 4) (C := RX3) (T := TX3) (N := 5) hx hb hts inC_3 tyX3 tyX3_ok nmX3 hown hK hP hD hS 0 rfl rfl 4 (by decide) (hts _ (in_g (i := 180) (by decide +kernel) (by decide +kernel))) (fun _ h9 => h9) rfl (tyX3_ok 4 (by decide)) rfl rfl (Nat.le_of_ble_eq_true rfl) dX3_init_53 (fun H locs hP hD hS => ?_)
  have hP : va_P D am_cl [(h0, .inr (3, [.ref q0, .ref q1, .ref q2, .ref q3, .int 0])), (q2, .inl (cI, 5, .inl (fun _ => 0))), (q3, .inl (cI, 5, .inl (fun _ => 0))), (q0, .inl (cI, 25, .inl (fun _ => 8))), (q1, .inl (cI, 5, .inl (fun _ => 8)))] H := hP
  have hD : va_D A [(h0, .inr (3, [.ref q0, .ref q1, .ref q2, .ref q3, .int 0])), (q2, .inl (cI, 5, .inl (fun _ => 0))), (q3, .inl (cI, 5, .inl (fun _ => 0))), (q0, .inl (cI, 25, .inl (fun _ => 8))), (q1, .inl (cI, 5, .inl (fun _ => 8)))] := hD
  have hP9 := hP.sub (ws' := [(h0, .inr (3, [.ref q0, .ref q1, .ref q2, .ref q3, .int 0])), (q0, .inl (cI, 25, .inl (fun _ => 8))), (q1, .inl (cI, 5, .inl (fun _ => 8))), (q2, .inl (cI, 5, .inl (fun _ => 0))), (q3, .inl (cI, 5, .inl (fun _ => 0)))]) [0, 3, 4, 1, 2] rfl
  have hD9 := hD.sub (ws' := [(h0, .inr (3, [.ref q0, .ref q1, .ref q2, .ref q3, .int 0])), (q0, .inl (cI, 25, .inl (fun _ => 8))), (q1, .inl (cI, 5, .inl (fun _ => 8))), (q2, .inl (cI, 5, .inl (fun _ => 0))), (q3, .inl (cI, 5, .inl (fun _ => 0)))]) [0, 3, 4, 1, 2] (by decide) rfl
  refine W.widen (k := 4) (n := 40) (Nat.le_refl _) (Nat.le_refl _) ?_
  exact W.vret hx hb hr (fun t ht hW => ⟨⟨(fun k => ([q0, q1, q2, q3] : List Nat).getD k 0), rfl, trivial, ⟨by rw [ht]; exact hP9, va_K.moved hW.alike hK, hD9⟩⟩, hS.F ht⟩) hS.2.2 dX3_init_56

set_option maxHeartbeats 4000000 in
set_option maxRecDepth 100000 in
theorem k_X8_init (l : Launch) (D : va_G) (cI cL cS : ClassId) (sz h0 : Nat)  : cMet l D cI cL cS yX8_init cX8_init 1 1 0 0 20 sz [.ref h0] [(h0, .inr (8, [.int 0, .int 0, .int 0, .int 0, .int 0]))] (fun u => [(h0, .inr (8, [.int 0, .int 0, .int (-1), .int (-1), .int 0]))]) := by
  refine Met.ofW (cc := cX8_init) (maxL := 1) (ret := none) (by decide +kernel) rfl ?_
  intro p e s m args below meth c s₁ B hml hv
  obtain ⟨rfl, hsz, hP, hK, hD0, hAO⟩ := hv
  have hx := B.exec
  have hb := B.bytes
  have hr := B.returns
  have hts0 := atoms_spec (ws := Cond.code yX8_init cX8_init 1 none :: lw_g) B.pre
  have hts := fun w hw => hts0 w (List.mem_cons_of_mem _ hw)
  have hown : s.vm.findClass RX8 = some m.cls := findClass_of_methodNamed B.named
  have hlocks := B.notSynchronized
  have hin : meth.name = "<init>" := (name_of_methodNamed B.named B.method).1
  subst hsz
  have hD := hD0.self (sz := s.heap.size)
  generalize hAe : va_A [(h0, .inr (8, [.int 0, .int 0, .int 0, .int 0, .int 0]))] s.heap.size = A at hD ⊢
  have hA : ∀ q : Nat, s.heap.size ≤ q → A q := fun q h => by rw [← hAe]; exact Or.inr h
  have hS : va_S A s.heap s.heap [] := va_S.rf
  have hl := lv_entry ([.ref h0]) (n := 1) (Nat.le_of_ble_eq_true rfl)
  rw [lg_entry_eq]
  generalize (lg_sl ([.ref h0]) ++ List.replicate (1 - (lg_sl ([.ref h0])).length) Slot.unset).toArray = ls at hl ⊢
  have hl : lv_has ls 1 [(0, .ref h0)] := hl
  refine lv_aload_n hx hb dX8_init_0 rfl (lv_at hl 0 rfl) ?_
  refine W.objInit hx hb hown (hts (.methodLink RX8 3 Lib.objectInit) (in_g (i := 223) (by decide +kernel) (by decide +kernel))) (hts (.instanceMethod Lib.objectInit) (in_g (i := 88) (by decide +kernel) (by decide +kernel))) (hts _ (in_g (i := 89) (by decide +kernel) (by decide +kernel))) rfl (by rw [hml]; exact hl.1) rfl dX8_init_1 (Nat.le_of_ble_eq_true rfl) (Nat.le_of_ble_eq_true rfl) ?_
  refine W.eq (g2 := F0 m 4 ls []) rfl ?_
  refine lv_aload_n hx hb dX8_init_4 rfl (lv_at hl 0 rfl) ?_
  refine lv_iconst (v := 0) hx hb dX8_init_5 (by decide) ?_
  refine va_put (D := D) (ref := RX8) (ci := 8) (v := .int 0) (ty := tyX8 0) (C := RX8) (T := TX8) (N := 5) hx hb hts inC_8 tyX8 tyX8_ok nmX8 hown hK hP hD hS 0 rfl rfl 0 (by decide) (hts _ (in_g (i := 228) (by decide +kernel) (by decide +kernel))) (fun _ h9 => h9) rfl (tyX8_ok 0 (by decide)) rfl rfl (Nat.le_of_ble_eq_true rfl) dX8_init_6 (fun H locs hP hD hS => ?_)
  have hP : va_P D am_cl [(h0, .inr (8, [.int 0, .int 0, .int 0, .int 0, .int 0]))] H := hP
  have hD : va_D A [(h0, .inr (8, [.int 0, .int 0, .int 0, .int 0, .int 0]))] := hD
  refine lv_aload_n hx hb dX8_init_9 rfl (lv_at hl 0 rfl) ?_
  refine cn_callV (n := 0) (As := []) (rest := []) (wc := [(h0, .inr (8, [.int 0, .int 0, .int 0, .int 0, .int 0]))]) (wr := []) ⟨hx, hb, hml, hown, hts⟩ (k_X8_startWhole l D cI cL cS _ h0 0 0 0 0 0) rfl 0 rfl (hli := (in_g (i := 224) (by decide +kernel) (by decide +kernel))) (hst := (in_g (i := 225) (by decide +kernel) (by decide +kernel))) (hse := (in_g (i := 226) (by decide +kernel) (by decide +kernel))) (hini := (in_g (i := 73) (by decide +kernel) (by decide +kernel))) (hcode := (in_g (i := 227) (by decide +kernel) (by decide +kernel))) (hdd := by decide +kernel) (hR := ⟨rfl, rfl⟩) rfl hl.1 (by decide) dX8_init_10 ⟨Nat.le_of_ble_eq_true rfl, Nat.le_of_ble_eq_true rfl⟩ hAO hK hP hD hS hA [0] [] rfl rfl rfl (by decide) (by decide) (by decide) (fun u10 H locs hP hD hS => ?_)
  have hP : va_P D am_cl [(h0, .inr (8, [.int 0, .int 0, .int (-1), .int (-1), .int 0]))] H := hP
  have hD : va_D A [(h0, .inr (8, [.int 0, .int 0, .int (-1), .int (-1), .int 0]))] := hD
  have hP9 := hP.sub (ws' := [(h0, .inr (8, [.int 0, .int 0, .int (-1), .int (-1), .int 0]))]) [0] rfl
  have hD9 := hD.sub (ws' := [(h0, .inr (8, [.int 0, .int 0, .int (-1), .int (-1), .int 0]))]) [0] (by decide) rfl
  refine W.widen (k := 0) (n := 0) (Nat.le_refl _) (Nat.le_refl _) ?_
  exact W.vret hx hb hr (fun t ht hW => ⟨⟨(fun k => ([] : List Nat).getD k 0), rfl, trivial, ⟨by rw [ht]; exact hP9, va_K.moved hW.alike hK, hD9⟩⟩, hS.F ht⟩) hS.2.2 dX8_init_13

