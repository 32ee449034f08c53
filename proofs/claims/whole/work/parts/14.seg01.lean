theorem eJ_fillI {q : am_Q} {M : am_M} {o : Nat} {N : Nat} (hN : am_al o 0 = some N) (hp : 0 < N) {v1 : Int} (h : ∀ x1 : Int, x1 = (N : Int) → (am_R KJ_fillI q 5 [aR o, aI v1, aI 0, aI x1] [] M)) : SJ_fillI [aR o, aI v1] M q := by
  refine am_S.intro rfl rfl ?_
  refine s_push 0 rfl ?_
  refine s_istore [aR o, aI v1, aI 0, aJ] 1 rfl rfl ?_
  refine s_aload 2 rfl rfl ?_
  refine s_alenI 3 rfl hN hp ?_
  refine s_nameI (fun x1 ex1 => ?_)
  refine s_istore [aR o, aI v1, aI 0, aI x1] 4 rfl rfl ?_
  exact (h x1 ex1)
theorem gJ_fillI_5 {q : am_Q} {M : am_M} {v1 v2 v3 : Int} {o N : Nat} (hN : am_al o 0 = some N) (hp : 0 < N) (h : (v3 ≤ v2 → (q aJ M)) ∧ (¬ (v3 ≤ v2) → ((0 ≤ v2 ∧ v2 < N) ∧ ((-2147483648 ≤ v2 + 1 ∧ v2 + 1 < 2147483648) ∧ (am_R KJ_fillI q 5 [aR o, aI v1, aI (v2 + 1), aI v3] [] (am_up M o (v2.toNat) v1)))))) : am_R KJ_fillI q 5 [aR o, aI v1, aI v2, aI v3] [] M := by
  refine s_iload 5 rfl rfl ?_
  refine s_iload 6 rfl rfl ?_
  refine s_ic 7 rfl (fun h1 => ?_) (fun h1 => ?_)
  · exact s_vret 14 rfl (h.1 h1)
  · refine s_aload 8 rfl rfl ?_
    refine s_iload 9 rfl rfl ?_
    refine s_iload 10 rfl rfl ?_
    refine s_iast 11 rfl hN (h.2 h1).1 ?_
    refine s_iinc [aR o, aI v1, aI (v2 + 1), aI v3] 12 rfl rfl (h.2 h1).2.1 rfl ?_
    refine s_goto 13 rfl ?_
    exact (h.2 h1).2.2
theorem eJ_fillL {q : am_Q} {M : am_M} {o : Nat} {N : Nat} (hN : am_al o 1 = some N) (hp : 0 < N) {v1 : Int} (h : ∀ x1 : Int, x1 = (N : Int) → (am_R KJ_fillL q 6 [aR o, aL v1, aJ, aI 0, aI x1] [] M)) : SJ_fillL [aR o, aL v1] M q := by
  refine am_S.intro rfl rfl ?_
  refine s_push 0 rfl ?_
  refine s_istore [aR o, aL v1, aJ, aI 0, aJ] 1 rfl rfl ?_
  refine s_aload 2 rfl rfl ?_
  refine s_alenL 3 rfl hN hp ?_
  refine s_nameI (fun x1 ex1 => ?_)
  refine s_istore [aR o, aL v1, aJ, aI 0, aI x1] 4 rfl rfl ?_
  exact (h x1 ex1)
theorem gJ_fillL_6 {q : am_Q} {M : am_M} {v1 v3 v4 : Int} {o N : Nat} (hN : am_al o 1 = some N) (hp : 0 < N) (h : (v4 ≤ v3 → (q aJ M)) ∧ (¬ (v4 ≤ v3) → ((0 ≤ v3 ∧ v3 < N) ∧ ((-2147483648 ≤ v3 + 1 ∧ v3 + 1 < 2147483648) ∧ (am_R KJ_fillL q 6 [aR o, aL v1, aJ, aI (v3 + 1), aI v4] [] (am_up M o (v3.toNat) v1)))))) : am_R KJ_fillL q 6 [aR o, aL v1, aJ, aI v3, aI v4] [] M := by
  refine s_iload 5 rfl rfl ?_
  refine s_iload 6 rfl rfl ?_
  refine s_ic 7 rfl (fun h1 => ?_) (fun h1 => ?_)
  · exact s_vret 14 rfl (h.1 h1)
  · refine s_aload 8 rfl rfl ?_
    refine s_iload 9 rfl rfl ?_
    refine s_lload 10 rfl rfl ?_
    refine s_last 11 rfl hN (h.2 h1).1 ?_
    refine s_iinc [aR o, aL v1, aJ, aI (v3 + 1), aI v4] 12 rfl rfl (h.2 h1).2.1 rfl ?_
    refine s_goto 13 rfl ?_
    exact (h.2 h1).2.2
theorem e0_measureFrom {q : am_Q} {M : am_M} {v1 : Int} (h : SJ_fillI [aR 11, aI (-1)] M (fun _ M1 => (¬ (v1 < 0) ∧ (¬ (64 ≤ v1) ∧ ¬ ((M1 8) (v1.toNat) = (-1))) → ((0 ≤ v1 ∧ v1 < 64) ∧ (am_R K0_measureFrom q 38 [aR 10, aJ, aI 1, aI 0, aJ, aJ, aJ] [] (am_up (am_up M1 11 (v1.toNat) 0) 12 0 v1)))) ∧ (¬ (¬ (v1 < 0) ∧ (¬ (64 ≤ v1) ∧ ¬ ((M1 8) (v1.toNat) = (-1)))) → (q aJ M1)))) : S0_measureFrom [aR 10, aI v1] M q := by
  refine am_S.intro rfl rfl ?_
  refine s_aload 0 rfl rfl ?_
  refine s_getR 11 1 rfl rfl ?_
  refine s_push 2 rfl ?_
  refine s_call 3 rfl rfl rfl rfl rfl (am_S.mono h ?_)
  intro r2 M1 g4
  show am_R K0_measureFrom q 8 [aR 10, aI v1, aJ, aJ, aJ, aJ, aJ] [] M1
  refine s_aload 4 rfl rfl ?_
  refine s_getR 7 5 rfl rfl ?_
  refine s_iload 6 rfl rfl ?_
  refine s_callv (o := 7) 7 rfl rfl rfl rfl rfl (ct_2_isPlace ?_)
  show am_R K0_measureFrom q 16 [aR 10, aI v1, aJ, aJ, aJ, aJ, aJ] [aI (if ¬ (v1 < 0) ∧ (¬ (64 ≤ v1) ∧ ¬ ((M1 8) (v1.toNat) = (-1))) then 1 else 0)] M1
  refine s_ifneB 8 rfl (fun h5 => ?_) (fun h5 => ?_)
  · refine s_aload 10 rfl rfl ?_
    refine s_getR 11 11 rfl rfl ?_
    refine s_iload 12 rfl rfl ?_
    refine s_push 13 rfl ?_
    refine s_iast 14 rfl rfl (g4.1 h5).1 ?_
    refine s_aload 15 rfl rfl ?_
    refine s_getR 12 16 rfl rfl ?_
    refine s_push 17 rfl ?_
    refine s_iload 18 rfl rfl ?_
    refine s_iast 19 rfl rfl (by decide) ?_
    refine s_push 20 rfl ?_
    refine s_istore [aR 10, aI v1, aI 1, aJ, aJ, aJ, aJ] 21 rfl rfl ?_
    refine s_push 22 rfl ?_
    refine s_istore [aR 10, aI v1, aI 1, aI 0, aJ, aJ, aJ] 23 rfl rfl ?_
    exact am_R.jk (ls := [aR 10, aJ, aI 1, aI 0, aJ, aJ, aJ]) ⟨Or.inr rfl, Or.inl rfl, Or.inr rfl, Or.inr rfl, Or.inr rfl, Or.inr rfl, Or.inr rfl, trivial⟩ (g4.1 h5).2
  · exact s_vret 9 rfl (g4.2 h5)
theorem g0_measureFrom_38 {q : am_Q} {M : am_M} {v2 v3 : Int} (h : (v2 ≤ v3 → (q aJ M)) ∧ (¬ (v2 ≤ v3) → ((64 ≤ v3 → (q aJ M)) ∧ (¬ (64 ≤ v3) → ((0 ≤ v3 ∧ v3 < 64) ∧ (∀ x3 : Int, x3 = M 12 (v3.toNat) → (am_R K0_measureFrom q 60 [aR 10, aJ, aI v2, aI v3, aI x3, aI 0, aJ] [] M))))))) : am_R K0_measureFrom q 38 [aR 10, aJ, aI v2, aI v3, aJ, aJ, aJ] [] M := by
  refine s_iload 24 rfl rfl ?_
  refine s_iload 25 rfl rfl ?_
  refine s_ic 26 rfl (fun h1 => ?_) (fun h1 => ?_)
  · exact s_vret 80 rfl (h.1 h1)
  · refine s_iload 27 rfl rfl ?_
    refine s_push 28 rfl ?_
    refine s_ic 29 rfl (fun h2 => ?_) (fun h2 => ?_)
    · exact s_vret 80 rfl ((h.2 h1).1 h2)
    · refine s_aload 30 rfl rfl ?_
      refine s_getR 12 31 rfl rfl ?_
      refine s_iload 32 rfl rfl ?_
      refine s_iald (v := M 12 (v3.toNat)) 33 rfl rfl ((h.2 h1).2 h2).1 rfl ?_
      refine s_nameI (fun x3 ex3 => ?_)
      refine s_istore [aR 10, aJ, aI v2, aI v3, aI x3, aJ, aJ] 34 rfl rfl ?_
      refine s_push 35 rfl ?_
      refine s_istore [aR 10, aJ, aI v2, aI v3, aI x3, aI 0, aJ] 36 rfl rfl ?_
      exact (((h.2 h1).2 h2).2 x3 ex3)
theorem g0_measureFrom_60 {q : am_Q} {M : am_M} {v2 v3 v4 v5 : Int} (h : (4 ≤ v5 → ((-2147483648 ≤ v3 + 1 ∧ v3 + 1 < 2147483648) ∧ (am_R K0_measureFrom q 38 [aR 10, aJ, aI v2, aI (v3 + 1), aJ, aJ, aJ] [] M))) ∧ (¬ (4 ≤ v5) → ((ob_2_beside (M 9) v4 v5) ∧ (∀ x2 : Int, x2 = f_2_beside (M 9) v4 v5 → ((x2 < 0 → ((-2147483648 ≤ v5 + 1 ∧ v5 + 1 < 2147483648) ∧ (am_R K0_measureFrom q 60 [aR 10, aJ, aI v2, aI v3, aI v4, aI (v5 + 1), aJ] [] M))) ∧ (¬ (x2 < 0) → ((64 ≤ x2 → ((-2147483648 ≤ v5 + 1 ∧ v5 + 1 < 2147483648) ∧ (am_R K0_measureFrom q 60 [aR 10, aJ, aI v2, aI v3, aI v4, aI (v5 + 1), aJ] [] M))) ∧ (¬ (64 ≤ x2) → ((0 ≤ x2 ∧ x2 < 64) ∧ ((M 11 (x2.toNat) = (-1) → ((64 ≤ v2 → ((-2147483648 ≤ v5 + 1 ∧ v5 + 1 < 2147483648) ∧ (am_R K0_measureFrom q 60 [aR 10, aJ, aI v2, aI v3, aI v4, aI (v5 + 1), aJ] [] M))) ∧ (¬ (64 ≤ v2) → ((0 ≤ v4 ∧ v4 < 64) ∧ ((-2147483648 ≤ (M 11 (v4.toNat)) + 1 ∧ (M 11 (v4.toNat)) + 1 < 2147483648) ∧ (∀ x7 : Int, x7 = (M 11 (v4.toNat)) + 1 → ((0 ≤ v2 ∧ v2 < 64) ∧ ((-2147483648 ≤ v2 + 1 ∧ v2 + 1 < 2147483648) ∧ ((-2147483648 ≤ v5 + 1 ∧ v5 + 1 < 2147483648) ∧ (am_R K0_measureFrom q 60 [aR 10, aJ, aI (v2 + 1), aI v3, aI v4, aI (v5 + 1), aJ] [] (am_up (am_up M 11 (x2.toNat) x7) 12 (v2.toNat) x2))))))))))) ∧ (¬ (M 11 (x2.toNat) = (-1)) → ((-2147483648 ≤ v5 + 1 ∧ v5 + 1 < 2147483648) ∧ (am_R K0_measureFrom q 60 [aR 10, aJ, aI v2, aI v3, aI v4, aI (v5 + 1), aJ] [] M))))))))))))) : am_R K0_measureFrom q 60 [aR 10, aJ, aI v2, aI v3, aI v4, aI v5, aJ] [] M := by
  refine s_iload 37 rfl rfl ?_
  refine s_push 38 rfl ?_
  refine s_ic 39 rfl (fun h1 => ?_) (fun h1 => ?_)
  · refine s_iinc [aR 10, aJ, aI v2, aI (v3 + 1), aI v4, aI v5, aJ] 78 rfl rfl (h.1 h1).1 rfl ?_
    refine s_goto 79 rfl ?_
    exact am_R.jk (ls := [aR 10, aJ, aI v2, aI (v3 + 1), aJ, aJ, aJ]) ⟨Or.inr rfl, Or.inr rfl, Or.inr rfl, Or.inr rfl, Or.inl rfl, Or.inl rfl, Or.inr rfl, trivial⟩ (h.1 h1).2
  · refine s_aload 40 rfl rfl ?_
    refine s_getR 7 41 rfl rfl ?_
    refine s_iload 42 rfl rfl ?_
    refine s_iload 43 rfl rfl ?_
    refine s_callv (o := 7) 44 rfl rfl rfl rfl rfl (ct_2_beside (h.2 h1).1 ?_)
    show am_R K0_measureFrom q 77 [aR 10, aJ, aI v2, aI v3, aI v4, aI v5, aJ] [aI (f_2_beside (M 9) v4 v5)] M
    refine s_nameI (fun x2 ex2 => ?_)
    refine s_istore [aR 10, aJ, aI v2, aI v3, aI v4, aI v5, aI x2] 45 rfl rfl ?_
    refine s_iload 46 rfl rfl ?_
    refine s_if 47 rfl (fun h3 => ?_) (fun h3 => ?_)
    · refine s_iinc [aR 10, aJ, aI v2, aI v3, aI v4, aI (v5 + 1), aI x2] 76 rfl rfl (((h.2 h1).2 x2 ex2).1 h3).1 rfl ?_
      refine s_goto 77 rfl ?_
      exact am_R.jk (ls := [aR 10, aJ, aI v2, aI v3, aI v4, aI (v5 + 1), aJ]) ⟨Or.inr rfl, Or.inr rfl, Or.inr rfl, Or.inr rfl, Or.inr rfl, Or.inr rfl, Or.inl rfl, trivial⟩ (((h.2 h1).2 x2 ex2).1 h3).2
    · refine s_iload 48 rfl rfl ?_
      refine s_push 49 rfl ?_
      refine s_ic 50 rfl (fun h4 => ?_) (fun h4 => ?_)
      · refine s_iinc [aR 10, aJ, aI v2, aI v3, aI v4, aI (v5 + 1), aI x2] 76 rfl rfl ((((h.2 h1).2 x2 ex2).2 h3).1 h4).1 rfl ?_
        refine s_goto 77 rfl ?_
        exact am_R.jk (ls := [aR 10, aJ, aI v2, aI v3, aI v4, aI (v5 + 1), aJ]) ⟨Or.inr rfl, Or.inr rfl, Or.inr rfl, Or.inr rfl, Or.inr rfl, Or.inr rfl, Or.inl rfl, trivial⟩ ((((h.2 h1).2 x2 ex2).2 h3).1 h4).2
      · refine s_aload 51 rfl rfl ?_
        refine s_getR 11 52 rfl rfl ?_
        refine s_iload 53 rfl rfl ?_
        refine s_iald (v := M 11 (x2.toNat)) 54 rfl rfl ((((h.2 h1).2 x2 ex2).2 h3).2 h4).1 rfl ?_
        refine s_push 55 rfl ?_
        refine s_icne 56 rfl (fun h5 => ?_) (fun h5 => ?_)
        · refine s_iinc [aR 10, aJ, aI v2, aI v3, aI v4, aI (v5 + 1), aI x2] 76 rfl rfl (((((h.2 h1).2 x2 ex2).2 h3).2 h4).2.2 h5).1 rfl ?_
          refine s_goto 77 rfl ?_
          exact am_R.jk (ls := [aR 10, aJ, aI v2, aI v3, aI v4, aI (v5 + 1), aJ]) ⟨Or.inr rfl, Or.inr rfl, Or.inr rfl, Or.inr rfl, Or.inr rfl, Or.inr rfl, Or.inl rfl, trivial⟩ (((((h.2 h1).2 x2 ex2).2 h3).2 h4).2.2 h5).2
        · refine s_iload 57 rfl rfl ?_
          refine s_push 58 rfl ?_
          refine s_ic 59 rfl (fun h6 => ?_) (fun h6 => ?_)
          · refine s_iinc [aR 10, aJ, aI v2, aI v3, aI v4, aI (v5 + 1), aI x2] 76 rfl rfl ((((((h.2 h1).2 x2 ex2).2 h3).2 h4).2.1 h5).1 h6).1 rfl ?_
            refine s_goto 77 rfl ?_
            exact am_R.jk (ls := [aR 10, aJ, aI v2, aI v3, aI v4, aI (v5 + 1), aJ]) ⟨Or.inr rfl, Or.inr rfl, Or.inr rfl, Or.inr rfl, Or.inr rfl, Or.inr rfl, Or.inl rfl, trivial⟩ ((((((h.2 h1).2 x2 ex2).2 h3).2 h4).2.1 h5).1 h6).2
          · refine s_aload 60 rfl rfl ?_
            refine s_getR 11 61 rfl rfl ?_
            refine s_iload 62 rfl rfl ?_
            refine s_aload 63 rfl rfl ?_
            refine s_getR 11 64 rfl rfl ?_
            refine s_iload 65 rfl rfl ?_
            refine s_iald (v := M 11 (v4.toNat)) 66 rfl rfl ((((((h.2 h1).2 x2 ex2).2 h3).2 h4).2.1 h5).2 h6).1 rfl ?_
            refine s_push 67 rfl ?_
            refine s_binX (v := (M 11 (v4.toNat)) + 1) 68 rfl ((((((h.2 h1).2 x2 ex2).2 h3).2 h4).2.1 h5).2 h6).2.1 rfl ?_
            refine s_nameI (fun x7 ex7 => ?_)
            refine s_iast 69 rfl rfl ((((h.2 h1).2 x2 ex2).2 h3).2 h4).1 ?_
            refine s_aload 70 rfl rfl ?_
            refine s_getR 12 71 rfl rfl ?_
            refine s_iload 72 rfl rfl ?_
            refine s_iload 73 rfl rfl ?_
            refine s_iast 74 rfl rfl (((((((h.2 h1).2 x2 ex2).2 h3).2 h4).2.1 h5).2 h6).2.2 x7 ex7).1 ?_
            refine s_iinc [aR 10, aJ, aI (v2 + 1), aI v3, aI v4, aI v5, aI x2] 75 rfl rfl (((((((h.2 h1).2 x2 ex2).2 h3).2 h4).2.1 h5).2 h6).2.2 x7 ex7).2.1 rfl ?_
            refine s_iinc [aR 10, aJ, aI (v2 + 1), aI v3, aI v4, aI (v5 + 1), aI x2] 76 rfl rfl (((((((h.2 h1).2 x2 ex2).2 h3).2 h4).2.1 h5).2 h6).2.2 x7 ex7).2.2.1 rfl ?_
            refine s_goto 77 rfl ?_
            exact am_R.jk (ls := [aR 10, aJ, aI (v2 + 1), aI v3, aI v4, aI (v5 + 1), aJ]) ⟨Or.inr rfl, Or.inr rfl, Or.inr rfl, Or.inr rfl, Or.inr rfl, Or.inr rfl, Or.inl rfl, trivial⟩ (((((((h.2 h1).2 x2 ex2).2 h3).2 h4).2.1 h5).2 h6).2.2 x7 ex7).2.2.2
theorem e10_retrace {q : am_Q} {M : am_M}  (h : ∀ x1 : Int, x1 = M 20 2 → (am_R K10_retrace q 17 [aR 20, aR 7, aI 0, aJ] [] (am_up (am_up M 20 4 0) 22 0 x1))) : S10_retrace [aR 20, aR 7] M q := by
  refine am_S.intro rfl rfl ?_
  refine s_aload 0 rfl rfl ?_
  refine s_push 1 rfl ?_
  refine s_putI 2 rfl rfl ?_
  refine s_aload 3 rfl rfl ?_
  refine s_getR 22 4 rfl rfl ?_
  refine s_push 5 rfl ?_
  refine s_aload 6 rfl rfl ?_
  refine s_getI (v := M 20 2) 7 rfl rfl rfl ?_
  refine s_nameI (fun x1 ex1 => ?_)
  refine s_iast 8 rfl rfl (by decide) ?_
  refine s_push 9 rfl ?_
  refine s_istore [aR 20, aR 7, aI 0, aJ] 10 rfl rfl ?_
  exact (h x1 ex1)
theorem g10_retrace_17 {q : am_Q} {M : am_M} {v2 : Int} (h : (M 20 3 ≤ v2 → (q aJ M)) ∧ (¬ (M 20 3 ≤ v2) → ((40 ≤ v2 → (q aJ M)) ∧ (¬ (40 ≤ v2) → ((0 ≤ v2 ∧ v2 < 41) ∧ ((0 ≤ v2 ∧ v2 < 40) ∧ ((ob_2_beside (M 9) (M 22 (v2.toNat)) (M 21 (v2.toNat))) ∧ (∀ x3 : Int, x3 = f_2_beside (M 9) (M 22 (v2.toNat)) (M 21 (v2.toNat)) → ((x3 = (-1) → (q aJ M)) ∧ (¬ (x3 = (-1)) → ((-2147483648 ≤ v2 + 1 ∧ v2 + 1 < 2147483648) ∧ ((0 ≤ v2 + 1 ∧ v2 + 1 < 41) ∧ (∀ x5 : Int, x5 = v2 + 1 → (am_R K10_retrace q 17 [aR 20, aR 7, aI (v2 + 1), aJ] [] (am_up (am_up M 22 ((v2 + 1).toNat) x3) 20 4 x5))))))))))))))) : am_R K10_retrace q 17 [aR 20, aR 7, aI v2, aJ] [] M := by
  refine s_iload 11 rfl rfl ?_
  refine s_aload 12 rfl rfl ?_
  refine s_getI (v := M 20 3) 13 rfl rfl rfl ?_
  refine s_ic 14 rfl (fun h1 => ?_) (fun h1 => ?_)
  · exact s_vret 47 rfl (h.1 h1)
  · refine s_iload 15 rfl rfl ?_
    refine s_push 16 rfl ?_
    refine s_ic 17 rfl (fun h2 => ?_) (fun h2 => ?_)
    · exact s_vret 47 rfl ((h.2 h1).1 h2)
    · refine s_aload 18 rfl rfl ?_
      refine s_aload 19 rfl rfl ?_
      refine s_getR 22 20 rfl rfl ?_
      refine s_iload 21 rfl rfl ?_
      refine s_iald (v := M 22 (v2.toNat)) 22 rfl rfl ((h.2 h1).2 h2).1 rfl ?_
      refine s_aload 23 rfl rfl ?_
      refine s_getR 21 24 rfl rfl ?_
      refine s_iload 25 rfl rfl ?_
      refine s_iald (v := M 21 (v2.toNat)) 26 rfl rfl ((h.2 h1).2 h2).2.1 rfl ?_
      refine s_callv (o := 7) 27 rfl rfl rfl rfl rfl (ct_2_beside ((h.2 h1).2 h2).2.2.1 ?_)
      show am_R K10_retrace q 47 [aR 20, aR 7, aI v2, aJ] [aI (f_2_beside (M 9) (M 22 (v2.toNat)) (M 21 (v2.toNat)))] M
      refine s_nameI (fun x3 ex3 => ?_)
      refine s_istore [aR 20, aR 7, aI v2, aI x3] 28 rfl rfl ?_
      refine s_iload 29 rfl rfl ?_
      refine s_push 30 rfl ?_
      refine s_icne 31 rfl (fun h4 => ?_) (fun h4 => ?_)
      · refine s_aload 33 rfl rfl ?_
        refine s_getR 22 34 rfl rfl ?_
        refine s_iload 35 rfl rfl ?_
        refine s_push 36 rfl ?_
        refine s_binX (v := v2 + 1) 37 rfl ((((h.2 h1).2 h2).2.2.2 x3 ex3).2 h4).1 rfl ?_
        refine s_iload 38 rfl rfl ?_
        refine s_iast 39 rfl rfl ((((h.2 h1).2 h2).2.2.2 x3 ex3).2 h4).2.1 ?_
        refine s_aload 40 rfl rfl ?_
        refine s_iload 41 rfl rfl ?_
        refine s_push 42 rfl ?_
        refine s_binX (v := v2 + 1) 43 rfl ((((h.2 h1).2 h2).2.2.2 x3 ex3).2 h4).1 rfl ?_
        refine s_nameI (fun x5 ex5 => ?_)
        refine s_putI 44 rfl rfl ?_
        refine s_iinc [aR 20, aR 7, aI (v2 + 1), aI x3] 45 rfl rfl ((((h.2 h1).2 h2).2.2.2 x3 ex3).2 h4).1 rfl ?_
        refine s_goto 46 rfl ?_
        exact am_R.jk (ls := [aR 20, aR 7, aI (v2 + 1), aJ]) ⟨Or.inr rfl, Or.inr rfl, Or.inr rfl, Or.inl rfl, trivial⟩ (((((h.2 h1).2 h2).2.2.2 x3 ex3).2 h4).2.2 x5 ex5)
      · exact s_vret 32 rfl ((((h.2 h1).2 h2).2.2.2 x3 ex3).1 h4)
theorem e10_takeText {q : am_Q} {M : am_M}  (h : am_R K10_takeText q 7 [aR 20, aR 5, aI 0, aJ] [] (am_up M 20 3 0)) : S10_takeText [aR 20, aR 5] M q := by
  refine am_S.intro rfl rfl ?_
  refine s_aload 0 rfl rfl ?_
  refine s_push 1 rfl ?_
  refine s_putI 2 rfl rfl ?_
  refine s_push 3 rfl ?_
  refine s_istore [aR 20, aR 5, aI 0, aJ] 4 rfl rfl ?_
  exact h
theorem g10_takeText_7 {q : am_Q} {M : am_M} {v2 : Int} (h : (M 5 2 ≤ v2 → (∀ x2 : Int, x2 = M 5 2 → (q (aI (-1)) (am_up M 20 3 x2)))) ∧ (¬ (M 5 2 ≤ v2) → (∀ x3 : Int, x3 = f_10_directionOf (f_9_byteAt (M 5) (M 6) v2) → ((x3 = (-1) → (q (aI v2) M)) ∧ (¬ (x3 = (-1)) → ((v2 < 40 → ((0 ≤ v2 ∧ v2 < 40) ∧ ((-2147483648 ≤ v2 + 1 ∧ v2 + 1 < 2147483648) ∧ (am_R K10_takeText q 7 [aR 20, aR 5, aI (v2 + 1), aJ] [] (am_up M 21 (v2.toNat) x3))))) ∧ (¬ (v2 < 40) → (q (aI v2) M)))))))) : am_R K10_takeText q 7 [aR 20, aR 5, aI v2, aJ] [] M := by
  refine s_iload 5 rfl rfl ?_
  refine s_aload 6 rfl rfl ?_
  refine s_getI (v := M 5 2) 7 rfl rfl rfl ?_
  refine s_ic 8 rfl (fun h1 => ?_) (fun h1 => ?_)
  · refine s_aload 29 rfl rfl ?_
    refine s_aload 30 rfl rfl ?_
    refine s_getI (v := M 5 2) 31 rfl rfl rfl ?_
    refine s_nameI (fun x2 ex2 => ?_)
    refine s_putI 32 rfl rfl ?_
    refine s_push 33 rfl ?_
    exact s_iret 34 rfl ((h.1 h1) x2 ex2)
  · refine s_aload 9 rfl rfl ?_
    refine s_iload 10 rfl rfl ?_
    refine s_callv (o := 5) 11 rfl rfl rfl rfl rfl (ct_9_byteAt (ho := (Or.inr (Or.inr rfl))) ?_)
    show am_R K10_takeText q 20 [aR 20, aR 5, aI v2, aJ] [aI (f_9_byteAt (M 5) (M 6) v2)] M
    refine s_call 12 rfl rfl rfl rfl rfl (ct_10_directionOf ?_)
    show am_R K10_takeText q 23 [aR 20, aR 5, aI v2, aJ] [aI (f_10_directionOf (f_9_byteAt (M 5) (M 6) v2))] M
    refine s_nameI (fun x3 ex3 => ?_)
    refine s_istore [aR 20, aR 5, aI v2, aI x3] 13 rfl rfl ?_
    refine s_iload 14 rfl rfl ?_
    refine s_push 15 rfl ?_
    refine s_ic 16 rfl (fun h4 => ?_) (fun h4 => ?_)
    · refine s_iload 20 rfl rfl ?_
      exact s_iret 21 rfl (((h.2 h1) x3 ex3).1 h4)
    · refine s_iload 17 rfl rfl ?_
      refine s_push 18 rfl ?_
      refine s_ic 19 rfl (fun h5 => ?_) (fun h5 => ?_)
      · refine s_aload 22 rfl rfl ?_
        refine s_getR 21 23 rfl rfl ?_
        refine s_iload 24 rfl rfl ?_
        refine s_iload 25 rfl rfl ?_
        refine s_iast 26 rfl rfl ((((h.2 h1) x3 ex3).2 h4).1 h5).1 ?_
        refine s_iinc [aR 20, aR 5, aI (v2 + 1), aI x3] 27 rfl rfl ((((h.2 h1) x3 ex3).2 h4).1 h5).2.1 rfl ?_
        refine s_goto 28 rfl ?_
        exact am_R.jk (ls := [aR 20, aR 5, aI (v2 + 1), aJ]) ⟨Or.inr rfl, Or.inr rfl, Or.inr rfl, Or.inl rfl, trivial⟩ ((((h.2 h1) x3 ex3).2 h4).1 h5).2.2
      · refine s_iload 20 rfl rfl ?_
        exact s_iret 21 rfl ((((h.2 h1) x3 ex3).2 h4).2 h5)
theorem e11_lowest {q : am_Q} {M : am_M} {v0 : Int} {v2 : Int} {v4 : Int} (h : am_R K11_lowest q 9 [aL v0, aJ, aL v2, aJ, aI v4, aL v0, aJ, aL v2, aJ, aI 0, aJ, aJ] [] M) : S11_lowest [aL v0, aL v2, aI v4] M q := by
  refine am_S.intro rfl rfl ?_
  refine s_lload 0 rfl rfl ?_
  refine s_lstore [aL v0, aJ, aL v2, aJ, aI v4, aL v0, aJ, aJ, aJ, aJ, aJ, aJ] 1 rfl rfl ?_
  refine s_lload 2 rfl rfl ?_
  refine s_lstore [aL v0, aJ, aL v2, aJ, aI v4, aL v0, aJ, aL v2, aJ, aJ, aJ, aJ] 3 rfl rfl ?_
  refine s_push 4 rfl ?_
  refine s_istore [aL v0, aJ, aL v2, aJ, aI v4, aL v0, aJ, aL v2, aJ, aI 0, aJ, aJ] 5 rfl rfl ?_
  exact h
theorem g11_lowest_9 {q : am_Q} {M : am_M} {v0 v2 v4 v5 v7 v9 : Int} (h : (128 ≤ v9 → (∀ x3 : Int, x3 = (if v4 = 0 then v0 else v2) → ((¬ (v5 = 0) → (0 ≤ x3 ∧ 0 < v5)) ∧ (∀ x5 : Int, x5 = (if v5 = 0 then x3 else x3 / v5) → (q (aL x5) M))))) ∧ (¬ (128 ≤ v9) → ((v7 = 0 → (∀ x8 : Int, x8 = (if v4 = 0 then v0 else v2) → ((¬ (v5 = 0) → (0 ≤ x8 ∧ 0 < v5)) ∧ (∀ x10 : Int, x10 = (if v5 = 0 then x8 else x8 / v5) → (q (aL x10) M))))) ∧ (¬ (v7 = 0) → ((0 ≤ v5 ∧ 0 < v7) ∧ (∀ x11 : Int, x11 = v5 % v7 → ((-2147483648 ≤ v9 + 1 ∧ v9 + 1 < 2147483648) ∧ (am_R K11_lowest q 9 [aL v0, aJ, aL v2, aJ, aI v4, aL v7, aJ, aL x11, aJ, aI (v9 + 1), aJ, aJ] [] M)))))))) : am_R K11_lowest q 9 [aL v0, aJ, aL v2, aJ, aI v4, aL v5, aJ, aL v7, aJ, aI v9, aJ, aJ] [] M := by
  refine s_iload 6 rfl rfl ?_
  refine s_push 7 rfl ?_
  refine s_ic 8 rfl (fun h1 => ?_) (fun h1 => ?_)
  · refine s_iload 23 rfl rfl ?_
    have j12 : ∀ (x3 : Int) (ex3 : x3 = (if v4 = 0 then v0 else v2)), am_R K11_lowest q 55 [aL v0, aJ, aL v2, aJ, aI v4, aL v5, aJ, aL v7, aJ, aI v9, aJ, aJ] [aL x3] M := by
      intro x3 ex3
      refine s_lstore [aL v0, aJ, aL v2, aJ, aI v4, aL v5, aJ, aL v7, aJ, aL x3, aJ, aJ] 28 rfl rfl ?_
      refine s_lload 29 rfl rfl ?_
      refine s_push 30 rfl ?_
      refine s_lcmp 31 rfl ?_
      have j13 : ∀ (x5 : Int) (ex5 : x5 = (if v5 = 0 then x3 else x3 / v5)), am_R K11_lowest q 74 [aL v0, aJ, aL v2, aJ, aI v4, aL v5, aJ, aL v7, aJ, aL x3, aJ, aJ] [aL x5] M := by
        intro x5 ex5
        exact s_lret 38 rfl (((h.1 h1) x3 ex3).2 x5 ex5)
      refine s_ifneX (d := v5 = 0) 32 rfl (cq_eq _ _) (fun h4 => ?_) (fun h4 => ?_)
      · refine s_lload 35 rfl rfl ?_
        refine s_lload 36 rfl rfl ?_
        refine s_ldiv 37 rfl (((h.1 h1) x3 ex3).1 h4) ?_
        exact j13 _ (by rw [if_neg h4])
      · refine s_lload 33 rfl rfl ?_
        refine s_goto 34 rfl ?_
        exact j13 _ (by rw [if_pos h4])
    refine s_ifne 24 rfl (fun h2 => ?_) (fun h2 => ?_)
    · refine s_lload 27 rfl rfl ?_
      exact j12 _ (by rw [if_neg h2])
    · refine s_lload 25 rfl rfl ?_
      refine s_goto 26 rfl ?_
      exact j12 _ (by rw [if_pos h2])
  · refine s_lload 9 rfl rfl ?_
    refine s_push 10 rfl ?_
    refine s_lcmp 11 rfl ?_
    refine s_ifX (d := v7 = 0) 12 rfl (cq_eq _ _) (fun h6 => ?_) (fun h6 => ?_)
    · refine s_iload 23 rfl rfl ?_
      have j14 : ∀ (x8 : Int) (ex8 : x8 = (if v4 = 0 then v0 else v2)), am_R K11_lowest q 55 [aL v0, aJ, aL v2, aJ, aI v4, aL v5, aJ, aL v7, aJ, aI v9, aJ, aJ] [aL x8] M := by
        intro x8 ex8
        refine s_lstore [aL v0, aJ, aL v2, aJ, aI v4, aL v5, aJ, aL v7, aJ, aL x8, aJ, aJ] 28 rfl rfl ?_
        refine s_lload 29 rfl rfl ?_
        refine s_push 30 rfl ?_
        refine s_lcmp 31 rfl ?_
        have j15 : ∀ (x10 : Int) (ex10 : x10 = (if v5 = 0 then x8 else x8 / v5)), am_R K11_lowest q 74 [aL v0, aJ, aL v2, aJ, aI v4, aL v5, aJ, aL v7, aJ, aL x8, aJ, aJ] [aL x10] M := by
          intro x10 ex10
          exact s_lret 38 rfl ((((h.2 h1).1 h6) x8 ex8).2 x10 ex10)
        refine s_ifneX (d := v5 = 0) 32 rfl (cq_eq _ _) (fun h9 => ?_) (fun h9 => ?_)
        · refine s_lload 35 rfl rfl ?_
          refine s_lload 36 rfl rfl ?_
          refine s_ldiv 37 rfl ((((h.2 h1).1 h6) x8 ex8).1 h9) ?_
          exact j15 _ (by rw [if_neg h9])
        · refine s_lload 33 rfl rfl ?_
          refine s_goto 34 rfl ?_
          exact j15 _ (by rw [if_pos h9])
      refine s_ifne 24 rfl (fun h7 => ?_) (fun h7 => ?_)
      · refine s_lload 27 rfl rfl ?_
        exact j14 _ (by rw [if_neg h7])
      · refine s_lload 25 rfl rfl ?_
        refine s_goto 26 rfl ?_
        exact j14 _ (by rw [if_pos h7])
    · refine s_lload 13 rfl rfl ?_
      refine s_lload 14 rfl rfl ?_
      refine s_lrem 15 rfl ((h.2 h1).2 h6).1 ?_
      refine s_nameL (fun x11 ex11 => ?_)
      refine s_lstore [aL v0, aJ, aL v2, aJ, aI v4, aL v5, aJ, aL v7, aJ, aI v9, aL x11, aJ] 16 rfl rfl ?_
      refine s_lload 17 rfl rfl ?_
      refine s_lstore [aL v0, aJ, aL v2, aJ, aI v4, aL v7, aJ, aL v7, aJ, aI v9, aL x11, aJ] 18 rfl rfl ?_
      refine s_lload 19 rfl rfl ?_
      refine s_lstore [aL v0, aJ, aL v2, aJ, aI v4, aL v7, aJ, aL x11, aJ, aI v9, aL x11, aJ] 20 rfl rfl ?_
      refine s_iinc [aL v0, aJ, aL v2, aJ, aI v4, aL v7, aJ, aL x11, aJ, aI (v9 + 1), aL x11, aJ] 21 rfl rfl (((h.2 h1).2 h6).2 x11 ex11).1 rfl ?_
      refine s_goto 22 rfl ?_
      exact am_R.jk (ls := [aL v0, aJ, aL v2, aJ, aI v4, aL v7, aJ, aL x11, aJ, aI (v9 + 1), aJ, aJ]) ⟨Or.inr rfl, Or.inr rfl, Or.inr rfl, Or.inr rfl, Or.inr rfl, Or.inr rfl, Or.inr rfl, Or.inr rfl, Or.inr rfl, Or.inr rfl, Or.inl rfl, Or.inr rfl, trivial⟩ (((h.2 h1).2 h6).2 x11 ex11).2
theorem e11_alike {q : am_Q} {M : am_M} {v1 : Int} (h : (v1 = 0 ∨ v1 = 1 → ((M 15 4 = 0 → (q (aL 1) M)) ∧ (¬ (M 15 4 = 0) → (am_R K11_alike q 36 [aR 0, aI v1, aL 1, aJ, aL 1, aJ, aL 1, aJ, aI 0, aJ] [] M)))) ∧ (¬ (v1 = 0 ∨ v1 = 1) → (q (aL (f_11_refused (-2))) M))) : S11_alike [aR 0, aI v1] M q := by
  refine am_S.intro rfl rfl ?_
  refine s_iload 0 rfl rfl ?_
  refine s_call 1 rfl rfl rfl rfl rfl (ct_11_isPart ?_)
  show am_R K11_alike q 4 [aR 0, aI v1, aJ, aJ, aJ, aJ, aJ, aJ, aJ, aJ] [aI (if v1 = 0 ∨ v1 = 1 then 1 else 0)] M
  refine s_ifneB 2 rfl (fun h1 => ?_) (fun h1 => ?_)
  · refine s_aload 6 rfl rfl ?_
    refine s_getR 15 7 rfl rfl ?_
    refine s_getI (v := M 15 4) 8 rfl rfl rfl ?_
    refine s_ifne 9 rfl (fun h2 => ?_) (fun h2 => ?_)
    · refine s_push 12 rfl ?_
      refine s_lstore [aR 0, aI v1, aL 1, aJ, aJ, aJ, aJ, aJ, aJ, aJ] 13 rfl rfl ?_
      refine s_push 14 rfl ?_
      refine s_lstore [aR 0, aI v1, aL 1, aJ, aL 1, aJ, aJ, aJ, aJ, aJ] 15 rfl rfl ?_
      refine s_push 16 rfl ?_
      refine s_lstore [aR 0, aI v1, aL 1, aJ, aL 1, aJ, aL 1, aJ, aJ, aJ] 17 rfl rfl ?_
      refine s_push 18 rfl ?_
      refine s_istore [aR 0, aI v1, aL 1, aJ, aL 1, aJ, aL 1, aJ, aI 0, aJ] 19 rfl rfl ?_
      exact ((h.1 h1).2 h2)
    · refine s_push 10 rfl ?_
      exact s_lret 11 rfl ((h.1 h1).1 h2)
  · refine s_push 3 rfl ?_
    refine s_call 4 rfl rfl rfl rfl rfl (ct_11_refused ?_)
    show am_R K11_alike q 12 [aR 0, aI v1, aJ, aJ, aJ, aJ, aJ, aJ, aJ, aJ] [aL (f_11_refused (-2))] M
    exact s_lret 5 rfl (h.2 h1)
theorem g11_alike_36 {q : am_Q} {M : am_M} {v1 v2 v4 v6 v8 : Int} (h : (M 15 4 ≤ v8 → ((-9223372036854775808 ≤ v2 + v4 ∧ v2 + v4 < 9223372036854775808) ∧ (S11_lowest [aL (v2 + v4), aL v6, aI v1] M (fun r3 M2 => ∃ x4 : Int, r3 = aL x4 ∧ (q (aL x4) M2))))) ∧ (¬ (M 15 4 ≤ v8) → (∀ x6 : Int, x6 = f_3_habitOf (M 17) (f_3_whoGoes (M 15) (M 19) v8) → ((-9223372036854775808 ≤ v2 * x6 ∧ v2 * x6 < 9223372036854775808) ∧ (∀ x7 : Int, x7 = v2 * x6 → ((-2147483648 ≤ 16 - x6 ∧ 16 - x6 < 2147483648) ∧ ((-9223372036854775808 ≤ v4 * (16 - x6) ∧ v4 * (16 - x6) < 9223372036854775808) ∧ (∀ x8 : Int, x8 = v4 * (16 - x6) → ((-9223372036854775808 ≤ v6 * 16 ∧ v6 * 16 < 9223372036854775808) ∧ (∀ x9 : Int, x9 = v6 * 16 → ((-2147483648 ≤ v8 + 1 ∧ v8 + 1 < 2147483648) ∧ (am_R K11_alike q 36 [aR 0, aI v1, aL x7, aJ, aL x8, aJ, aL x9, aJ, aI (v8 + 1), aJ] [] M)))))))))))) : am_R K11_alike q 36 [aR 0, aI v1, aL v2, aJ, aL v4, aJ, aL v6, aJ, aI v8, aJ] [] M := by
  refine s_iload 20 rfl rfl ?_
  refine s_aload 21 rfl rfl ?_
  refine s_getR 15 22 rfl rfl ?_
  refine s_getI (v := M 15 4) 23 rfl rfl rfl ?_
  refine s_ic 24 rfl (fun h1 => ?_) (fun h1 => ?_)
  · refine s_lload 51 rfl rfl ?_
    refine s_lload 52 rfl rfl ?_
    refine s_binLX (v := v2 + v4) 53 rfl (h.1 h1).1 rfl ?_
    refine s_lload 54 rfl rfl ?_
    refine s_iload 55 rfl rfl ?_
    refine s_call 56 rfl rfl rfl rfl rfl (am_S.mono (h.1 h1).2 ?_)
    rintro r3 M2 ⟨x4, rfl, g5⟩
    show am_R K11_alike q 107 [aR 0, aI v1, aL v2, aJ, aL v4, aJ, aL v6, aJ, aI v8, aJ] [aL x4] M2
    exact s_lret 57 rfl g5
  · refine s_aload 25 rfl rfl ?_
    refine s_getR 15 26 rfl rfl ?_
    refine s_aload 27 rfl rfl ?_
    refine s_getR 15 28 rfl rfl ?_
    refine s_iload 29 rfl rfl ?_
    refine s_callv (o := 15) 30 rfl rfl rfl rfl rfl (ct_3_whoGoes ?_)
    show am_R K11_alike q 61 [aR 0, aI v1, aL v2, aJ, aL v4, aJ, aL v6, aJ, aI v8, aJ] [aI (f_3_whoGoes (M 15) (M 19) v8), aR 15] M
    refine s_callv (o := 15) 31 rfl rfl rfl rfl rfl (ct_3_habitOf ?_)
    show am_R K11_alike q 64 [aR 0, aI v1, aL v2, aJ, aL v4, aJ, aL v6, aJ, aI v8, aJ] [aI (f_3_habitOf (M 17) (f_3_whoGoes (M 15) (M 19) v8))] M
    refine s_nameI (fun x6 ex6 => ?_)
    refine s_istore [aR 0, aI v1, aL v2, aJ, aL v4, aJ, aL v6, aJ, aI v8, aI x6] 32 rfl rfl ?_
    refine s_lload 33 rfl rfl ?_
    refine s_iload 34 rfl rfl ?_
    refine s_i2l 35 rfl ?_
    refine s_binLX (v := v2 * x6) 36 rfl ((h.2 h1) x6 ex6).1 rfl ?_
    refine s_nameL (fun x7 ex7 => ?_)
    refine s_lstore [aR 0, aI v1, aL x7, aJ, aL v4, aJ, aL v6, aJ, aI v8, aI x6] 37 rfl rfl ?_
    refine s_lload 38 rfl rfl ?_
    refine s_push 39 rfl ?_
    refine s_iload 40 rfl rfl ?_
    refine s_binX (v := 16 - x6) 41 rfl (((h.2 h1) x6 ex6).2 x7 ex7).1 rfl ?_
    refine s_i2l 42 rfl ?_
    refine s_binLX (v := v4 * (16 - x6)) 43 rfl (((h.2 h1) x6 ex6).2 x7 ex7).2.1 rfl ?_
    refine s_nameL (fun x8 ex8 => ?_)
    refine s_lstore [aR 0, aI v1, aL x7, aJ, aL x8, aJ, aL v6, aJ, aI v8, aI x6] 44 rfl rfl ?_
    refine s_lload 45 rfl rfl ?_
    refine s_push 46 rfl ?_
    refine s_binLX (v := v6 * 16) 47 rfl ((((h.2 h1) x6 ex6).2 x7 ex7).2.2 x8 ex8).1 rfl ?_
    refine s_nameL (fun x9 ex9 => ?_)
    refine s_lstore [aR 0, aI v1, aL x7, aJ, aL x8, aJ, aL x9, aJ, aI v8, aI x6] 48 rfl rfl ?_
    refine s_iinc [aR 0, aI v1, aL x7, aJ, aL x8, aJ, aL x9, aJ, aI (v8 + 1), aI x6] 49 rfl rfl (((((h.2 h1) x6 ex6).2 x7 ex7).2.2 x8 ex8).2 x9 ex9).1 rfl ?_
    refine s_goto 50 rfl ?_
    exact am_R.jk (ls := [aR 0, aI v1, aL x7, aJ, aL x8, aJ, aL x9, aJ, aI (v8 + 1), aJ]) ⟨Or.inr rfl, Or.inr rfl, Or.inr rfl, Or.inr rfl, Or.inr rfl, Or.inr rfl, Or.inr rfl, Or.inr rfl, Or.inr rfl, Or.inl rfl, trivial⟩ (((((h.2 h1) x6 ex6).2 x7 ex7).2.2 x8 ex8).2 x9 ex9).2
theorem e6_putLeg {q : am_Q} {M : am_M} {v1 : Int} {v2 : Int} {v3 : Int} (h : (v1 < 0 → (q aJ M)) ∧ (¬ (v1 < 0) → ((7 ≤ v1 → (q aJ M)) ∧ (¬ (7 ≤ v1) → ((v2 < 0 → (q aJ M)) ∧ (¬ (v2 < 0) → ((5 ≤ v2 → (q aJ M)) ∧ (¬ (5 ≤ v2) → ((-2147483648 ≤ v1 * 5 ∧ v1 * 5 < 2147483648) ∧ ((-2147483648 ≤ (v1 * 5) + v2 ∧ (v1 * 5) + v2 < 2147483648) ∧ ((0 ≤ (v1 * 5) + v2 ∧ (v1 * 5) + v2 < 35) ∧ (q aJ (am_up M 31 (((v1 * 5) + v2).toNat) v3))))))))))))) : S6_putLeg [aR 30, aI v1, aI v2, aI v3] M q := by
  refine am_S.intro rfl rfl ?_
  refine s_iload 0 rfl rfl ?_
  refine s_if 1 rfl (fun h1 => ?_) (fun h1 => ?_)
  · exact s_vret 19 rfl (h.1 h1)
  · refine s_iload 2 rfl rfl ?_
    refine s_push 3 rfl ?_
    refine s_ic 4 rfl (fun h2 => ?_) (fun h2 => ?_)
    · exact s_vret 19 rfl ((h.2 h1).1 h2)
    · refine s_iload 5 rfl rfl ?_
      refine s_if 6 rfl (fun h3 => ?_) (fun h3 => ?_)
      · exact s_vret 19 rfl (((h.2 h1).2 h2).1 h3)
      · refine s_iload 7 rfl rfl ?_
        refine s_push 8 rfl ?_
        refine s_ic 9 rfl (fun h4 => ?_) (fun h4 => ?_)
        · exact s_vret 19 rfl ((((h.2 h1).2 h2).2 h3).1 h4)
        · refine s_aload 10 rfl rfl ?_
          refine s_getR 31 11 rfl rfl ?_
          refine s_iload 12 rfl rfl ?_
          refine s_push 13 rfl ?_
          refine s_binX (v := v1 * 5) 14 rfl ((((h.2 h1).2 h2).2 h3).2 h4).1 rfl ?_
          refine s_iload 15 rfl rfl ?_
          refine s_binX (v := (v1 * 5) + v2) 16 rfl ((((h.2 h1).2 h2).2 h3).2 h4).2.1 rfl ?_
          refine s_iload 17 rfl rfl ?_
          refine s_iast 18 rfl rfl ((((h.2 h1).2 h2).2 h3).2 h4).2.2.1 ?_
          exact s_vret 19 rfl ((((h.2 h1).2 h2).2 h3).2 h4).2.2.2
theorem e6_layOrders {q : am_Q} {M : am_M}  (h : SJ_fillI [aR 32, aI 1] M (fun _ M1 => am_R K6_layOrders q 10 [aR 30, aR 15, aI 0, aJ] [] M1)) : S6_layOrders [aR 30, aR 15] M q := by
  refine am_S.intro rfl rfl ?_
  refine s_aload 0 rfl rfl ?_
  refine s_getR 32 1 rfl rfl ?_
  refine s_push 2 rfl ?_
  refine s_call 3 rfl rfl rfl rfl rfl (am_S.mono h ?_)
  intro r2 M1 g4
  show am_R K6_layOrders q 8 [aR 30, aR 15, aJ, aJ] [] M1
  refine s_push 4 rfl ?_
  refine s_istore [aR 30, aR 15, aI 0, aJ] 5 rfl rfl ?_
  exact g4
theorem g6_layOrders_10 {q : am_Q} {M : am_M} {v2 : Int} (h : (5 ≤ v2 → (q aJ M)) ∧ (¬ (5 ≤ v2) → (am_R K6_layOrders q 17 [aR 30, aR 15, aI v2, aI 0] [] M))) : am_R K6_layOrders q 10 [aR 30, aR 15, aI v2, aJ] [] M := by
  refine s_iload 6 rfl rfl ?_
  refine s_push 7 rfl ?_
  refine s_ic 8 rfl (fun h1 => ?_) (fun h1 => ?_)
  · exact s_vret 38 rfl (h.1 h1)
  · refine s_push 9 rfl ?_
    refine s_istore [aR 30, aR 15, aI v2, aI 0] 10 rfl rfl ?_
    exact (h.2 h1)
theorem g6_layOrders_17 {q : am_Q} {M : am_M} {v2 v3 : Int} (h : (5 ≤ v3 → (S6_putLeg [aR 30, aI 5, aI v2, aI 0] M (fun _ M2 => S6_putLeg [aR 30, aI 6, aI v2, aI 0] M2 (fun _ M6 => (-2147483648 ≤ v2 + 1 ∧ v2 + 1 < 2147483648) ∧ (am_R K6_layOrders q 10 [aR 30, aR 15, aI (v2 + 1), aJ] [] M6))))) ∧ (¬ (5 ≤ v3) → ((-2147483648 ≤ 16 - (f_3_gripOf (M 16) v3 v2) ∧ 16 - (f_3_gripOf (M 16) v3 v2) < 2147483648) ∧ (S6_putLeg [aR 30, aI v3, aI v2, aI (16 - (f_3_gripOf (M 16) v3 v2))] M (fun _ M10 => (-2147483648 ≤ v3 + 1 ∧ v3 + 1 < 2147483648) ∧ (am_R K6_layOrders q 17 [aR 30, aR 15, aI v2, aI (v3 + 1)] [] M10)))))) : am_R K6_layOrders q 17 [aR 30, aR 15, aI v2, aI v3] [] M := by
  refine s_iload 11 rfl rfl ?_
  refine s_push 12 rfl ?_
  refine s_ic 13 rfl (fun h1 => ?_) (fun h1 => ?_)
  · refine s_aload 26 rfl rfl ?_
    refine s_push 27 rfl ?_
    refine s_iload 28 rfl rfl ?_
    refine s_push 29 rfl ?_
    refine s_callv (o := 30) 30 rfl rfl rfl rfl rfl (am_S.mono (h.1 h1) ?_)
    intro r3 M2 g5
    show am_R K6_layOrders q 50 [aR 30, aR 15, aI v2, aI v3] [] M2
    refine s_aload 31 rfl rfl ?_
    refine s_push 32 rfl ?_
    refine s_iload 33 rfl rfl ?_
    refine s_push 34 rfl ?_
    refine s_callv (o := 30) 35 rfl rfl rfl rfl rfl (am_S.mono g5 ?_)
    intro r7 M6 g9
    show am_R K6_layOrders q 58 [aR 30, aR 15, aI v2, aI v3] [] M6
    refine s_iinc [aR 30, aR 15, aI (v2 + 1), aI v3] 36 rfl rfl g9.1 rfl ?_
    refine s_goto 37 rfl ?_
    exact am_R.jk (ls := [aR 30, aR 15, aI (v2 + 1), aJ]) ⟨Or.inr rfl, Or.inr rfl, Or.inr rfl, Or.inl rfl, trivial⟩ g9.2
  · refine s_aload 14 rfl rfl ?_
    refine s_iload 15 rfl rfl ?_
    refine s_iload 16 rfl rfl ?_
    refine s_push 17 rfl ?_
    refine s_aload 18 rfl rfl ?_
    refine s_iload 19 rfl rfl ?_
    refine s_iload 20 rfl rfl ?_
    refine s_callv (o := 15) 21 rfl rfl rfl rfl rfl (ct_3_gripOf ?_)
    show am_R K6_layOrders q 33 [aR 30, aR 15, aI v2, aI v3] [aI (f_3_gripOf (M 16) v3 v2), aI 16, aI v2, aI v3, aR 30] M
    refine s_binX (v := 16 - (f_3_gripOf (M 16) v3 v2)) 22 rfl (h.2 h1).1 rfl ?_
    refine s_callv (o := 30) 23 rfl rfl rfl rfl rfl (am_S.mono (h.2 h1).2 ?_)
    intro r11 M10 g13
    show am_R K6_layOrders q 37 [aR 30, aR 15, aI v2, aI v3] [] M10
    refine s_iinc [aR 30, aR 15, aI v2, aI (v3 + 1)] 24 rfl rfl g13.1 rfl ?_
    refine s_goto 25 rfl ?_
    exact g13.2
theorem e6_cheapestNext {q : am_Q} {M : am_M} {v1 : Int} {v2 : Int} (h : am_R K6_cheapestNext q 8 [aR 30, aI v1, aI v2, aI (-1), aI 0, aI 0, aJ] [] M) : S6_cheapestNext [aR 30, aI v1, aI v2] M q := by
  refine am_S.intro rfl rfl ?_
  refine s_push 0 rfl ?_
  refine s_istore [aR 30, aI v1, aI v2, aI (-1), aJ, aJ, aJ] 1 rfl rfl ?_
  refine s_push 2 rfl ?_
  refine s_istore [aR 30, aI v1, aI v2, aI (-1), aI 0, aJ, aJ] 3 rfl rfl ?_
  refine s_push 4 rfl ?_
  refine s_istore [aR 30, aI v1, aI v2, aI (-1), aI 0, aI 0, aJ] 5 rfl rfl ?_
  exact h
theorem g6_cheapestNext_8 {q : am_Q} {M : am_M} {v1 v2 v3 v4 v5 : Int} (h : (5 ≤ v5 → (q (aI v3) M)) ∧ (¬ (5 ≤ v5) → ((0 ≤ v5 ∧ v5 < 32) ∧ ((am_and (am_shr v2 v5) 1 = 0 → ((-2147483648 ≤ v5 + 1 ∧ v5 + 1 < 2147483648) ∧ (am_R K6_cheapestNext q 8 [aR 30, aI v1, aI v2, aI v3, aI v4, aI (v5 + 1), aJ] [] M))) ∧ (¬ (am_and (am_shr v2 v5) 1 = 0) → ((ob_6_costBy (M 31) (M 32) (M 33) v1 v2 v5) ∧ (∀ x3 : Int, x3 = f_6_costBy (M 31) (M 32) (M 33) v1 v2 v5 → (∀ x6 : Int, x6 = (if v3 = (-1) then v5 else if v4 ≤ x3 then v3 else v5) → (∀ x7 : Int, x7 = (if v3 = (-1) then x3 else if v4 ≤ x3 then v4 else x3) → ((-2147483648 ≤ v5 + 1 ∧ v5 + 1 < 2147483648) ∧ (am_R K6_cheapestNext q 8 [aR 30, aI v1, aI v2, aI x6, aI x7, aI (v5 + 1), aJ] [] M))))))))))) : am_R K6_cheapestNext q 8 [aR 30, aI v1, aI v2, aI v3, aI v4, aI v5, aJ] [] M := by
  refine s_iload 6 rfl rfl ?_
  refine s_push 7 rfl ?_
  refine s_ic 8 rfl (fun h1 => ?_) (fun h1 => ?_)
  · refine s_iload 33 rfl rfl ?_
    exact s_iret 34 rfl (h.1 h1)
  · refine s_iload 9 rfl rfl ?_
    refine s_iload 10 rfl rfl ?_
    refine s_sh 11 rfl (h.2 h1).1 ?_
    refine s_push 12 rfl ?_
    refine s_bin 13 rfl ?_
    refine s_if 14 rfl (fun h2 => ?_) (fun h2 => ?_)
    · refine s_iinc [aR 30, aI v1, aI v2, aI v3, aI v4, aI (v5 + 1), aJ] 31 rfl rfl ((h.2 h1).2.1 h2).1 rfl ?_
      refine s_goto 32 rfl ?_
      exact ((h.2 h1).2.1 h2).2
    · refine s_aload 15 rfl rfl ?_
      refine s_iload 16 rfl rfl ?_
      refine s_iload 17 rfl rfl ?_
      refine s_iload 18 rfl rfl ?_
      refine s_callv (o := 30) 19 rfl rfl rfl rfl rfl (ct_6_costBy ((h.2 h1).2.2 h2).1 ?_)
      show am_R K6_cheapestNext q 31 [aR 30, aI v1, aI v2, aI v3, aI v4, aI v5, aJ] [aI (f_6_costBy (M 31) (M 32) (M 33) v1 v2 v5)] M
      refine s_nameI (fun x3 ex3 => ?_)
      refine s_istore [aR 30, aI v1, aI v2, aI v3, aI v4, aI v5, aI x3] 20 rfl rfl ?_
      refine s_iload 21 rfl rfl ?_
      refine s_push 22 rfl ?_
      have j8 : ∀ (x6 : Int) (ex6 : x6 = (if v3 = (-1) then v5 else if v4 ≤ x3 then v3 else v5)) (x7 : Int) (ex7 : x7 = (if v3 = (-1) then x3 else if v4 ≤ x3 then v4 else x3)), am_R K6_cheapestNext q 52 [aR 30, aI v1, aI v2, aI x6, aI x7, aI v5, aI x3] [] M := by
        intro x6 ex6 x7 ex7
        refine s_iinc [aR 30, aI v1, aI v2, aI x6, aI x7, aI (v5 + 1), aI x3] 31 rfl rfl ((((h.2 h1).2.2 h2).2 x3 ex3) x6 ex6 x7 ex7).1 rfl ?_
        refine s_goto 32 rfl ?_
        exact am_R.jk (ls := [aR 30, aI v1, aI v2, aI x6, aI x7, aI (v5 + 1), aJ]) ⟨Or.inr rfl, Or.inr rfl, Or.inr rfl, Or.inr rfl, Or.inr rfl, Or.inr rfl, Or.inl rfl, trivial⟩ ((((h.2 h1).2.2 h2).2 x3 ex3) x6 ex6 x7 ex7).2
      refine s_ic 23 rfl (fun h4 => ?_) (fun h4 => ?_)
      · refine s_iload 27 rfl rfl ?_
        refine s_istore [aR 30, aI v1, aI v2, aI v5, aI v4, aI v5, aI x3] 28 rfl rfl ?_
        refine s_iload 29 rfl rfl ?_
        refine s_istore [aR 30, aI v1, aI v2, aI v5, aI x3, aI v5, aI x3] 30 rfl rfl ?_
        exact j8 _ (by rw [if_pos h4]) _ (by rw [if_pos h4])
      · refine s_iload 24 rfl rfl ?_
        refine s_iload 25 rfl rfl ?_
        refine s_ic 26 rfl (fun h5 => ?_) (fun h5 => ?_)
        · exact j8 _ (by rw [if_neg h4, if_pos h5]) _ (by rw [if_neg h4, if_pos h5])
        · refine s_iload 27 rfl rfl ?_
          refine s_istore [aR 30, aI v1, aI v2, aI v5, aI v4, aI v5, aI x3] 28 rfl rfl ?_
          refine s_iload 29 rfl rfl ?_
          refine s_istore [aR 30, aI v1, aI v2, aI v5, aI x3, aI v5, aI x3] 30 rfl rfl ?_
          exact j8 _ (by rw [if_neg h4, if_neg h5]) _ (by rw [if_neg h4, if_neg h5])
theorem e6_solve {q : am_Q} {M : am_M} {v1 : Int} (h : SJ_fillI [aR 33, aI 0] M (fun _ M1 => am_R K6_solve q 10 [aR 30, aI v1, aI 1, aJ] [] M1)) : S6_solve [aR 30, aI v1] M q := by
  refine am_S.intro rfl rfl ?_
  refine s_aload 0 rfl rfl ?_
  refine s_getR 33 1 rfl rfl ?_
  refine s_push 2 rfl ?_
  refine s_call 3 rfl rfl rfl rfl rfl (am_S.mono h ?_)
  intro r2 M1 g4
  show am_R K6_solve q 8 [aR 30, aI v1, aJ, aJ] [] M1
  refine s_push 4 rfl ?_
  refine s_istore [aR 30, aI v1, aI 1, aJ] 5 rfl rfl ?_
  exact g4
theorem g6_solve_10 {q : am_Q} {M : am_M} {v1 v2 : Int} (h : (32 ≤ v2 → (q aJ M)) ∧ (¬ (32 ≤ v2) → ((am_and v2 (am_xor v1 (-1)) = 0 → (am_R K6_solve q 26 [aR 30, aI v1, aI v2, aI 0] [] M)) ∧ (¬ (am_and v2 (am_xor v1 (-1)) = 0) → ((-2147483648 ≤ v2 + 1 ∧ v2 + 1 < 2147483648) ∧ (am_R K6_solve q 10 [aR 30, aI v1, aI (v2 + 1), aJ] [] M)))))) : am_R K6_solve q 10 [aR 30, aI v1, aI v2, aJ] [] M := by
  refine s_iload 6 rfl rfl ?_
  refine s_push 7 rfl ?_
  refine s_ic 8 rfl (fun h1 => ?_) (fun h1 => ?_)
  · exact s_vret 40 rfl (h.1 h1)
  · refine s_iload 9 rfl rfl ?_
    refine s_iload 10 rfl rfl ?_
    refine s_push 11 rfl ?_
    refine s_bin 12 rfl ?_
    refine s_bin 13 rfl ?_
    refine s_ifne 14 rfl (fun h2 => ?_) (fun h2 => ?_)
    · refine s_iinc [aR 30, aI v1, aI (v2 + 1), aJ] 38 rfl rfl ((h.2 h1).2 h2).1 rfl ?_
      refine s_goto 39 rfl ?_
      exact ((h.2 h1).2 h2).2
    · refine s_push 15 rfl ?_
      refine s_istore [aR 30, aI v1, aI v2, aI 0] 16 rfl rfl ?_
      exact ((h.2 h1).1 h2)
theorem g6_solve_26 {q : am_Q} {M : am_M} {v1 v2 v3 : Int} (h : (7 ≤ v3 → ((-2147483648 ≤ v2 + 1 ∧ v2 + 1 < 2147483648) ∧ (am_R K6_solve q 10 [aR 30, aI v1, aI (v2 + 1), aJ] [] M))) ∧ (¬ (7 ≤ v3) → ((-2147483648 ≤ v2 * 7 ∧ v2 * 7 < 2147483648) ∧ ((-2147483648 ≤ (v2 * 7) + v3 ∧ (v2 * 7) + v3 < 2147483648) ∧ (S6_cheapestNext [aR 30, aI v3, aI v2] M (fun r3 M2 => ∃ x4 : Int, r3 = aI x4 ∧ ((ob_6_costBy (M2 31) (M2 32) (M2 33) v3 v2 x4) ∧ (∀ x6 : Int, x6 = f_6_costBy (M2 31) (M2 32) (M2 33) v3 v2 x4 → ((0 ≤ (v2 * 7) + v3 ∧ (v2 * 7) + v3 < 224) ∧ ((-2147483648 ≤ v3 + 1 ∧ v3 + 1 < 2147483648) ∧ (am_R K6_solve q 26 [aR 30, aI v1, aI v2, aI (v3 + 1)] [] (am_up M2 33 (((v2 * 7) + v3).toNat) x6)))))))))))) : am_R K6_solve q 26 [aR 30, aI v1, aI v2, aI v3] [] M := by
  refine s_iload 17 rfl rfl ?_
  refine s_push 18 rfl ?_
  refine s_ic 19 rfl (fun h1 => ?_) (fun h1 => ?_)
  · refine s_iinc [aR 30, aI v1, aI (v2 + 1), aI v3] 38 rfl rfl (h.1 h1).1 rfl ?_
    refine s_goto 39 rfl ?_
    exact am_R.jk (ls := [aR 30, aI v1, aI (v2 + 1), aJ]) ⟨Or.inr rfl, Or.inr rfl, Or.inr rfl, Or.inl rfl, trivial⟩ (h.1 h1).2
  · refine s_aload 20 rfl rfl ?_
    refine s_getR 33 21 rfl rfl ?_
    refine s_iload 22 rfl rfl ?_
    refine s_push 23 rfl ?_
    refine s_binX (v := v2 * 7) 24 rfl (h.2 h1).1 rfl ?_
    refine s_iload 25 rfl rfl ?_
    refine s_binX (v := (v2 * 7) + v3) 26 rfl (h.2 h1).2.1 rfl ?_
    refine s_aload 27 rfl rfl ?_
    refine s_iload 28 rfl rfl ?_
    refine s_iload 29 rfl rfl ?_
    refine s_aload 30 rfl rfl ?_
    refine s_iload 31 rfl rfl ?_
    refine s_iload 32 rfl rfl ?_
    refine s_callv (o := 30) 33 rfl rfl rfl rfl rfl (am_S.mono (h.2 h1).2.2 ?_)
    rintro r3 M2 ⟨x4, rfl, g5⟩
    show am_R K6_solve q 51 [aR 30, aI v1, aI v2, aI v3] [aI x4, aI v2, aI v3, aR 30, aI ((v2 * 7) + v3), aR 33] M2
    refine s_callv (o := 30) 34 rfl rfl rfl rfl rfl (ct_6_costBy g5.1 ?_)
    show am_R K6_solve q 54 [aR 30, aI v1, aI v2, aI v3] [aI (f_6_costBy (M2 31) (M2 32) (M2 33) v3 v2 x4), aI ((v2 * 7) + v3), aR 33] M2
    refine s_nameI (fun x6 ex6 => ?_)
    refine s_iast 35 rfl rfl (g5.2 x6 ex6).1 ?_
    refine s_iinc [aR 30, aI v1, aI v2, aI (v3 + 1)] 36 rfl rfl (g5.2 x6 ex6).2.1 rfl ?_
    refine s_goto 37 rfl ?_
    exact (g5.2 x6 ex6).2.2
theorem e6_stopAt {q : am_Q} {M : am_M} {v1 : Int} {v2 : Int} (h : am_R K6_stopAt q 8 [aR 30, aJ, aI v2, aI 5, aI v1, aI 0, aJ] [] M) : S6_stopAt [aR 30, aI v1, aI v2] M q := by
  refine am_S.intro rfl rfl ?_
  refine s_push 0 rfl ?_
  refine s_istore [aR 30, aI v1, aI v2, aI 5, aJ, aJ, aJ] 1 rfl rfl ?_
  refine s_iload 2 rfl rfl ?_
  refine s_istore [aR 30, aI v1, aI v2, aI 5, aI v1, aJ, aJ] 3 rfl rfl ?_
  refine s_push 4 rfl ?_
  refine s_istore [aR 30, aI v1, aI v2, aI 5, aI v1, aI 0, aJ] 5 rfl rfl ?_
  exact am_R.jk (ls := [aR 30, aJ, aI v2, aI 5, aI v1, aI 0, aJ]) ⟨Or.inr rfl, Or.inl rfl, Or.inr rfl, Or.inr rfl, Or.inr rfl, Or.inr rfl, Or.inr rfl, trivial⟩ h
theorem g6_stopAt_8 {q : am_Q} {M : am_M} {v2 v3 v4 v5 : Int} (h : (5 ≤ v5 → (q (aI (-1)) M)) ∧ (¬ (5 ≤ v5) → ((v4 = 0 → (q (aI (-1)) M)) ∧ (¬ (v4 = 0) → (S6_cheapestNext [aR 30, aI v3, aI v4] M (fun r4 M3 => ∃ x5 : Int, r4 = aI x5 ∧ ((x5 = (-1) → (q (aI x5) M3)) ∧ (¬ (x5 = (-1)) → ((v5 = v2 → (q (aI x5) M3)) ∧ (¬ (v5 = v2) → ((0 ≤ x5 ∧ x5 < 32) ∧ (∀ x9 : Int, x9 = am_and v4 (am_xor (am_shl 1 x5) (-1)) → ((-2147483648 ≤ v5 + 1 ∧ v5 + 1 < 2147483648) ∧ (am_R K6_stopAt q 8 [aR 30, aJ, aI v2, aI x5, aI x9, aI (v5 + 1), aJ] [] M3)))))))))))))) : am_R K6_stopAt q 8 [aR 30, aJ, aI v2, aI v3, aI v4, aI v5, aJ] [] M := by
  refine s_iload 6 rfl rfl ?_
  refine s_push 7 rfl ?_
  refine s_ic 8 rfl (fun h1 => ?_) (fun h1 => ?_)
  · refine s_push 36 rfl ?_
    exact s_iret 37 rfl (h.1 h1)
  · refine s_iload 9 rfl rfl ?_
    refine s_if 10 rfl (fun h2 => ?_) (fun h2 => ?_)
    · refine s_push 36 rfl ?_
      exact s_iret 37 rfl ((h.2 h1).1 h2)
    · refine s_aload 11 rfl rfl ?_
      refine s_iload 12 rfl rfl ?_
      refine s_iload 13 rfl rfl ?_
      refine s_callv (o := 30) 14 rfl rfl rfl rfl rfl (am_S.mono ((h.2 h1).2 h2) ?_)
      rintro r4 M3 ⟨x5, rfl, g6⟩
      show am_R K6_stopAt q 26 [aR 30, aJ, aI v2, aI v3, aI v4, aI v5, aJ] [aI x5] M3
      refine s_istore [aR 30, aJ, aI v2, aI v3, aI v4, aI v5, aI x5] 15 rfl rfl ?_
      refine s_iload 16 rfl rfl ?_
      refine s_push 17 rfl ?_
      refine s_ic 18 rfl (fun h7 => ?_) (fun h7 => ?_)
      · refine s_iload 22 rfl rfl ?_
        exact s_iret 23 rfl (g6.1 h7)
      · refine s_iload 19 rfl rfl ?_
        refine s_iload 20 rfl rfl ?_
        refine s_icne 21 rfl (fun h8 => ?_) (fun h8 => ?_)
        · refine s_iload 24 rfl rfl ?_
          refine s_push 25 rfl ?_
          refine s_iload 26 rfl rfl ?_
          refine s_sh 27 rfl ((g6.2 h7).2 h8).1 ?_
          refine s_push 28 rfl ?_
          refine s_bin 29 rfl ?_
          refine s_bin 30 rfl ?_
          refine s_nameI (fun x9 ex9 => ?_)
          refine s_istore [aR 30, aJ, aI v2, aI v3, aI x9, aI v5, aI x5] 31 rfl rfl ?_
          refine s_iload 32 rfl rfl ?_
          refine s_istore [aR 30, aJ, aI v2, aI x5, aI x9, aI v5, aI x5] 33 rfl rfl ?_
          refine s_iinc [aR 30, aJ, aI v2, aI x5, aI x9, aI (v5 + 1), aI x5] 34 rfl rfl (((g6.2 h7).2 h8).2 x9 ex9).1 rfl ?_
          refine s_goto 35 rfl ?_
          exact am_R.jk (ls := [aR 30, aJ, aI v2, aI x5, aI x9, aI (v5 + 1), aJ]) ⟨Or.inr rfl, Or.inr rfl, Or.inr rfl, Or.inr rfl, Or.inr rfl, Or.inr rfl, Or.inl rfl, trivial⟩ (((g6.2 h7).2 h8).2 x9 ex9).2
        · refine s_iload 22 rfl rfl ?_
          exact s_iret 23 rfl ((g6.2 h7).1 h8)
theorem e11_best {q : am_Q} {M : am_M} {v1 : Int} {v2 : Int} (h : (v1 < 0 → (q (aI (-2)) M)) ∧ (¬ (v1 < 0) → ((31 < v1 → (q (aI (-2)) M)) ∧ (¬ (31 < v1) → ((f_J_bits v1 < 2 → (q (aI (-2)) M)) ∧ (¬ (f_J_bits v1 < 2) → ((v2 < (-1) → (q (aI (-2)) M)) ∧ (¬ (v2 < (-1)) → ((v2 < 5 → (S6_layOrders [aR 30, aR 15] M (fun _ M6 => S6_solve [aR 30, aI v1] M6 (fun _ M10 => (v2 = (-1) → (q (aI (f_6_leastFrom (M10 33) 5 v1)) M10)) ∧ (¬ (v2 = (-1)) → (S6_stopAt [aR 30, aI v1, aI v2] M10 (fun r16 M15 => ∃ x17 : Int, r16 = aI x17 ∧ (q (aI x17) M15)))))))) ∧ (¬ (v2 < 5) → (q (aI (-2)) M))))))))))) : S11_best [aR 0, aI v1, aI v2] M q := by
  refine am_S.intro rfl rfl ?_
  refine s_iload 0 rfl rfl ?_
  refine s_if 1 rfl (fun h1 => ?_) (fun h1 => ?_)
  · refine s_push 15 rfl ?_
    exact s_iret 16 rfl (h.1 h1)
  · refine s_iload 2 rfl rfl ?_
    refine s_push 3 rfl ?_
    refine s_ic 4 rfl (fun h2 => ?_) (fun h2 => ?_)
    · refine s_push 15 rfl ?_
      exact s_iret 16 rfl ((h.2 h1).1 h2)
    · refine s_iload 5 rfl rfl ?_
      refine s_call 6 rfl rfl rfl rfl rfl (ct_J_bits ?_)
      show am_R K11_best q 14 [aR 0, aI v1, aI v2] [aI (f_J_bits v1)] M
      refine s_push 7 rfl ?_
      refine s_ic 8 rfl (fun h3 => ?_) (fun h3 => ?_)
      · refine s_push 15 rfl ?_
        exact s_iret 16 rfl (((h.2 h1).2 h2).1 h3)
      · refine s_iload 9 rfl rfl ?_
        refine s_push 10 rfl ?_
        refine s_ic 11 rfl (fun h4 => ?_) (fun h4 => ?_)
        · refine s_push 15 rfl ?_
          exact s_iret 16 rfl ((((h.2 h1).2 h2).2 h3).1 h4)
        · refine s_iload 12 rfl rfl ?_
          refine s_push 13 rfl ?_
          refine s_ic 14 rfl (fun h5 => ?_) (fun h5 => ?_)
          · refine s_aload 17 rfl rfl ?_
            refine s_getR 30 18 rfl rfl ?_
            refine s_aload 19 rfl rfl ?_
            refine s_getR 15 20 rfl rfl ?_
            refine s_callv (o := 30) 21 rfl rfl rfl rfl rfl (am_S.mono (((((h.2 h1).2 h2).2 h3).2 h4).1 h5) ?_)
            intro r7 M6 g9
            show am_R K11_best q 42 [aR 0, aI v1, aI v2] [] M6
            refine s_aload 22 rfl rfl ?_
            refine s_getR 30 23 rfl rfl ?_
            refine s_iload 24 rfl rfl ?_
            refine s_callv (o := 30) 25 rfl rfl rfl rfl rfl (am_S.mono g9 ?_)
            intro r11 M10 g13
            show am_R K11_best q 50 [aR 0, aI v1, aI v2] [] M10
            refine s_iload 26 rfl rfl ?_
            refine s_push 27 rfl ?_
            refine s_icne 28 rfl (fun h14 => ?_) (fun h14 => ?_)
            · refine s_aload 35 rfl rfl ?_
              refine s_getR 30 36 rfl rfl ?_
              refine s_iload 37 rfl rfl ?_
              refine s_iload 38 rfl rfl ?_
              refine s_callv (o := 30) 39 rfl rfl rfl rfl rfl (am_S.mono (g13.2 h14) ?_)
              rintro r16 M15 ⟨x17, rfl, g18⟩
              show am_R K11_best q 76 [aR 0, aI v1, aI v2] [aI x17] M15
              exact s_iret 40 rfl g18
            · refine s_aload 29 rfl rfl ?_
              refine s_getR 30 30 rfl rfl ?_
              refine s_push 31 rfl ?_
              refine s_iload 32 rfl rfl ?_
              refine s_callv (o := 30) 33 rfl rfl rfl rfl rfl (ct_6_leastFrom ?_)
              show am_R K11_best q 64 [aR 0, aI v1, aI v2] [aI (f_6_leastFrom (M10 33) 5 v1)] M10
              refine s_goto 34 rfl ?_
              exact s_iret 40 rfl (g13.1 h14)
          · refine s_push 15 rfl ?_
            exact s_iret 16 rfl (((((h.2 h1).2 h2).2 h3).2 h4).2 h5)
theorem e4_weightOf {q : am_Q} {M : am_M} {v1 : Int} (h : am_R K4_weightOf q 4 [aR 27, aI v1, aI 0, aI 0] [] M) : S4_weightOf [aR 27, aI v1] M q := by
  refine am_S.intro rfl rfl ?_
  refine s_push 0 rfl ?_
  refine s_istore [aR 27, aI v1, aI 0, aJ] 1 rfl rfl ?_
  refine s_push 2 rfl ?_
  refine s_istore [aR 27, aI v1, aI 0, aI 0] 3 rfl rfl ?_
  exact h
theorem g4_weightOf_4 {q : am_Q} {M : am_M} {v1 v2 v3 : Int} (h : (M 27 2 ≤ v3 → (q (aI v2) M)) ∧ (¬ (M 27 2 ≤ v3) → ((5 ≤ v3 → (q (aI v2) M)) ∧ (¬ (5 ≤ v3) → ((0 ≤ v3 ∧ v3 < 32) ∧ ((0 ≤ v3 ∧ v3 < 5) ∧ ((-2147483648 ≤ (am_and (am_shr v1 v3) 1) * (M 29 (v3.toNat)) ∧ (am_and (am_shr v1 v3) 1) * (M 29 (v3.toNat)) < 2147483648) ∧ ((-2147483648 ≤ v2 + ((am_and (am_shr v1 v3) 1) * (M 29 (v3.toNat))) ∧ v2 + ((am_and (am_shr v1 v3) 1) * (M 29 (v3.toNat))) < 2147483648) ∧ (∀ x3 : Int, x3 = v2 + ((am_and (am_shr v1 v3) 1) * (M 29 (v3.toNat))) → ((-2147483648 ≤ v3 + 1 ∧ v3 + 1 < 2147483648) ∧ (am_R K4_weightOf q 4 [aR 27, aI v1, aI x3, aI (v3 + 1)] [] M))))))))))) : am_R K4_weightOf q 4 [aR 27, aI v1, aI v2, aI v3] [] M := by
  refine s_iload 4 rfl rfl ?_
  refine s_aload 5 rfl rfl ?_
  refine s_getI (v := M 27 2) 6 rfl rfl rfl ?_
  refine s_ic 7 rfl (fun h1 => ?_) (fun h1 => ?_)
  · refine s_iload 26 rfl rfl ?_
    exact s_iret 27 rfl (h.1 h1)
  · refine s_iload 8 rfl rfl ?_
    refine s_push 9 rfl ?_
    refine s_ic 10 rfl (fun h2 => ?_) (fun h2 => ?_)
    · refine s_iload 26 rfl rfl ?_
      exact s_iret 27 rfl ((h.2 h1).1 h2)
    · refine s_iload 11 rfl rfl ?_
      refine s_iload 12 rfl rfl ?_
      refine s_iload 13 rfl rfl ?_
      refine s_sh 14 rfl ((h.2 h1).2 h2).1 ?_
      refine s_push 15 rfl ?_
      refine s_bin 16 rfl ?_
      refine s_aload 17 rfl rfl ?_
      refine s_getR 29 18 rfl rfl ?_
      refine s_iload 19 rfl rfl ?_
      refine s_iald (v := M 29 (v3.toNat)) 20 rfl rfl ((h.2 h1).2 h2).2.1 rfl ?_
      refine s_binX (v := (am_and (am_shr v1 v3) 1) * (M 29 (v3.toNat))) 21 rfl ((h.2 h1).2 h2).2.2.1 rfl ?_
      refine s_binX (v := v2 + ((am_and (am_shr v1 v3) 1) * (M 29 (v3.toNat)))) 22 rfl ((h.2 h1).2 h2).2.2.2.1 rfl ?_
      refine s_nameI (fun x3 ex3 => ?_)
      refine s_istore [aR 27, aI v1, aI x3, aI v3] 23 rfl rfl ?_
      refine s_iinc [aR 27, aI v1, aI x3, aI (v3 + 1)] 24 rfl rfl (((h.2 h1).2 h2).2.2.2.2 x3 ex3).1 rfl ?_
      refine s_goto 25 rfl ?_
      exact (((h.2 h1).2 h2).2.2.2.2 x3 ex3).2
theorem e6_layWeights {q : am_Q} {M : am_M}  (h : am_R K6_layWeights q 2 [aR 30, aR 27, aI 0] [] M) : S6_layWeights [aR 30, aR 27] M q := by
  refine am_S.intro rfl rfl ?_
  refine s_push 0 rfl ?_
  refine s_istore [aR 30, aR 27, aI 0] 1 rfl rfl ?_
  exact h
theorem g6_layWeights_2 {q : am_Q} {M : am_M} {v2 : Int} (h : (32 ≤ v2 → (q aJ M)) ∧ (¬ (32 ≤ v2) → (S4_weightOf [aR 27, aI v2] M (fun r3 M2 => ∃ x4 : Int, r3 = aI x4 ∧ ((0 ≤ v2 ∧ v2 < 32) ∧ ((-2147483648 ≤ v2 + 1 ∧ v2 + 1 < 2147483648) ∧ (am_R K6_layWeights q 2 [aR 30, aR 27, aI (v2 + 1)] [] (am_up M2 32 (v2.toNat) x4)))))))) : am_R K6_layWeights q 2 [aR 30, aR 27, aI v2] [] M := by
  refine s_iload 2 rfl rfl ?_
  refine s_push 3 rfl ?_
  refine s_ic 4 rfl (fun h1 => ?_) (fun h1 => ?_)
  · exact s_vret 14 rfl (h.1 h1)
  · refine s_aload 5 rfl rfl ?_
    refine s_getR 32 6 rfl rfl ?_
    refine s_iload 7 rfl rfl ?_
    refine s_aload 8 rfl rfl ?_
    refine s_iload 9 rfl rfl ?_
    refine s_callv (o := 27) 10 rfl rfl rfl rfl rfl (am_S.mono (h.2 h1) ?_)
    rintro r3 M2 ⟨x4, rfl, g5⟩
    show am_R K6_layWeights q 18 [aR 30, aR 27, aI v2] [aI x4, aI v2, aR 32] M2
    refine s_iast 11 rfl rfl g5.1 ?_
    refine s_iinc [aR 30, aR 27, aI (v2 + 1)] 12 rfl rfl g5.2.1 rfl ?_
    refine s_goto 13 rfl ?_
    exact g5.2.2
theorem e11_layLegs {q : am_Q} {M : am_M} {v1 : Int} {v2 : Int} (h : S0_measureFrom [aR 10, aI v2] M (fun _ M1 => am_R K11_layLegs q 13 [aR 0, aI v1, aJ, aI 1, aI 0, aJ] [] M1)) : S11_layLegs [aR 0, aI v1, aI v2] M q := by
  refine am_S.intro rfl rfl ?_
  refine s_push 0 rfl ?_
  refine s_istore [aR 0, aI v1, aI v2, aI 1, aJ, aJ] 1 rfl rfl ?_
  refine s_aload 2 rfl rfl ?_
  refine s_getR 10 3 rfl rfl ?_
  refine s_iload 4 rfl rfl ?_
  refine s_callv (o := 10) 5 rfl rfl rfl rfl rfl (am_S.mono h ?_)
  intro r2 M1 g4
  show am_R K11_layLegs q 10 [aR 0, aI v1, aI v2, aI 1, aJ, aJ] [] M1
  refine s_push 6 rfl ?_
  refine s_istore [aR 0, aI v1, aI v2, aI 1, aI 0, aJ] 7 rfl rfl ?_
  exact am_R.jk (ls := [aR 0, aI v1, aJ, aI 1, aI 0, aJ]) ⟨Or.inr rfl, Or.inr rfl, Or.inl rfl, Or.inr rfl, Or.inr rfl, Or.inr rfl, trivial⟩ g4
theorem g11_layLegs_13 {q : am_Q} {M : am_M} {v1 v3 v4 : Int} (h : (M 27 2 ≤ v4 → ((v3 = 0 ∨ v3 = 1) ∧ q (aI v3) M)) ∧ (¬ (M 27 2 ≤ v4) → (∀ x2 : Int, x2 = f_0_stepsTo (M 11) (f_4_placeOf (M 27) (M 28) v4) → (S6_putLeg [aR 30, aI v1, aI v4, aI x2] M (fun _ M3 => ∀ x9 : Int, x9 = (if ¬ (v3 = 0) ∧ ¬ (x2 = (-1)) then 1 else 0) → ((-2147483648 ≤ v4 + 1 ∧ v4 + 1 < 2147483648) ∧ (am_R K11_layLegs q 13 [aR 0, aI v1, aJ, aI x9, aI (v4 + 1), aJ] [] M3))))))) : am_R K11_layLegs q 13 [aR 0, aI v1, aJ, aI v3, aI v4, aJ] [] M := by
  refine s_iload 8 rfl rfl ?_
  refine s_aload 9 rfl rfl ?_
  refine s_getR 27 10 rfl rfl ?_
  refine s_getI (v := M 27 2) 11 rfl rfl rfl ?_
  refine s_ic 12 rfl (fun h1 => ?_) (fun h1 => ?_)
  · refine s_iload 38 rfl rfl ?_
    exact s_zret 39 rfl (h.1 h1).1 (h.1 h1).2
  · refine s_aload 13 rfl rfl ?_
    refine s_getR 10 14 rfl rfl ?_
    refine s_aload 15 rfl rfl ?_
    refine s_getR 27 16 rfl rfl ?_
    refine s_iload 17 rfl rfl ?_
    refine s_callv (o := 27) 18 rfl rfl rfl rfl rfl (ct_4_placeOf ?_)
    show am_R K11_layLegs q 38 [aR 0, aI v1, aJ, aI v3, aI v4, aJ] [aI (f_4_placeOf (M 27) (M 28) v4), aR 10] M
    refine s_callv (o := 10) 19 rfl rfl rfl rfl rfl (ct_0_stepsTo ?_)
    show am_R K11_layLegs q 41 [aR 0, aI v1, aJ, aI v3, aI v4, aJ] [aI (f_0_stepsTo (M 11) (f_4_placeOf (M 27) (M 28) v4))] M
    refine s_nameI (fun x2 ex2 => ?_)
    refine s_istore [aR 0, aI v1, aJ, aI v3, aI v4, aI x2] 20 rfl rfl ?_
    refine s_aload 21 rfl rfl ?_
    refine s_getR 30 22 rfl rfl ?_
    refine s_iload 23 rfl rfl ?_
    refine s_iload 24 rfl rfl ?_
    refine s_iload 25 rfl rfl ?_
    refine s_callv (o := 30) 26 rfl rfl rfl rfl rfl (am_S.mono ((h.2 h1) x2 ex2) ?_)
    intro r4 M3 g6
    show am_R K11_layLegs q 55 [aR 0, aI v1, aJ, aI v3, aI v4, aI x2] [] M3
    refine s_iload 27 rfl rfl ?_
    have j10 : ∀ (x9 : Int) (ex9 : x9 = (if ¬ (v3 = 0) ∧ ¬ (x2 = (-1)) then 1 else 0)), am_R K11_layLegs q 70 [aR 0, aI v1, aJ, aI v3, aI v4, aI x2] [aI x9] M3 := by
      intro x9 ex9
      refine s_istore [aR 0, aI v1, aJ, aI x9, aI v4, aI x2] 35 rfl rfl ?_
      refine s_iinc [aR 0, aI v1, aJ, aI x9, aI (v4 + 1), aI x2] 36 rfl rfl (g6 x9 ex9).1 rfl ?_
      refine s_goto 37 rfl ?_
      exact am_R.jk (ls := [aR 0, aI v1, aJ, aI x9, aI (v4 + 1), aJ]) ⟨Or.inr rfl, Or.inr rfl, Or.inr rfl, Or.inr rfl, Or.inr rfl, Or.inl rfl, trivial⟩ (g6 x9 ex9).2
    refine s_if 28 rfl (fun h7 => ?_) (fun h7 => ?_)
    · refine s_push 34 rfl ?_
      exact j10 _ (if_neg (by omega)).symm
    · refine s_iload 29 rfl rfl ?_
      refine s_push 30 rfl ?_
      refine s_ic 31 rfl (fun h8 => ?_) (fun h8 => ?_)
      · refine s_push 34 rfl ?_
        exact j10 _ (if_neg (by omega)).symm
      · refine s_push 32 rfl ?_
        refine s_goto 33 rfl ?_
        exact j10 _ (if_pos (by omega)).symm
theorem e11_canSeek {q : am_Q} {M : am_M} {v1 : Int} {v2 : Int} (h : (M 27 2 = 0 → (q (aI 0) M)) ∧ (¬ (M 27 2 = 0) → (S6_layWeights [aR 30, aR 27] M (fun _ M2 => am_R K11_canSeek q 25 [aR 0, aI v1, aI v2, aI 0] [] M2)))) : S11_canSeek [aR 0, aI v1, aI v2] M q := by
  refine am_S.intro rfl rfl ?_
  refine s_aload 0 rfl rfl ?_
  refine s_getR 27 1 rfl rfl ?_
  refine s_getI (v := M 27 2) 2 rfl rfl rfl ?_
  refine s_ifne 3 rfl (fun h1 => ?_) (fun h1 => ?_)
  · refine s_aload 6 rfl rfl ?_
    refine s_getR 30 7 rfl rfl ?_
    refine s_aload 8 rfl rfl ?_
    refine s_getR 27 9 rfl rfl ?_
    refine s_callv (o := 30) 10 rfl rfl rfl rfl rfl (am_S.mono (h.2 h1) ?_)
    intro r3 M2 g5
    show am_R K11_canSeek q 23 [aR 0, aI v1, aI v2, aJ] [] M2
    refine s_push 11 rfl ?_
    refine s_istore [aR 0, aI v1, aI v2, aI 0] 12 rfl rfl ?_
    exact g5
  · refine s_push 4 rfl ?_
    exact s_zret 5 rfl (by decide) (h.1 h1)
theorem g11_canSeek_25 {q : am_Q} {M : am_M} {v1 v2 v3 : Int} (h : (M 27 2 ≤ v3 → (S11_layLegs [aR 0, aI 5, aI (f_3_standOf (M 18) v1)] M (fun r3 M2 => ∃ x4 : Int, r3 = aI x4 ∧ ((x4 = 0 → (q (aI 0) M2)) ∧ (¬ (x4 = 0) → (S11_layLegs [aR 0, aI 6, aI (f_3_standOf (M2 18) v2)] M2 (fun r8 M7 => ∃ x9 : Int, r8 = aI x9 ∧ (∀ x12 : Int, x12 = (if ¬ (x9 = 0) then 1 else 0) → (q (aI x12) M7))))))))) ∧ (¬ (M 27 2 ≤ v3) → (S11_layLegs [aR 0, aI v3, aI (f_4_placeOf (M 27) (M 28) v3)] M (fun r14 M13 => ∃ x15 : Int, r14 = aI x15 ∧ ((-2147483648 ≤ v3 + 1 ∧ v3 + 1 < 2147483648) ∧ (am_R K11_canSeek q 25 [aR 0, aI v1, aI v2, aI (v3 + 1)] [] M13)))))) : am_R K11_canSeek q 25 [aR 0, aI v1, aI v2, aI v3] [] M := by
  refine s_iload 13 rfl rfl ?_
  refine s_aload 14 rfl rfl ?_
  refine s_getR 27 15 rfl rfl ?_
  refine s_getI (v := M 27 2) 16 rfl rfl rfl ?_
  refine s_ic 17 rfl (fun h1 => ?_) (fun h1 => ?_)
  · refine s_aload 28 rfl rfl ?_
    refine s_push 29 rfl ?_
    refine s_aload 30 rfl rfl ?_
    refine s_getR 15 31 rfl rfl ?_
    refine s_iload 32 rfl rfl ?_
    refine s_callv (o := 15) 33 rfl rfl rfl rfl rfl (ct_3_standOf ?_)
    show am_R K11_canSeek q 66 [aR 0, aI v1, aI v2, aI v3] [aI (f_3_standOf (M 18) v1), aI 5, aR 0] M
    refine s_callv (o := 0) 34 rfl rfl rfl rfl rfl (am_S.mono (h.1 h1) ?_)
    rintro r3 M2 ⟨x4, rfl, g5⟩
    show am_R K11_canSeek q 69 [aR 0, aI v1, aI v2, aI v3] [aI x4] M2
    refine s_if 35 rfl (fun h6 => ?_) (fun h6 => ?_)
    · refine s_push 46 rfl ?_
      exact s_zret 47 rfl (by decide) (g5.1 h6)
    · refine s_aload 36 rfl rfl ?_
      refine s_push 37 rfl ?_
      refine s_aload 38 rfl rfl ?_
      refine s_getR 15 39 rfl rfl ?_
      refine s_iload 40 rfl rfl ?_
      refine s_callv (o := 15) 41 rfl rfl rfl rfl rfl (ct_3_standOf ?_)
      show am_R K11_canSeek q 83 [aR 0, aI v1, aI v2, aI v3] [aI (f_3_standOf (M2 18) v2), aI 6, aR 0] M2
      refine s_callv (o := 0) 42 rfl rfl rfl rfl rfl (am_S.mono (g5.2 h6) ?_)
      rintro r8 M7 ⟨x9, rfl, g10⟩
      show am_R K11_canSeek q 86 [aR 0, aI v1, aI v2, aI v3] [aI x9] M7
      have j17 : ∀ (x12 : Int) (ex12 : x12 = (if ¬ (x9 = 0) then 1 else 0)), am_R K11_canSeek q 94 [aR 0, aI v1, aI v2, aI v3] [aI x12] M7 := by
        intro x12 ex12
        exact s_zret 47 rfl (by rw [ex12]; exact b01 _) (g10 x12 ex12)
      refine s_if 43 rfl (fun h11 => ?_) (fun h11 => ?_)
      · refine s_push 46 rfl ?_
        exact j17 _ (if_neg (by omega)).symm
      · refine s_push 44 rfl ?_
        refine s_goto 45 rfl ?_
        exact j17 _ (if_pos (by omega)).symm
  · refine s_aload 18 rfl rfl ?_
    refine s_iload 19 rfl rfl ?_
    refine s_aload 20 rfl rfl ?_
    refine s_getR 27 21 rfl rfl ?_
    refine s_iload 22 rfl rfl ?_
    refine s_callv (o := 27) 23 rfl rfl rfl rfl rfl (ct_4_placeOf ?_)
    show am_R K11_canSeek q 46 [aR 0, aI v1, aI v2, aI v3] [aI (f_4_placeOf (M 27) (M 28) v3), aI v3, aR 0] M
    refine s_callv (o := 0) 24 rfl rfl rfl rfl rfl (am_S.mono (h.2 h1) ?_)
    rintro r14 M13 ⟨x15, rfl, g16⟩
    show am_R K11_canSeek q 49 [aR 0, aI v1, aI v2, aI v3] [aI x15] M13
    refine s_pop 25 rfl ?_
    refine s_iinc [aR 0, aI v1, aI v2, aI (v3 + 1)] 26 rfl rfl g16.1 rfl ?_
    refine s_goto 27 rfl ?_
    exact g16.2
theorem e11_comeFrom {q : am_Q} {M : am_M} {v1 : Int} (h : S0_measureFrom [aR 10, aI v1] M (fun _ M1 => am_R K11_comeFrom q 10 [aR 0, aJ, aI 0, aJ, aJ] [] M1)) : S11_comeFrom [aR 0, aI v1] M q := by
  refine am_S.intro rfl rfl ?_
  refine s_aload 0 rfl rfl ?_
  refine s_getR 10 1 rfl rfl ?_
  refine s_iload 2 rfl rfl ?_
  refine s_callv (o := 10) 3 rfl rfl rfl rfl rfl (am_S.mono h ?_)
  intro r2 M1 g4
  show am_R K11_comeFrom q 8 [aR 0, aI v1, aJ, aJ, aJ] [] M1
  refine s_push 4 rfl ?_
  refine s_istore [aR 0, aI v1, aI 0, aJ, aJ] 5 rfl rfl ?_
  exact am_R.jk (ls := [aR 0, aJ, aI 0, aJ, aJ]) ⟨Or.inr rfl, Or.inl rfl, Or.inr rfl, Or.inr rfl, Or.inr rfl, trivial⟩ g4
theorem g11_comeFrom_10 {q : am_Q} {M : am_M} {v2 : Int} (h : (64 ≤ v2 → (q aJ M)) ∧ (¬ (64 ≤ v2) → (∀ x2 : Int, x2 = f_0_stepsTo (M 11) v2 → ((¬ (x2 = (-1)) → (0 ≤ v2 ∧ v2 < 64)) ∧ (∀ x5 : Int, x5 = (if x2 = (-1) ∨ M 43 (v2.toNat) = (-1) then 1 else 0) → ((¬ (x2 = (-1) ∨ M 43 (v2.toNat) = (-1)) → (0 ≤ v2 ∧ v2 < 64)) ∧ (∀ x7 : Int, x7 = (if x2 = (-1) ∨ M 43 (v2.toNat) = (-1) then (-1) else if M 43 (v2.toNat) < x2 then x2 else M 43 (v2.toNat)) → ((0 ≤ v2 ∧ v2 < 64) ∧ ((-2147483648 ≤ v2 + 1 ∧ v2 + 1 < 2147483648) ∧ (am_R K11_comeFrom q 10 [aR 0, aJ, aI (v2 + 1), aJ, aJ] [] (am_up M 43 (v2.toNat) x7))))))))))) : am_R K11_comeFrom q 10 [aR 0, aJ, aI v2, aJ, aJ] [] M := by
  refine s_iload 6 rfl rfl ?_
  refine s_push 7 rfl ?_
  refine s_ic 8 rfl (fun h1 => ?_) (fun h1 => ?_)
  · exact s_vret 43 rfl (h.1 h1)
  · refine s_aload 9 rfl rfl ?_
    refine s_getR 10 10 rfl rfl ?_
    refine s_iload 11 rfl rfl ?_
    refine s_callv (o := 10) 12 rfl rfl rfl rfl rfl (ct_0_stepsTo ?_)
    show am_R K11_comeFrom q 24 [aR 0, aJ, aI v2, aJ, aJ] [aI (f_0_stepsTo (M 11) v2)] M
    refine s_nameI (fun x2 ex2 => ?_)
    refine s_istore [aR 0, aJ, aI v2, aI x2, aJ] 13 rfl rfl ?_
    refine s_iload 14 rfl rfl ?_
    refine s_push 15 rfl ?_
    have j8 : ∀ (x5 : Int) (ex5 : x5 = (if x2 = (-1) ∨ M 43 (v2.toNat) = (-1) then 1 else 0)), am_R K11_comeFrom q 45 [aR 0, aJ, aI v2, aI x2, aJ] [aI x5] M := by
      intro x5 ex5
      refine s_istore [aR 0, aJ, aI v2, aI x2, aI x5] 26 rfl rfl ?_
      refine s_aload 27 rfl rfl ?_
      refine s_getR 43 28 rfl rfl ?_
      refine s_iload 29 rfl rfl ?_
      refine s_iload 30 rfl rfl ?_
      have j9 : ∀ (x7 : Int) (ex7 : x7 = (if x2 = (-1) ∨ M 43 (v2.toNat) = (-1) then (-1) else if M 43 (v2.toNat) < x2 then x2 else M 43 (v2.toNat))), am_R K11_comeFrom q 71 [aR 0, aJ, aI v2, aI x2, aI x5] [aI x7, aI v2, aR 43] M := by
        intro x7 ex7
        refine s_iast 40 rfl rfl ((((h.2 h1) x2 ex2).2 x5 ex5).2 x7 ex7).1 ?_
        refine s_iinc [aR 0, aJ, aI (v2 + 1), aI x2, aI x5] 41 rfl rfl ((((h.2 h1) x2 ex2).2 x5 ex5).2 x7 ex7).2.1 rfl ?_
        refine s_goto 42 rfl ?_
        exact am_R.jk (ls := [aR 0, aJ, aI (v2 + 1), aJ, aJ]) ⟨Or.inr rfl, Or.inr rfl, Or.inr rfl, Or.inl rfl, Or.inl rfl, trivial⟩ ((((h.2 h1) x2 ex2).2 x5 ex5).2 x7 ex7).2.2
      refine s_ifeqV (c := x2 = (-1) ∨ M 43 (v2.toNat) = (-1)) 31 rfl ex5 (fun h6 => ?_) (fun h6 => ?_)
      · refine s_aload 34 rfl rfl ?_
        refine s_getR 43 35 rfl rfl ?_
        refine s_iload 36 rfl rfl ?_
        refine s_iald (v := M 43 (v2.toNat)) 37 rfl rfl ((((h.2 h1) x2 ex2).2 x5 ex5).1 h6) rfl ?_
        refine s_iload 38 rfl rfl ?_
        refine s_max 39 rfl rfl ?_
        exact j9 _ (by rw [if_neg h6])
      · refine s_push 32 rfl ?_
        refine s_goto 33 rfl ?_
        exact j9 _ (by rw [if_pos h6])
    refine s_ic 16 rfl (fun h3 => ?_) (fun h3 => ?_)
    · refine s_push 23 rfl ?_
      refine s_goto 24 rfl ?_
      exact j8 _ (if_pos (by omega)).symm
    · refine s_aload 17 rfl rfl ?_
      refine s_getR 43 18 rfl rfl ?_
      refine s_iload 19 rfl rfl ?_
      refine s_iald (v := M 43 (v2.toNat)) 20 rfl rfl (((h.2 h1) x2 ex2).1 h3) rfl ?_
      refine s_push 21 rfl ?_
      refine s_icne 22 rfl (fun h4 => ?_) (fun h4 => ?_)
      · refine s_push 25 rfl ?_
        exact j8 _ (if_neg (by omega)).symm
      · refine s_push 23 rfl ?_
        refine s_goto 24 rfl ?_
        exact j8 _ (if_pos (by omega)).symm
theorem e11_sheetOf {q : am_Q} {M : am_M} {v1 : Int} (h : (v1 < 0 → (q (aN) M)) ∧ (¬ (v1 < 0) → ((4 ≤ v1 → (q (aN) M)) ∧ (¬ (4 ≤ v1) → ((0 ≤ v1 ∧ v1 < 4) ∧ (q (aR (35 + v1.toNat)) M)))))) : S11_sheetOf [aR 0, aI v1] M q := by
  refine am_S.intro rfl rfl ?_
  refine s_iload 0 rfl rfl ?_
  refine s_if 1 rfl (fun h1 => ?_) (fun h1 => ?_)
  · refine s_push 10 rfl ?_
    exact s_aret 11 rfl (h.1 h1)
  · refine s_iload 2 rfl rfl ?_
    refine s_push 3 rfl ?_
    refine s_ic 4 rfl (fun h2 => ?_) (fun h2 => ?_)
    · refine s_push 10 rfl ?_
      exact s_aret 11 rfl ((h.2 h1).1 h2)
    · refine s_aload 5 rfl rfl ?_
      refine s_getR 34 6 rfl rfl ?_
      refine s_iload 7 rfl rfl ?_
      have hs3 : sx (35 + v1.toNat) := sx_of ((h.2 h1).2 h2).1
      refine s_aald (b := 35) (N := 4) 8 rfl rfl ((h.2 h1).2 h2).1 ?_
      refine s_goto 9 rfl ?_
      exact s_aret 11 rfl ((h.2 h1).2 h2).2
theorem e11_found {q : am_Q} {M : am_M} {v1 : Int} (h : (-2147483648 ≤ (-10) - v1 ∧ (-10) - v1 < 2147483648) ∧ (q (aI ((-10) - v1)) (am_up M 0 16 v1))) : S11_found [aR 0, aI v1] M q := by
  refine am_S.intro rfl rfl ?_
  refine s_aload 0 rfl rfl ?_
  refine s_iload 1 rfl rfl ?_
  refine s_putI 2 rfl rfl ?_
  refine s_push 3 rfl ?_
  refine s_iload 4 rfl rfl ?_
  refine s_binX (v := (-10) - v1) 5 rfl h.1 rfl ?_
  exact s_iret 6 rfl h.2
theorem e11_copy {q : am_Q} {M : am_M} {v1 : Int} {v2 : Int} {v3 : Int} {v4 : Int} {v5 : Int} (h : (0 ≤ v1 ∧ v1 < 4 → ((0 ≤ v3 ∧ v3 < 4 → (((M (35 + v1.toNat)) 1 = (-1) → (S11_found [aR 0, aI 1] M (fun r7 M6 => ∃ x8 : Int, r7 = aI x8 ∧ (q (aI x8) M6)))) ∧ (¬ ((M (35 + v1.toNat)) 1 = (-1)) → (((M (35 + v3.toNat)) 1 = (-1) → (S11_found [aR 0, aI 1] M (fun r27 M26 => ∃ x28 : Int, r27 = aI x28 ∧ (q (aI x28) M26)))) ∧ (¬ ((M (35 + v3.toNat)) 1 = (-1)) → ((M (35 + v1.toNat) 1 = M (35 + v3.toNat) 1 → ((ob_7_hasRun (M (35 + v1.toNat)) v2 v5) ∧ ((¬ (v2 < 0) ∧ (¬ (v5 < 0) ∧ ¬ (((M (35 + v1.toNat)) 2) - v5 < v2)) → ((ob_7_hasRun (M (35 + v3.toNat)) v4 v5) ∧ ((¬ (v4 < 0) ∧ (¬ (v5 < 0) ∧ ¬ (((M (35 + v3.toNat)) 2) - v5 < v4)) → ((0 ≤ v2 ∧ 0 ≤ v4 ∧ 0 ≤ v5 ∧ v2 + v5 ≤ 64 ∧ v4 + v5 ≤ 64) ∧ (q (aI 1) (am_ob M (35 + v3.toNat + 4) (am_cpy (M (35 + v1.toNat + 4)) (M (35 + v3.toNat + 4)) v2.toNat v4.toNat v5.toNat))))) ∧ (¬ (¬ (v4 < 0) ∧ (¬ (v5 < 0) ∧ ¬ (((M (35 + v3.toNat)) 2) - v5 < v4))) → (S11_found [aR 0, aI 2] M (fun r19 M18 => ∃ x20 : Int, r19 = aI x20 ∧ (q (aI x20) M18))))))) ∧ (¬ (¬ (v2 < 0) ∧ (¬ (v5 < 0) ∧ ¬ (((M (35 + v1.toNat)) 2) - v5 < v2))) → (S11_found [aR 0, aI 2] M (fun r14 M13 => ∃ x15 : Int, r14 = aI x15 ∧ (q (aI x15) M13))))))) ∧ (¬ (M (35 + v1.toNat) 1 = M (35 + v3.toNat) 1) → (S11_found [aR 0, aI 4] M (fun r23 M22 => ∃ x24 : Int, r23 = aI x24 ∧ (q (aI x24) M22)))))))))) ∧ (¬ (0 ≤ v3 ∧ v3 < 4) → (q (aI (-2)) M)))) ∧ (¬ (0 ≤ v1 ∧ v1 < 4) → ((0 ≤ v3 ∧ v3 < 4 → (q (aI (-2)) M)) ∧ (¬ (0 ≤ v3 ∧ v3 < 4) → (q (aI (-2)) M))))) : S11_copy [aR 0, aI v1, aI v2, aI v3, aI v4, aI v5] M q := by
  refine am_S.intro rfl rfl ?_
  refine s_aload 0 rfl rfl ?_
  refine s_iload 1 rfl rfl ?_
  refine s_callv (o := 0) 2 rfl rfl rfl rfl rfl (ct_11_sheetOf (fun h1 => ?_) (fun h1 => ?_))
  · have hs2 : sx (35 + v1.toNat) := sx_of h1
    show am_R K11_copy q 5 [aR 0, aI v1, aI v2, aI v3, aI v4, aI v5, aJ, aJ] [aR (35 + v1.toNat)] M
    refine s_astore [aR 0, aI v1, aI v2, aI v3, aI v4, aI v5, aR (35 + v1.toNat), aJ] 3 rfl rfl ?_
    refine s_aload 4 rfl rfl ?_
    refine s_iload 5 rfl rfl ?_
    refine s_callv (o := 0) 6 rfl rfl rfl rfl rfl (ct_11_sheetOf (fun h3 => ?_) (fun h3 => ?_))
    · have hs4 : sx (35 + v3.toNat) := sx_of h3
      show am_R K11_copy q 12 [aR 0, aI v1, aI v2, aI v3, aI v4, aI v5, aR (35 + v1.toNat), aJ] [aR (35 + v3.toNat)] M
      refine s_astore [aR 0, aI v1, aI v2, aI v3, aI v4, aI v5, aR (35 + v1.toNat), aR (35 + v3.toNat)] 7 rfl rfl ?_
      refine s_aload 8 rfl rfl ?_
      refine s_nulR 9 rfl ?_
      refine s_aload 10 rfl rfl ?_
      refine s_nulR 11 rfl ?_
      refine s_aload 14 rfl rfl ?_
      refine s_callv (o := (35 + v1.toNat)) 15 rfl rfl rfl (sx_c hs2) rfl (ct_7_isLost (ho := hs2) ?_)
      show am_R K11_copy q 32 [aR 0, aI v1, aI v2, aI v3, aI v4, aI v5, aR (35 + v1.toNat), aR (35 + v3.toNat)] [aI (if (M (35 + v1.toNat)) 1 = (-1) then 1 else 0)] M
      refine s_ifneB 16 rfl (fun h5 => ?_) (fun h5 => ?_)
      · refine s_aload 20 rfl rfl ?_
        refine s_push 21 rfl ?_
        refine s_callv (o := 0) 22 rfl rfl rfl rfl rfl (am_S.mono (((h.1 h1).1 h3).1 h5) ?_)
        rintro r7 M6 ⟨x8, rfl, g9⟩
        show am_R K11_copy q 48 [aR 0, aI v1, aI v2, aI v3, aI v4, aI v5, aR (35 + v1.toNat), aR (35 + v3.toNat)] [aI x8] M6
        exact s_iret 23 rfl g9
      · refine s_aload 17 rfl rfl ?_
        refine s_callv (o := (35 + v3.toNat)) 18 rfl rfl rfl (sx_c hs4) rfl (ct_7_isLost (ho := hs4) ?_)
        show am_R K11_copy q 40 [aR 0, aI v1, aI v2, aI v3, aI v4, aI v5, aR (35 + v1.toNat), aR (35 + v3.toNat)] [aI (if (M (35 + v3.toNat)) 1 = (-1) then 1 else 0)] M
        refine s_ifeqB 19 rfl (fun h10 => ?_) (fun h10 => ?_)
        · refine s_aload 24 rfl rfl ?_
          refine s_getI (v := M (35 + v1.toNat) 1) 25 rfl (sx_1 hs2) rfl ?_
          refine s_aload 26 rfl rfl ?_
          refine s_getI (v := M (35 + v3.toNat) 1) 27 rfl (sx_1 hs4) rfl ?_
          refine s_ic 28 rfl (fun h11 => ?_) (fun h11 => ?_)
          · refine s_aload 33 rfl rfl ?_
            refine s_iload 34 rfl rfl ?_
            refine s_iload 35 rfl rfl ?_
            refine s_callv (o := (35 + v1.toNat)) 36 rfl rfl rfl (sx_c hs2) rfl (ct_7_hasRun (ho := hs2) (((((h.1 h1).1 h3).2 h5).2 h10).1 h11).1 ?_)
            show am_R K11_copy q 76 [aR 0, aI v1, aI v2, aI v3, aI v4, aI v5, aR (35 + v1.toNat), aR (35 + v3.toNat)] [aI (if ¬ (v2 < 0) ∧ (¬ (v5 < 0) ∧ ¬ (((M (35 + v1.toNat)) 2) - v5 < v2)) then 1 else 0)] M
            refine s_ifeqB 37 rfl (fun h12 => ?_) (fun h12 => ?_)
            · refine s_aload 43 rfl rfl ?_
              refine s_push 44 rfl ?_
              refine s_callv (o := 0) 45 rfl rfl rfl rfl rfl (am_S.mono ((((((h.1 h1).1 h3).2 h5).2 h10).1 h11).2.2 h12) ?_)
              rintro r14 M13 ⟨x15, rfl, g16⟩
              show am_R K11_copy q 96 [aR 0, aI v1, aI v2, aI v3, aI v4, aI v5, aR (35 + v1.toNat), aR (35 + v3.toNat)] [aI x15] M13
              exact s_iret 46 rfl g16
            · refine s_aload 38 rfl rfl ?_
              refine s_iload 39 rfl rfl ?_
              refine s_iload 40 rfl rfl ?_
              refine s_callv (o := (35 + v3.toNat)) 41 rfl rfl rfl (sx_c hs4) rfl (ct_7_hasRun (ho := hs4) ((((((h.1 h1).1 h3).2 h5).2 h10).1 h11).2.1 h12).1 ?_)
              show am_R K11_copy q 88 [aR 0, aI v1, aI v2, aI v3, aI v4, aI v5, aR (35 + v1.toNat), aR (35 + v3.toNat)] [aI (if ¬ (v4 < 0) ∧ (¬ (v5 < 0) ∧ ¬ (((M (35 + v3.toNat)) 2) - v5 < v4)) then 1 else 0)] M
              refine s_ifneB 42 rfl (fun h17 => ?_) (fun h17 => ?_)
              · refine s_aload 47 rfl rfl ?_
                refine s_getR (35 + v1.toNat + 4) 48 rfl (sx_0 hs2) ?_
                refine s_iload 49 rfl rfl ?_
                refine s_aload 50 rfl rfl ?_
                refine s_getR (35 + v3.toNat + 4) 51 rfl (sx_0 hs4) ?_
                refine s_iload 52 rfl rfl ?_
                refine s_iload 53 rfl rfl ?_
                refine s_acpy (n0 := 64) (n1 := 64) 54 rfl (sx_a hs2) (sx_a hs4) (((((((h.1 h1).1 h3).2 h5).2 h10).1 h11).2.1 h12).2.1 h17).1 (by decide) rfl ?_
                refine s_push 55 rfl ?_
                exact s_iret 56 rfl (((((((h.1 h1).1 h3).2 h5).2 h10).1 h11).2.1 h12).2.1 h17).2
              · refine s_aload 43 rfl rfl ?_
                refine s_push 44 rfl ?_
                refine s_callv (o := 0) 45 rfl rfl rfl rfl rfl (am_S.mono (((((((h.1 h1).1 h3).2 h5).2 h10).1 h11).2.1 h12).2.2 h17) ?_)
                rintro r19 M18 ⟨x20, rfl, g21⟩
                show am_R K11_copy q 96 [aR 0, aI v1, aI v2, aI v3, aI v4, aI v5, aR (35 + v1.toNat), aR (35 + v3.toNat)] [aI x20] M18
                exact s_iret 46 rfl g21
          · refine s_aload 29 rfl rfl ?_
            refine s_push 30 rfl ?_
            refine s_callv (o := 0) 31 rfl rfl rfl rfl rfl (am_S.mono (((((h.1 h1).1 h3).2 h5).2 h10).2 h11) ?_)
            rintro r23 M22 ⟨x24, rfl, g25⟩
            show am_R K11_copy q 67 [aR 0, aI v1, aI v2, aI v3, aI v4, aI v5, aR (35 + v1.toNat), aR (35 + v3.toNat)] [aI x24] M22
            exact s_iret 32 rfl g25
        · refine s_aload 20 rfl rfl ?_
          refine s_push 21 rfl ?_
          refine s_callv (o := 0) 22 rfl rfl rfl rfl rfl (am_S.mono ((((h.1 h1).1 h3).2 h5).1 h10) ?_)
          rintro r27 M26 ⟨x28, rfl, g29⟩
          show am_R K11_copy q 48 [aR 0, aI v1, aI v2, aI v3, aI v4, aI v5, aR (35 + v1.toNat), aR (35 + v3.toNat)] [aI x28] M26
          exact s_iret 23 rfl g29
    · show am_R K11_copy q 12 [aR 0, aI v1, aI v2, aI v3, aI v4, aI v5, aR (35 + v1.toNat), aJ] [aN] M
      refine s_astore [aR 0, aI v1, aI v2, aI v3, aI v4, aI v5, aR (35 + v1.toNat), aN] 7 rfl rfl ?_
      refine s_aload 8 rfl rfl ?_
      refine s_nulR 9 rfl ?_
      refine s_aload 10 rfl rfl ?_
      refine s_nulN 11 rfl ?_
      refine s_push 12 rfl ?_
      exact s_iret 13 rfl ((h.1 h1).2 h3)
  · show am_R K11_copy q 5 [aR 0, aI v1, aI v2, aI v3, aI v4, aI v5, aJ, aJ] [aN] M
    refine s_astore [aR 0, aI v1, aI v2, aI v3, aI v4, aI v5, aN, aJ] 3 rfl rfl ?_
    refine s_aload 4 rfl rfl ?_
    refine s_iload 5 rfl rfl ?_
    refine s_callv (o := 0) 6 rfl rfl rfl rfl rfl (ct_11_sheetOf (fun h30 => ?_) (fun h30 => ?_))
    · have hs31 : sx (35 + v3.toNat) := sx_of h30
      show am_R K11_copy q 12 [aR 0, aI v1, aI v2, aI v3, aI v4, aI v5, aN, aJ] [aR (35 + v3.toNat)] M
      refine s_astore [aR 0, aI v1, aI v2, aI v3, aI v4, aI v5, aN, aR (35 + v3.toNat)] 7 rfl rfl ?_
      refine s_aload 8 rfl rfl ?_
      refine s_nulN 9 rfl ?_
      refine s_push 12 rfl ?_
      exact s_iret 13 rfl ((h.2 h1).1 h30)
    · show am_R K11_copy q 12 [aR 0, aI v1, aI v2, aI v3, aI v4, aI v5, aN, aJ] [aN] M
      refine s_astore [aR 0, aI v1, aI v2, aI v3, aI v4, aI v5, aN, aN] 7 rfl rfl ?_
      refine s_aload 8 rfl rfl ?_
      refine s_nulN 9 rfl ?_
      refine s_push 12 rfl ?_
      exact s_iret 13 rfl ((h.2 h1).2 h30)
theorem e11_counts {q : am_Q} {M : am_M} {v1 : Int} {v2 : Int} {v3 : Int} (h : (v1 < 1 → (q (aI (-2)) M)) ∧ (¬ (v1 < 1) → ((99 < v1 → (q (aI (-2)) M)) ∧ (¬ (99 < v1) → ((v2 < 0 → (q (aI (-2)) M)) ∧ (¬ (v2 < 0) → ((99 < v2 → (q (aI (-2)) M)) ∧ (¬ (99 < v2) → ((v3 < 0 → (q (aI (-2)) M)) ∧ (¬ (v3 < 0) → ((v3 ≤ 99 → ((-2147483648 ≤ v2 * v1 ∧ v2 * v1 < 2147483648) ∧ (∀ x7 : Int, x7 = v2 * v1 → (am_R K11_counts q 45 [aJ, aI v1, aI v2, aI v3, aI 1, aI x7, aI 2, aJ] [] M)))) ∧ (¬ (v3 ≤ 99) → (q (aI (-2)) M))))))))))))) : S11_counts [aR 0, aI v1, aI v2, aI v3] M q := by
  refine am_S.intro rfl rfl ?_
  refine s_iload 0 rfl rfl ?_
  refine s_push 1 rfl ?_
  refine s_ic 2 rfl (fun h1 => ?_) (fun h1 => ?_)
  · refine s_push 16 rfl ?_
    exact s_iret 17 rfl (h.1 h1)
  · refine s_iload 3 rfl rfl ?_
    refine s_push 4 rfl ?_
    refine s_ic 5 rfl (fun h2 => ?_) (fun h2 => ?_)
    · refine s_push 16 rfl ?_
      exact s_iret 17 rfl ((h.2 h1).1 h2)
    · refine s_iload 6 rfl rfl ?_
      refine s_if 7 rfl (fun h3 => ?_) (fun h3 => ?_)
      · refine s_push 16 rfl ?_
        exact s_iret 17 rfl (((h.2 h1).2 h2).1 h3)
      · refine s_iload 8 rfl rfl ?_
        refine s_push 9 rfl ?_
        refine s_ic 10 rfl (fun h4 => ?_) (fun h4 => ?_)
        · refine s_push 16 rfl ?_
          exact s_iret 17 rfl ((((h.2 h1).2 h2).2 h3).1 h4)
        · refine s_iload 11 rfl rfl ?_
          refine s_if 12 rfl (fun h5 => ?_) (fun h5 => ?_)
          · refine s_push 16 rfl ?_
            exact s_iret 17 rfl (((((h.2 h1).2 h2).2 h3).2 h4).1 h5)
          · refine s_iload 13 rfl rfl ?_
            refine s_push 14 rfl ?_
            refine s_ic 15 rfl (fun h6 => ?_) (fun h6 => ?_)
            · refine s_push 18 rfl ?_
              refine s_istore [aR 0, aI v1, aI v2, aI v3, aI 1, aJ, aJ, aJ] 19 rfl rfl ?_
              refine s_iload 20 rfl rfl ?_
              refine s_iload 21 rfl rfl ?_
              refine s_binX (v := v2 * v1) 22 rfl ((((((h.2 h1).2 h2).2 h3).2 h4).2 h5).1 h6).1 rfl ?_
              refine s_nameI (fun x7 ex7 => ?_)
              refine s_istore [aR 0, aI v1, aI v2, aI v3, aI 1, aI x7, aJ, aJ] 23 rfl rfl ?_
              refine s_push 24 rfl ?_
              refine s_istore [aR 0, aI v1, aI v2, aI v3, aI 1, aI x7, aI 2, aJ] 25 rfl rfl ?_
              exact am_R.jk (ls := [aJ, aI v1, aI v2, aI v3, aI 1, aI x7, aI 2, aJ]) ⟨Or.inl rfl, Or.inr rfl, Or.inr rfl, Or.inr rfl, Or.inr rfl, Or.inr rfl, Or.inr rfl, Or.inr rfl, trivial⟩ (((((((h.2 h1).2 h2).2 h3).2 h4).2 h5).1 h6).2 x7 ex7)
            · refine s_push 16 rfl ?_
              exact s_iret 17 rfl ((((((h.2 h1).2 h2).2 h3).2 h4).2 h5).2 h6)
theorem g11_counts_45 {q : am_Q} {M : am_M} {v1 v2 v3 v4 v5 v6 : Int} (h : (60 < v6 → (q (aI v4) M)) ∧ (¬ (60 < v6) → ((-2147483648 ≤ v1 + v6 ∧ v1 + v6 < 2147483648) ∧ ((-2147483648 ≤ (v1 + v6) - 1 ∧ (v1 + v6) - 1 < 2147483648) ∧ ((0 ≤ (v1 + v6) - 1 ∧ 0 < v6) ∧ ((-2147483648 ≤ v2 * (((v1 + v6) - 1) / v6) ∧ v2 * (((v1 + v6) - 1) / v6) < 2147483648) ∧ ((-2147483648 ≤ v6 - 1 ∧ v6 - 1 < 2147483648) ∧ ((-2147483648 ≤ v3 * (v6 - 1) ∧ v3 * (v6 - 1) < 2147483648) ∧ ((-2147483648 ≤ (v2 * (((v1 + v6) - 1) / v6)) + (v3 * (v6 - 1)) ∧ (v2 * (((v1 + v6) - 1) / v6)) + (v3 * (v6 - 1)) < 2147483648) ∧ (∀ x2 : Int, x2 = (v2 * (((v1 + v6) - 1) / v6)) + (v3 * (v6 - 1)) → (∀ x4 : Int, x4 = (if v5 ≤ x2 then v4 else v6) → (∀ x5 : Int, x5 = (if v5 ≤ x2 then v5 else x2) → ((-2147483648 ≤ v6 + 1 ∧ v6 + 1 < 2147483648) ∧ (am_R K11_counts q 45 [aJ, aI v1, aI v2, aI v3, aI x4, aI x5, aI (v6 + 1), aJ] [] M)))))))))))))) : am_R K11_counts q 45 [aJ, aI v1, aI v2, aI v3, aI v4, aI v5, aI v6, aJ] [] M := by
  refine s_iload 26 rfl rfl ?_
  refine s_push 27 rfl ?_
  refine s_ic 28 rfl (fun h1 => ?_) (fun h1 => ?_)
  · refine s_iload 54 rfl rfl ?_
    exact s_iret 55 rfl (h.1 h1)
  · refine s_iload 29 rfl rfl ?_
    refine s_iload 30 rfl rfl ?_
    refine s_iload 31 rfl rfl ?_
    refine s_binX (v := v1 + v6) 32 rfl (h.2 h1).1 rfl ?_
    refine s_push 33 rfl ?_
    refine s_binX (v := (v1 + v6) - 1) 34 rfl (h.2 h1).2.1 rfl ?_
    refine s_iload 35 rfl rfl ?_
    refine s_idiv 36 rfl (h.2 h1).2.2.1 ?_
    refine s_binX (v := v2 * (((v1 + v6) - 1) / v6)) 37 rfl (h.2 h1).2.2.2.1 rfl ?_
    refine s_iload 38 rfl rfl ?_
    refine s_iload 39 rfl rfl ?_
    refine s_push 40 rfl ?_
    refine s_binX (v := v6 - 1) 41 rfl (h.2 h1).2.2.2.2.1 rfl ?_
    refine s_binX (v := v3 * (v6 - 1)) 42 rfl (h.2 h1).2.2.2.2.2.1 rfl ?_
    refine s_binX (v := (v2 * (((v1 + v6) - 1) / v6)) + (v3 * (v6 - 1))) 43 rfl (h.2 h1).2.2.2.2.2.2.1 rfl ?_
    refine s_nameI (fun x2 ex2 => ?_)
    refine s_istore [aJ, aI v1, aI v2, aI v3, aI v4, aI v5, aI v6, aI x2] 44 rfl rfl ?_
    refine s_iload 45 rfl rfl ?_
    refine s_iload 46 rfl rfl ?_
    have j6 : ∀ (x4 : Int) (ex4 : x4 = (if v5 ≤ x2 then v4 else v6)) (x5 : Int) (ex5 : x5 = (if v5 ≤ x2 then v5 else x2)), am_R K11_counts q 87 [aJ, aI v1, aI v2, aI v3, aI x4, aI x5, aI v6, aI x2] [] M := by
      intro x4 ex4 x5 ex5
      refine s_iinc [aJ, aI v1, aI v2, aI v3, aI x4, aI x5, aI (v6 + 1), aI x2] 52 rfl rfl (((h.2 h1).2.2.2.2.2.2.2 x2 ex2) x4 ex4 x5 ex5).1 rfl ?_
      refine s_goto 53 rfl ?_
      exact am_R.jk (ls := [aJ, aI v1, aI v2, aI v3, aI x4, aI x5, aI (v6 + 1), aJ]) ⟨Or.inr rfl, Or.inr rfl, Or.inr rfl, Or.inr rfl, Or.inr rfl, Or.inr rfl, Or.inr rfl, Or.inl rfl, trivial⟩ (((h.2 h1).2.2.2.2.2.2.2 x2 ex2) x4 ex4 x5 ex5).2
    refine s_ic 47 rfl (fun h3 => ?_) (fun h3 => ?_)
    · exact j6 _ (by rw [if_pos h3]) _ (by rw [if_pos h3])
    · refine s_iload 48 rfl rfl ?_
      refine s_istore [aJ, aI v1, aI v2, aI v3, aI v6, aI v5, aI v6, aI x2] 49 rfl rfl ?_
      refine s_iload 50 rfl rfl ?_
      refine s_istore [aJ, aI v1, aI v2, aI v3, aI v6, aI x2, aI v6, aI x2] 51 rfl rfl ?_
      exact j6 _ (by rw [if_neg h3]) _ (by rw [if_neg h3])
theorem e11_textOf {q : am_Q} {M : am_M} {v1 : Int} (h : (v1 = 0 → (q (aR 1) M)) ∧ (¬ (v1 = 0) → ((v1 = 1 → (q (aR 3) M)) ∧ (¬ (v1 = 1) → ((v1 = 2 → (q (aR 5) M)) ∧ (¬ (v1 = 2) → (q (aN) M))))))) : S11_textOf [aR 0, aI v1] M q := by
  refine am_S.intro rfl rfl ?_
  refine s_iload 0 rfl rfl ?_
  rcases Classical.em (v1 = 0) with h1 | h1
  · refine s_tsw 1 rfl (tg_eq (m := 28) (by rw [h1]; decide) ?_)
    refine s_aload 2 rfl rfl ?_
    refine s_getR 1 3 rfl rfl ?_
    exact s_aret 4 rfl (h.1 h1)
  · rcases Classical.em (v1 = 1) with h2 | h2
    · refine s_tsw 1 rfl (tg_eq (m := 33) (by rw [h2]; decide) ?_)
      refine s_aload 5 rfl rfl ?_
      refine s_getR 3 6 rfl rfl ?_
      exact s_aret 7 rfl ((h.2 h1).1 h2)
    · rcases Classical.em (v1 = 2) with h3 | h3
      · refine s_tsw 1 rfl (tg_eq (m := 38) (by rw [h3]; decide) ?_)
        refine s_aload 8 rfl rfl ?_
        refine s_getR 5 9 rfl rfl ?_
        exact s_aret 10 rfl (((h.2 h1).2 h2).1 h3)
      · refine s_tsw 1 rfl (tg_eq (m := 43) (by unfold am_tgt; rw [if_pos (by omega)]) ?_)
        refine s_push 11 rfl ?_
        exact s_aret 12 rfl (((h.2 h1).2 h2).2 h3)
theorem e11_fault {q : am_Q} {M : am_M} {v1 : Int} (h : (0 ≤ v1 ∧ v1 < 3 → (q (aI (M (1 + 2 * v1.toNat) 3)) M)) ∧ (¬ (0 ≤ v1 ∧ v1 < 3) → (q (aI (-2)) M))) : S11_fault [aR 0, aI v1] M q := by
  refine am_S.intro rfl rfl ?_
  refine s_aload 0 rfl rfl ?_
  refine s_iload 1 rfl rfl ?_
  refine s_callv (o := 0) 2 rfl rfl rfl rfl rfl (ct_11_textOf (fun h1 => ?_) (fun h1 => ?_))
  · have hs2 : tx (1 + 2 * v1.toNat) := tx_of h1
    show am_R K11_fault q 5 [aR 0, aI v1, aJ] [aR (1 + 2 * v1.toNat)] M
    refine s_astore [aR 0, aI v1, aR (1 + 2 * v1.toNat)] 3 rfl rfl ?_
    refine s_aload 4 rfl rfl ?_
    refine s_nulR 5 rfl ?_
    refine s_aload 8 rfl rfl ?_
    refine s_getI (v := M (1 + 2 * v1.toNat) 3) 9 rfl (tx_3 hs2) rfl ?_
    exact s_iret 10 rfl (h.1 h1)
  · show am_R K11_fault q 5 [aR 0, aI v1, aJ] [aN] M
    refine s_astore [aR 0, aI v1, aN] 3 rfl rfl ?_
    refine s_aload 4 rfl rfl ?_
    refine s_nulN 5 rfl ?_
    refine s_push 6 rfl ?_
    refine s_goto 7 rfl ?_
    exact s_iret 10 rfl (h.2 h1)
theorem e3_looseness {q : am_Q} {M : am_M}  (h : am_R K3_looseness q 4 [aR 15, aI 0, aI 0] [] M) : S3_looseness [aR 15] M q := by
  refine am_S.intro rfl rfl ?_
  refine s_push 0 rfl ?_
  refine s_istore [aR 15, aI 0, aJ] 1 rfl rfl ?_
  refine s_push 2 rfl ?_
  refine s_istore [aR 15, aI 0, aI 0] 3 rfl rfl ?_
  exact h
theorem g3_looseness_4 {q : am_Q} {M : am_M} {v1 v2 : Int} (h : (ob_3_joints (M 15)) ∧ ((f_3_joints (M 15) ≤ v2 → (q (aI v1) M)) ∧ (¬ (f_3_joints (M 15) ≤ v2) → ((ob_3_gripOfJoint (M 16) (M 15) (M 19) v2) ∧ ((-2147483648 ≤ 16 - (f_3_gripOfJoint (M 16) (M 15) (M 19) v2) ∧ 16 - (f_3_gripOfJoint (M 16) (M 15) (M 19) v2) < 2147483648) ∧ ((-2147483648 ≤ v1 + (16 - (f_3_gripOfJoint (M 16) (M 15) (M 19) v2)) ∧ v1 + (16 - (f_3_gripOfJoint (M 16) (M 15) (M 19) v2)) < 2147483648) ∧ (∀ x2 : Int, x2 = v1 + (16 - (f_3_gripOfJoint (M 16) (M 15) (M 19) v2)) → ((-2147483648 ≤ v2 + 1 ∧ v2 + 1 < 2147483648) ∧ (am_R K3_looseness q 4 [aR 15, aI x2, aI (v2 + 1)] [] M))))))))) : am_R K3_looseness q 4 [aR 15, aI v1, aI v2] [] M := by
  refine s_iload 4 rfl rfl ?_
  refine s_aload 5 rfl rfl ?_
  refine s_callv (o := 15) 6 rfl rfl rfl rfl rfl (ct_3_joints h.1 ?_)
  show am_R K3_looseness q 9 [aR 15, aI v1, aI v2] [aI (f_3_joints (M 15)), aI v2] M
  refine s_ic 7 rfl (fun h1 => ?_) (fun h1 => ?_)
  · refine s_iload 18 rfl rfl ?_
    exact s_iret 19 rfl (h.2.1 h1)
  · refine s_iload 8 rfl rfl ?_
    refine s_push 9 rfl ?_
    refine s_aload 10 rfl rfl ?_
    refine s_iload 11 rfl rfl ?_
    refine s_callv (o := 15) 12 rfl rfl rfl rfl rfl (ct_3_gripOfJoint (h.2.2 h1).1 ?_)
    show am_R K3_looseness q 20 [aR 15, aI v1, aI v2] [aI (f_3_gripOfJoint (M 16) (M 15) (M 19) v2), aI 16, aI v1] M
    refine s_binX (v := 16 - (f_3_gripOfJoint (M 16) (M 15) (M 19) v2)) 13 rfl (h.2.2 h1).2.1 rfl ?_
    refine s_binX (v := v1 + (16 - (f_3_gripOfJoint (M 16) (M 15) (M 19) v2))) 14 rfl (h.2.2 h1).2.2.1 rfl ?_
    refine s_nameI (fun x2 ex2 => ?_)
    refine s_istore [aR 15, aI x2, aI v2] 15 rfl rfl ?_
    refine s_iinc [aR 15, aI x2, aI (v2 + 1)] 16 rfl rfl ((h.2.2 h1).2.2.2 x2 ex2).1 rfl ?_
    refine s_goto 17 rfl ?_
    exact ((h.2.2 h1).2.2.2 x2 ex2).2
theorem e11_loose {q : am_Q} {M : am_M}  (h : S3_looseness [aR 15] M (fun r2 M1 => ∃ x3 : Int, r2 = aI x3 ∧ (q (aI x3) M1))) : S11_loose [aR 0] M q := by
  refine am_S.intro rfl rfl ?_
  refine s_aload 0 rfl rfl ?_
  refine s_getR 15 1 rfl rfl ?_
  refine s_callv (o := 15) 2 rfl rfl rfl rfl rfl (am_S.mono h ?_)
  rintro r2 M1 ⟨x3, rfl, g4⟩
  show am_R K11_loose q 7 [aR 0] [aI x3] M1
  exact s_iret 3 rfl g4
theorem e11_risk {q : am_Q} {M : am_M}  (h : am_R K11_risk q 4 [aR 0, aI 0, aI 0] [] M) : S11_risk [aR 0] M q := by
  refine am_S.intro rfl rfl ?_
  refine s_push 0 rfl ?_
  refine s_istore [aR 0, aI 0, aJ] 1 rfl rfl ?_
  refine s_push 2 rfl ?_
  refine s_istore [aR 0, aI 0, aI 0] 3 rfl rfl ?_
  exact h
theorem g11_risk_4 {q : am_Q} {M : am_M} {v1 v2 : Int} (h : (M 20 4 ≤ v2 → (S3_looseness [aR 15] M (fun r3 M2 => ∃ x4 : Int, r3 = aI x4 ∧ ((-2147483648 ≤ v1 * x4 ∧ v1 * x4 < 2147483648) ∧ (q (aI (v1 * x4)) M2))))) ∧ (¬ (M 20 4 ≤ v2) → ((ob_11_densityOfStep (M 8) (M 20) (M 22) v2) ∧ ((-2147483648 ≤ v1 + (f_11_densityOfStep (M 8) (M 20) (M 22) v2) ∧ v1 + (f_11_densityOfStep (M 8) (M 20) (M 22) v2) < 2147483648) ∧ (∀ x6 : Int, x6 = v1 + (f_11_densityOfStep (M 8) (M 20) (M 22) v2) → ((-2147483648 ≤ v2 + 1 ∧ v2 + 1 < 2147483648) ∧ (am_R K11_risk q 4 [aR 0, aI x6, aI (v2 + 1)] [] M))))))) : am_R K11_risk q 4 [aR 0, aI v1, aI v2] [] M := by
  refine s_iload 4 rfl rfl ?_
  refine s_aload 5 rfl rfl ?_
  refine s_getR 20 6 rfl rfl ?_
  refine s_getI (v := M 20 4) 7 rfl rfl rfl ?_
  refine s_ic 8 rfl (fun h1 => ?_) (fun h1 => ?_)
  · refine s_iload 17 rfl rfl ?_
    refine s_aload 18 rfl rfl ?_
    refine s_getR 15 19 rfl rfl ?_
    refine s_callv (o := 15) 20 rfl rfl rfl rfl rfl (am_S.mono (h.1 h1) ?_)
    rintro r3 M2 ⟨x4, rfl, g5⟩
    show am_R K11_risk q 37 [aR 0, aI v1, aI v2] [aI x4, aI v1] M2
    refine s_binX (v := v1 * x4) 21 rfl g5.1 rfl ?_
    exact s_iret 22 rfl g5.2
  · refine s_iload 9 rfl rfl ?_
    refine s_aload 10 rfl rfl ?_
    refine s_iload 11 rfl rfl ?_
    refine s_callv (o := 0) 12 rfl rfl rfl rfl rfl (ct_11_densityOfStep (h.2 h1).1 ?_)
    show am_R K11_risk q 21 [aR 0, aI v1, aI v2] [aI (f_11_densityOfStep (M 8) (M 20) (M 22) v2), aI v1] M
    refine s_binX (v := v1 + (f_11_densityOfStep (M 8) (M 20) (M 22) v2)) 13 rfl (h.2 h1).2.1 rfl ?_
    refine s_nameI (fun x6 ex6 => ?_)
    refine s_istore [aR 0, aI x6, aI v2] 14 rfl rfl ?_
    refine s_iinc [aR 0, aI x6, aI (v2 + 1)] 15 rfl rfl ((h.2 h1).2.2 x6 ex6).1 rfl ?_
    refine s_goto 16 rfl ?_
    exact ((h.2 h1).2.2 x6 ex6).2
theorem e11_seek {q : am_Q} {M : am_M} {v1 : Int} {v2 : Int} (h : (¬ (v1 < 0) ∧ ¬ (5 ≤ v1) → ((v2 < (-2) → (q (aL (f_11_refused (-2))) M)) ∧ (¬ (v2 < (-2)) → ((v2 < 5 → (S11_canSeek [aR 0, aI v1, aI v1] M (fun r5 M4 => ∃ x6 : Int, r5 = aI x6 ∧ ((x6 = 0 → (q (aL (f_11_refused (-3))) M4)) ∧ (¬ (x6 = 0) → ((ob_4_asBits (M4 27)) ∧ (∀ x9 : Int, x9 = f_4_asBits (M4 27) → (S6_solve [aR 30, aI x9] M4 (fun _ M10 => (v2 < 0 → (S4_weightOf [aR 27, aI x9] M10 (fun r16 M15 => ∃ x17 : Int, r16 = aI x17 ∧ ((-2147483648 ≤ v2 + 2 ∧ v2 + 2 < 2147483648) ∧ (S11_lowest [aL (f_6_leastFrom (M10 33) 5 x9), aL x17, aI (v2 + 2)] M15 (fun r20 M19 => ∃ x21 : Int, r20 = aL x21 ∧ (q (aL x21) M19))))))) ∧ (¬ (v2 < 0) → (S6_stopAt [aR 30, aI x9, aI v2] M10 (fun r24 M23 => ∃ x25 : Int, r24 = aI x25 ∧ (q (aL x25) M23))))))))))))) ∧ (¬ (v2 < 5) → (q (aL (f_11_refused (-2))) M)))))) ∧ (¬ (¬ (v1 < 0) ∧ ¬ (5 ≤ v1)) → (q (aL (f_11_refused (-2))) M))) : S11_seek [aR 0, aI v1, aI v2] M q := by
  refine am_S.intro rfl rfl ?_
  refine s_iload 0 rfl rfl ?_
  refine s_call 1 rfl rfl rfl rfl rfl (ct_3_isPerson ?_)
  show am_R K11_seek q 4 [aR 0, aI v1, aI v2, aJ] [aI (if ¬ (v1 < 0) ∧ ¬ (5 ≤ v1) then 1 else 0)] M
  refine s_ifeqB 2 rfl (fun h1 => ?_) (fun h1 => ?_)
  · refine s_push 9 rfl ?_
    refine s_call 10 rfl rfl rfl rfl rfl (ct_11_refused ?_)
    show am_R K11_seek q 23 [aR 0, aI v1, aI v2, aJ] [aL (f_11_refused (-2))] M
    exact s_lret 11 rfl (h.2 h1)
  · refine s_iload 3 rfl rfl ?_
    refine s_push 4 rfl ?_
    refine s_ic 5 rfl (fun h2 => ?_) (fun h2 => ?_)
    · refine s_push 9 rfl ?_
      refine s_call 10 rfl rfl rfl rfl rfl (ct_11_refused ?_)
      show am_R K11_seek q 23 [aR 0, aI v1, aI v2, aJ] [aL (f_11_refused (-2))] M
      exact s_lret 11 rfl ((h.1 h1).1 h2)
    · refine s_iload 6 rfl rfl ?_
      refine s_push 7 rfl ?_
      refine s_ic 8 rfl (fun h3 => ?_) (fun h3 => ?_)
      · refine s_aload 12 rfl rfl ?_
        refine s_iload 13 rfl rfl ?_
        refine s_iload 14 rfl rfl ?_
        refine s_callv (o := 0) 15 rfl rfl rfl rfl rfl (am_S.mono (((h.1 h1).2 h2).1 h3) ?_)
        rintro r5 M4 ⟨x6, rfl, g7⟩
        show am_R K11_seek q 30 [aR 0, aI v1, aI v2, aJ] [aI x6] M4
        refine s_ifne 16 rfl (fun h8 => ?_) (fun h8 => ?_)
        · refine s_aload 20 rfl rfl ?_
          refine s_getR 27 21 rfl rfl ?_
          refine s_callv (o := 27) 22 rfl rfl rfl rfl rfl (ct_4_asBits (g7.2 h8).1 ?_)
          show am_R K11_seek q 46 [aR 0, aI v1, aI v2, aJ] [aI (f_4_asBits (M4 27))] M4
          refine s_nameI (fun x9 ex9 => ?_)
          refine s_istore [aR 0, aI v1, aI v2, aI x9] 23 rfl rfl ?_
          refine s_aload 24 rfl rfl ?_
          refine s_getR 30 25 rfl rfl ?_
          refine s_iload 26 rfl rfl ?_
          refine s_callv (o := 30) 27 rfl rfl rfl rfl rfl (am_S.mono ((g7.2 h8).2 x9 ex9) ?_)
          intro r11 M10 g13
          show am_R K11_seek q 55 [aR 0, aI v1, aI v2, aI x9] [] M10
          refine s_iload 28 rfl rfl ?_
          refine s_if 29 rfl (fun h14 => ?_) (fun h14 => ?_)
          · refine s_aload 37 rfl rfl ?_
            refine s_getR 30 38 rfl rfl ?_
            refine s_push 39 rfl ?_
            refine s_iload 40 rfl rfl ?_
            refine s_callv (o := 30) 41 rfl rfl rfl rfl rfl (ct_6_leastFrom ?_)
            show am_R K11_seek q 79 [aR 0, aI v1, aI v2, aI x9] [aI (f_6_leastFrom (M10 33) 5 x9)] M10
            refine s_i2l 42 rfl ?_
            refine s_aload 43 rfl rfl ?_
            refine s_getR 27 44 rfl rfl ?_
            refine s_iload 45 rfl rfl ?_
            refine s_callv (o := 27) 46 rfl rfl rfl rfl rfl (am_S.mono (g13.1 h14) ?_)
            rintro r16 M15 ⟨x17, rfl, g18⟩
            show am_R K11_seek q 88 [aR 0, aI v1, aI v2, aI x9] [aI x17, aL (f_6_leastFrom (M10 33) 5 x9)] M15
            refine s_i2l 47 rfl ?_
            refine s_iload 48 rfl rfl ?_
            refine s_push 49 rfl ?_
            refine s_binX (v := v2 + 2) 50 rfl g18.1 rfl ?_
            refine s_call 51 rfl rfl rfl rfl rfl (am_S.mono g18.2 ?_)
            rintro r20 M19 ⟨x21, rfl, g22⟩
            show am_R K11_seek q 95 [aR 0, aI v1, aI v2, aI x9] [aL x21] M19
            exact s_lret 52 rfl g22
          · refine s_aload 30 rfl rfl ?_
            refine s_getR 30 31 rfl rfl ?_
            refine s_iload 32 rfl rfl ?_
            refine s_iload 33 rfl rfl ?_
            refine s_callv (o := 30) 34 rfl rfl rfl rfl rfl (am_S.mono (g13.2 h14) ?_)
            rintro r24 M23 ⟨x25, rfl, g26⟩
            show am_R K11_seek q 68 [aR 0, aI v1, aI v2, aI x9] [aI x25] M23
            refine s_i2l 35 rfl ?_
            exact s_lret 36 rfl g26
        · refine s_push 17 rfl ?_
          refine s_call 18 rfl rfl rfl rfl rfl (ct_11_refused ?_)
          show am_R K11_seek q 38 [aR 0, aI v1, aI v2, aJ] [aL (f_11_refused (-3))] M4
          exact s_lret 19 rfl (g7.1 h8)
      · refine s_push 9 rfl ?_
        refine s_call 10 rfl rfl rfl rfl rfl (ct_11_refused ?_)
        show am_R K11_seek q 23 [aR 0, aI v1, aI v2, aJ] [aL (f_11_refused (-2))] M
        exact s_lret 11 rfl (((h.1 h1).2 h2).2 h3)
theorem e11_withPersons {q : am_Q} {M : am_M} {v1 : Int} (h : am_R K11_withPersons q 5 [aR 0, aJ, aJ, aL v1, aJ, aI 0, aJ] [] M) : S11_withPersons [aR 0, aL v1] M q := by
  refine am_S.intro rfl rfl ?_
  refine s_lload 0 rfl rfl ?_
  refine s_lstore [aR 0, aL v1, aJ, aL v1, aJ, aJ, aJ] 1 rfl rfl ?_
  refine s_push 2 rfl ?_
  refine s_istore [aR 0, aL v1, aJ, aL v1, aJ, aI 0, aJ] 3 rfl rfl ?_
  exact am_R.jk (ls := [aR 0, aJ, aJ, aL v1, aJ, aI 0, aJ]) ⟨Or.inr rfl, Or.inl rfl, Or.inr rfl, Or.inr rfl, Or.inr rfl, Or.inr rfl, Or.inr rfl, trivial⟩ h
theorem g11_withPersons_5 {q : am_Q} {M : am_M} {v3 v5 : Int} (h : (5 ≤ v5 → (q (aL v3) M)) ∧ (¬ (5 ≤ v5) → (∀ x2 : Int, x2 = w64 ((w64 (31 * v3)) + (f_11_order (M 15) (M 19) v5)) → (am_R K11_withPersons q 29 [aR 0, aJ, aJ, aL x2, aJ, aI v5, aI (-2)] [] M)))) : am_R K11_withPersons q 5 [aR 0, aJ, aJ, aL v3, aJ, aI v5, aJ] [] M := by
  refine s_iload 4 rfl rfl ?_
  refine s_push 5 rfl ?_
  refine s_ic 6 rfl (fun h1 => ?_) (fun h1 => ?_)
  · refine s_lload 33 rfl rfl ?_
    exact s_lret 34 rfl (h.1 h1)
  · refine s_push 7 rfl ?_
    refine s_lload 8 rfl rfl ?_
    refine s_binL 9 rfl ?_
    refine s_aload 10 rfl rfl ?_
    refine s_iload 11 rfl rfl ?_
    refine s_callv (o := 0) 12 rfl rfl rfl rfl rfl (ct_11_order ?_)
    show am_R K11_withPersons q 22 [aR 0, aJ, aJ, aL v3, aJ, aI v5, aJ] [aI (f_11_order (M 15) (M 19) v5), aL (w64 (31 * v3))] M
    refine s_i2l 13 rfl ?_
    refine s_binL 14 rfl ?_
    refine s_nameL (fun x2 ex2 => ?_)
    refine s_lstore [aR 0, aJ, aJ, aL x2, aJ, aI v5, aJ] 15 rfl rfl ?_
    refine s_push 16 rfl ?_
    refine s_istore [aR 0, aJ, aJ, aL x2, aJ, aI v5, aI (-2)] 17 rfl rfl ?_
    exact ((h.2 h1) x2 ex2)
theorem g11_withPersons_29 {q : am_Q} {M : am_M} {v3 v5 v6 : Int} (h : (0 < v6 → ((-2147483648 ≤ v5 + 1 ∧ v5 + 1 < 2147483648) ∧ (am_R K11_withPersons q 5 [aR 0, aJ, aJ, aL v3, aJ, aI (v5 + 1), aJ] [] M))) ∧ (¬ (0 < v6) → (S11_seek [aR 0, aI v5, aI v6] M (fun r3 M2 => ∃ x4 : Int, r3 = aL x4 ∧ (∀ x6 : Int, x6 = w64 ((w64 (31 * v3)) + x4) → ((-2147483648 ≤ v6 + 1 ∧ v6 + 1 < 2147483648) ∧ (am_R K11_withPersons q 29 [aR 0, aJ, aJ, aL x6, aJ, aI v5, aI (v6 + 1)] [] M2))))))) : am_R K11_withPersons q 29 [aR 0, aJ, aJ, aL v3, aJ, aI v5, aI v6] [] M := by
  refine s_iload 18 rfl rfl ?_
  refine s_if 19 rfl (fun h1 => ?_) (fun h1 => ?_)
  · refine s_iinc [aR 0, aJ, aJ, aL v3, aJ, aI (v5 + 1), aI v6] 31 rfl rfl (h.1 h1).1 rfl ?_
    refine s_goto 32 rfl ?_
    exact am_R.jk (ls := [aR 0, aJ, aJ, aL v3, aJ, aI (v5 + 1), aJ]) ⟨Or.inr rfl, Or.inr rfl, Or.inr rfl, Or.inr rfl, Or.inr rfl, Or.inr rfl, Or.inl rfl, trivial⟩ (h.1 h1).2
  · refine s_push 20 rfl ?_
    refine s_lload 21 rfl rfl ?_
    refine s_binL 22 rfl ?_
    refine s_aload 23 rfl rfl ?_
    refine s_iload 24 rfl rfl ?_
    refine s_iload 25 rfl rfl ?_
    refine s_callv (o := 0) 26 rfl rfl rfl rfl rfl (am_S.mono (h.2 h1) ?_)
    rintro r3 M2 ⟨x4, rfl, g5⟩
    show am_R K11_withPersons q 47 [aR 0, aJ, aJ, aL v3, aJ, aI v5, aI v6] [aL x4, aL (w64 (31 * v3))] M2
    refine s_binL 27 rfl ?_
    refine s_nameL (fun x6 ex6 => ?_)
    refine s_lstore [aR 0, aJ, aJ, aL x6, aJ, aI v5, aI v6] 28 rfl rfl ?_
    refine s_iinc [aR 0, aJ, aJ, aL x6, aJ, aI v5, aI (v6 + 1)] 29 rfl rfl (g5 x6 ex6).1 rfl ?_
    refine s_goto 30 rfl ?_
    exact (g5 x6 ex6).2
theorem e11_near {q : am_Q} {M : am_M} {v1 : Int} {v2 : Int} (h : (¬ (v1 < 0) ∧ (¬ (64 ≤ v1) ∧ ¬ ((M 8) (v1.toNat) = (-1))) → ((¬ (v2 < 0) ∧ (¬ (64 ≤ v2) ∧ ¬ ((M 8) (v2.toNat) = (-1))) → (S0_measureFrom [aR 10, aI v1] M (fun _ M3 => q (aI (f_0_stepsTo (M3 11) v2)) M3))) ∧ (¬ (¬ (v2 < 0) ∧ (¬ (64 ≤ v2) ∧ ¬ ((M 8) (v2.toNat) = (-1)))) → (q (aI (-2)) M)))) ∧ (¬ (¬ (v1 < 0) ∧ (¬ (64 ≤ v1) ∧ ¬ ((M 8) (v1.toNat) = (-1)))) → (q (aI (-2)) M))) : S11_near [aR 0, aI v1, aI v2] M q := by
  refine am_S.intro rfl rfl ?_
  refine s_aload 0 rfl rfl ?_
  refine s_getR 7 1 rfl rfl ?_
  refine s_iload 2 rfl rfl ?_
  refine s_callv (o := 7) 3 rfl rfl rfl rfl rfl (ct_2_isPlace ?_)
  show am_R K11_near q 8 [aR 0, aI v1, aI v2] [aI (if ¬ (v1 < 0) ∧ (¬ (64 ≤ v1) ∧ ¬ ((M 8) (v1.toNat) = (-1))) then 1 else 0)] M
  refine s_ifeqB 4 rfl (fun h1 => ?_) (fun h1 => ?_)
  · refine s_push 10 rfl ?_
    exact s_iret 11 rfl (h.2 h1)
  · refine s_aload 5 rfl rfl ?_
    refine s_getR 7 6 rfl rfl ?_
    refine s_iload 7 rfl rfl ?_
    refine s_callv (o := 7) 8 rfl rfl rfl rfl rfl (ct_2_isPlace ?_)
    show am_R K11_near q 19 [aR 0, aI v1, aI v2] [aI (if ¬ (v2 < 0) ∧ (¬ (64 ≤ v2) ∧ ¬ ((M 8) (v2.toNat) = (-1))) then 1 else 0)] M
    refine s_ifneB 9 rfl (fun h2 => ?_) (fun h2 => ?_)
    · refine s_aload 12 rfl rfl ?_
      refine s_getR 10 13 rfl rfl ?_
      refine s_iload 14 rfl rfl ?_
      refine s_callv (o := 10) 15 rfl rfl rfl rfl rfl (am_S.mono ((h.1 h1).1 h2) ?_)
      intro r4 M3 g6
      show am_R K11_near q 33 [aR 0, aI v1, aI v2] [] M3
      refine s_aload 16 rfl rfl ?_
      refine s_getR 10 17 rfl rfl ?_
      refine s_iload 18 rfl rfl ?_
      refine s_callv (o := 10) 19 rfl rfl rfl rfl rfl (ct_0_stepsTo ?_)
      show am_R K11_near q 41 [aR 0, aI v1, aI v2] [aI (f_0_stepsTo (M3 11) v2)] M3
      exact s_iret 20 rfl g6
    · refine s_push 10 rfl ?_
      exact s_iret 11 rfl ((h.1 h1).2 h2)
theorem e1_cheapestOpen {q : am_Q} {M : am_M}  (h : am_R K1_cheapestOpen q 7 [aR 13, aI (-1), aI 1073741824, aI 0] [] M) : S1_cheapestOpen [aR 13] M q := by
  refine am_S.intro rfl rfl ?_
  refine s_push 0 rfl ?_
  refine s_istore [aR 13, aI (-1), aJ, aJ] 1 rfl rfl ?_
  refine s_push 2 rfl ?_
  refine s_istore [aR 13, aI (-1), aI 1073741824, aJ] 3 rfl rfl ?_
  refine s_push 4 rfl ?_
  refine s_istore [aR 13, aI (-1), aI 1073741824, aI 0] 5 rfl rfl ?_
  exact h
theorem g1_cheapestOpen_7 {q : am_Q} {M : am_M} {v1 v2 v3 : Int} (h : (64 ≤ v3 → (q (aI v1) M)) ∧ (¬ (64 ≤ v3) → ((0 ≤ v3 ∧ v3 < 64) ∧ (∀ x4 : Int, x4 = (if v2 ≤ M 14 (v3.toNat) then v1 else if (am_land (am_lushr (M 13 2) v3) 1) = 0 then v3 else v1) → (∀ x5 : Int, x5 = (if v2 ≤ M 14 (v3.toNat) then v2 else if (am_land (am_lushr (M 13 2) v3) 1) = 0 then M 14 (v3.toNat) else v2) → ((-2147483648 ≤ v3 + 1 ∧ v3 + 1 < 2147483648) ∧ (am_R K1_cheapestOpen q 7 [aR 13, aI x4, aI x5, aI (v3 + 1)] [] M))))))) : am_R K1_cheapestOpen q 7 [aR 13, aI v1, aI v2, aI v3] [] M := by
  refine s_iload 6 rfl rfl ?_
  refine s_push 7 rfl ?_
  refine s_ic 8 rfl (fun h1 => ?_) (fun h1 => ?_)
  · refine s_iload 33 rfl rfl ?_
    exact s_iret 34 rfl (h.1 h1)
  · refine s_aload 9 rfl rfl ?_
    refine s_getR 14 10 rfl rfl ?_
    refine s_iload 11 rfl rfl ?_
    refine s_iald (v := M 14 (v3.toNat)) 12 rfl rfl (h.2 h1).1 rfl ?_
    refine s_iload 13 rfl rfl ?_
    have j6 : ∀ (x4 : Int) (ex4 : x4 = (if v2 ≤ M 14 (v3.toNat) then v1 else if (am_land (am_lushr (M 13 2) v3) 1) = 0 then v3 else v1)) (x5 : Int) (ex5 : x5 = (if v2 ≤ M 14 (v3.toNat) then v2 else if (am_land (am_lushr (M 13 2) v3) 1) = 0 then M 14 (v3.toNat) else v2)), am_R K1_cheapestOpen q 45 [aR 13, aI x4, aI x5, aI v3] [] M := by
      intro x4 ex4 x5 ex5
      refine s_iinc [aR 13, aI x4, aI x5, aI (v3 + 1)] 31 rfl rfl ((h.2 h1).2 x4 ex4 x5 ex5).1 rfl ?_
      refine s_goto 32 rfl ?_
      exact ((h.2 h1).2 x4 ex4 x5 ex5).2
    refine s_ic 14 rfl (fun h2 => ?_) (fun h2 => ?_)
    · exact j6 _ (by rw [if_pos h2]) _ (by rw [if_pos h2])
    · refine s_aload 15 rfl rfl ?_
      refine s_getL (v := M 13 2) 16 rfl rfl rfl ?_
      refine s_iload 17 rfl rfl ?_
      refine s_shL 18 rfl (h.2 h1).1 ?_
      refine s_push 19 rfl ?_
      refine s_binL 20 rfl ?_
      refine s_push 21 rfl ?_
      refine s_lcmp 22 rfl ?_
      refine s_ifneX (d := (am_land (am_lushr (M 13 2) v3) 1) = 0) 23 rfl (cq_eq _ _) (fun h3 => ?_) (fun h3 => ?_)
      · exact j6 _ (by rw [if_neg h2, if_neg h3]) _ (by rw [if_neg h2, if_neg h3])
      · refine s_iload 24 rfl rfl ?_
        refine s_istore [aR 13, aI v3, aI v2, aI v3] 25 rfl rfl ?_
        refine s_aload 26 rfl rfl ?_
        refine s_getR 14 27 rfl rfl ?_
        refine s_iload 28 rfl rfl ?_
        refine s_iald (v := M 14 (v3.toNat)) 29 rfl rfl (h.2 h1).1 rfl ?_
        refine s_istore [aR 13, aI v3, aI (M 14 (v3.toNat)), aI v3] 30 rfl rfl ?_
        exact j6 _ (by rw [if_neg h2, if_pos h3]) _ (by rw [if_neg h2, if_pos h3])
theorem e1_measureTo {q : am_Q} {M : am_M} {v1 : Int} (h : SJ_fillI [aR 14, aI 1073741824] M (fun _ M1 => (¬ (v1 < 0) ∧ (¬ (64 ≤ v1) ∧ ¬ ((M1 8) (v1.toNat) = (-1))) → ((0 ≤ v1 ∧ v1 < 64) ∧ (am_R K1_measureTo q 34 [aR 13, aJ, aI 0, aJ, aJ, aJ, aJ] [] (am_up (am_up M1 13 2 0) 14 (v1.toNat) 0)))) ∧ (¬ (¬ (v1 < 0) ∧ (¬ (64 ≤ v1) ∧ ¬ ((M1 8) (v1.toNat) = (-1)))) → (am_R K1_measureTo q 34 [aR 13, aJ, aI 0, aJ, aJ, aJ, aJ] [] (am_up M1 13 2 0))))) : S1_measureTo [aR 13, aI v1] M q := by
  refine am_S.intro rfl rfl ?_
  refine s_aload 0 rfl rfl ?_
  refine s_getR 14 1 rfl rfl ?_
  refine s_push 2 rfl ?_
  refine s_call 3 rfl rfl rfl rfl rfl (am_S.mono h ?_)
  intro r2 M1 g4
  show am_R K1_measureTo q 9 [aR 13, aI v1, aJ, aJ, aJ, aJ, aJ] [] M1
  refine s_aload 4 rfl rfl ?_
  refine s_push 5 rfl ?_
  refine s_putL 6 rfl rfl ?_
  refine s_aload 7 rfl rfl ?_
  refine s_getR 7 8 rfl rfl ?_
  refine s_iload 9 rfl rfl ?_
  refine s_callv (o := 7) 10 rfl rfl rfl rfl rfl (ct_2_isPlace ?_)
  show am_R K1_measureTo q 22 [aR 13, aI v1, aJ, aJ, aJ, aJ, aJ] [aI (if ¬ (v1 < 0) ∧ (¬ (64 ≤ v1) ∧ ¬ ((M1 8) (v1.toNat) = (-1))) then 1 else 0)] (am_up M1 13 2 0)
  refine s_ifeqB 11 rfl (fun h5 => ?_) (fun h5 => ?_)
  · refine s_push 17 rfl ?_
    refine s_istore [aR 13, aI v1, aI 0, aJ, aJ, aJ, aJ] 18 rfl rfl ?_
    exact am_R.jk (ls := [aR 13, aJ, aI 0, aJ, aJ, aJ, aJ]) ⟨Or.inr rfl, Or.inl rfl, Or.inr rfl, Or.inr rfl, Or.inr rfl, Or.inr rfl, Or.inr rfl, trivial⟩ (g4.2 h5)
  · refine s_aload 12 rfl rfl ?_
    refine s_getR 14 13 rfl rfl ?_
    refine s_iload 14 rfl rfl ?_
    refine s_push 15 rfl ?_
    refine s_iast 16 rfl rfl (g4.1 h5).1 ?_
    refine s_push 17 rfl ?_
    refine s_istore [aR 13, aI v1, aI 0, aJ, aJ, aJ, aJ] 18 rfl rfl ?_
    exact am_R.jk (ls := [aR 13, aJ, aI 0, aJ, aJ, aJ, aJ]) ⟨Or.inr rfl, Or.inl rfl, Or.inr rfl, Or.inr rfl, Or.inr rfl, Or.inr rfl, Or.inr rfl, trivial⟩ (g4.1 h5).2
theorem g1_measureTo_34 {q : am_Q} {M : am_M} {v2 : Int} (h : (64 ≤ v2 → (q aJ M)) ∧ (¬ (64 ≤ v2) → (S1_cheapestOpen [aR 13] M (fun r3 M2 => ∃ x4 : Int, r3 = aI x4 ∧ ((¬ (x4 < 0) ∧ ¬ (64 ≤ x4) → ((0 ≤ x4 ∧ x4 < 64) ∧ (∀ x7 : Int, x7 = am_lor (M2 13 2) (am_lshl 1 x4) → ((ob_1_tollInto (M2 8) x4) ∧ ((-2147483648 ≤ (M2 14 (x4.toNat)) + (f_1_tollInto (M2 8) x4) ∧ (M2 14 (x4.toNat)) + (f_1_tollInto (M2 8) x4) < 2147483648) ∧ (∀ x8 : Int, x8 = (M2 14 (x4.toNat)) + (f_1_tollInto (M2 8) x4) → (am_R K1_measureTo q 82 [aR 13, aJ, aI v2, aI x4, aI x8, aI 0, aJ] [] (am_up M2 13 2 x7)))))))) ∧ (¬ (¬ (x4 < 0) ∧ ¬ (64 ≤ x4)) → (q aJ M2))))))) : am_R K1_measureTo q 34 [aR 13, aJ, aI v2, aJ, aJ, aJ, aJ] [] M := by
  refine s_iload 19 rfl rfl ?_
  refine s_push 20 rfl ?_
  refine s_ic 21 rfl (fun h1 => ?_) (fun h1 => ?_)
  · exact s_vret 75 rfl (h.1 h1)
  · refine s_aload 22 rfl rfl ?_
    refine s_callv (o := 13) 23 rfl rfl rfl rfl rfl (am_S.mono (h.2 h1) ?_)
    rintro r3 M2 ⟨x4, rfl, g5⟩
    show am_R K1_measureTo q 44 [aR 13, aJ, aI v2, aJ, aJ, aJ, aJ] [aI x4] M2
    refine s_istore [aR 13, aJ, aI v2, aI x4, aJ, aJ, aJ] 24 rfl rfl ?_
    refine s_iload 25 rfl rfl ?_
    refine s_call 26 rfl rfl rfl rfl rfl (ct_2_isCell ?_)
    show am_R K1_measureTo q 49 [aR 13, aJ, aI v2, aI x4, aJ, aJ, aJ] [aI (if ¬ (x4 < 0) ∧ ¬ (64 ≤ x4) then 1 else 0)] M2
    refine s_ifneB 27 rfl (fun h6 => ?_) (fun h6 => ?_)
    · refine s_aload 29 rfl rfl ?_
      refine s_dupR 30 rfl ?_
      refine s_getL (v := M2 13 2) 31 rfl rfl rfl ?_
      refine s_push 32 rfl ?_
      refine s_iload 33 rfl rfl ?_
      refine s_shL 34 rfl (g5.1 h6).1 ?_
      refine s_binL 35 rfl ?_
      refine s_nameL (fun x7 ex7 => ?_)
      refine s_putL 36 rfl rfl ?_
      refine s_aload 37 rfl rfl ?_
      refine s_getR 14 38 rfl rfl ?_
      refine s_iload 39 rfl rfl ?_
      refine s_iald (v := M2 14 (x4.toNat)) 40 rfl rfl (g5.1 h6).1 rfl ?_
      refine s_aload 41 rfl rfl ?_
      refine s_iload 42 rfl rfl ?_
      refine s_callv (o := 13) 43 rfl rfl rfl rfl rfl (ct_1_tollInto ((g5.1 h6).2 x7 ex7).1 ?_)
      show am_R K1_measureTo q 76 [aR 13, aJ, aI v2, aI x4, aJ, aJ, aJ] [aI (f_1_tollInto (M2 8) x4), aI (M2 14 (x4.toNat))] (am_up M2 13 2 x7)
      refine s_binX (v := (M2 14 (x4.toNat)) + (f_1_tollInto (M2 8) x4)) 44 rfl ((g5.1 h6).2 x7 ex7).2.1 rfl ?_
      refine s_nameI (fun x8 ex8 => ?_)
      refine s_istore [aR 13, aJ, aI v2, aI x4, aI x8, aJ, aJ] 45 rfl rfl ?_
      refine s_push 46 rfl ?_
      refine s_istore [aR 13, aJ, aI v2, aI x4, aI x8, aI 0, aJ] 47 rfl rfl ?_
      exact (((g5.1 h6).2 x7 ex7).2.2 x8 ex8)
    · exact s_vret 28 rfl (g5.2 h6)
theorem g1_measureTo_82 {q : am_Q} {M : am_M} {v2 v3 v4 v5 : Int} (h : (4 ≤ v5 → ((-2147483648 ≤ v2 + 1 ∧ v2 + 1 < 2147483648) ∧ (am_R K1_measureTo q 34 [aR 13, aJ, aI (v2 + 1), aJ, aJ, aJ, aJ] [] M))) ∧ (¬ (4 ≤ v5) → ((ob_2_beside (M 9) v3 v5) ∧ (∀ x2 : Int, x2 = f_2_beside (M 9) v3 v5 → ((¬ (x2 < 0) ∧ ¬ (64 ≤ x2) → ((0 ≤ x2 ∧ x2 < 64) ∧ ((M 14 (x2.toNat) ≤ v4 → ((-2147483648 ≤ v5 + 1 ∧ v5 + 1 < 2147483648) ∧ (am_R K1_measureTo q 82 [aR 13, aJ, aI v2, aI v3, aI v4, aI (v5 + 1), aJ] [] M))) ∧ (¬ (M 14 (x2.toNat) ≤ v4) → ((-2147483648 ≤ v5 + 1 ∧ v5 + 1 < 2147483648) ∧ (am_R K1_measureTo q 82 [aR 13, aJ, aI v2, aI v3, aI v4, aI (v5 + 1), aJ] [] (am_up M 14 (x2.toNat) v4))))))) ∧ (¬ (¬ (x2 < 0) ∧ ¬ (64 ≤ x2)) → ((-2147483648 ≤ v5 + 1 ∧ v5 + 1 < 2147483648) ∧ (am_R K1_measureTo q 82 [aR 13, aJ, aI v2, aI v3, aI v4, aI (v5 + 1), aJ] [] M)))))))) : am_R K1_measureTo q 82 [aR 13, aJ, aI v2, aI v3, aI v4, aI v5, aJ] [] M := by
  refine s_iload 48 rfl rfl ?_
  refine s_push 49 rfl ?_
  refine s_ic 50 rfl (fun h1 => ?_) (fun h1 => ?_)
  · refine s_iinc [aR 13, aJ, aI (v2 + 1), aI v3, aI v4, aI v5, aJ] 73 rfl rfl (h.1 h1).1 rfl ?_
    refine s_goto 74 rfl ?_
    exact am_R.jk (ls := [aR 13, aJ, aI (v2 + 1), aJ, aJ, aJ, aJ]) ⟨Or.inr rfl, Or.inr rfl, Or.inr rfl, Or.inl rfl, Or.inl rfl, Or.inl rfl, Or.inr rfl, trivial⟩ (h.1 h1).2
  · refine s_aload 51 rfl rfl ?_
    refine s_getR 7 52 rfl rfl ?_
    refine s_iload 53 rfl rfl ?_
    refine s_iload 54 rfl rfl ?_
    refine s_callv (o := 7) 55 rfl rfl rfl rfl rfl (ct_2_beside (h.2 h1).1 ?_)
    show am_R K1_measureTo q 98 [aR 13, aJ, aI v2, aI v3, aI v4, aI v5, aJ] [aI (f_2_beside (M 9) v3 v5)] M
    refine s_nameI (fun x2 ex2 => ?_)
    refine s_istore [aR 13, aJ, aI v2, aI v3, aI v4, aI v5, aI x2] 56 rfl rfl ?_
    refine s_iload 57 rfl rfl ?_
    refine s_call 58 rfl rfl rfl rfl rfl (ct_2_isCell ?_)
    show am_R K1_measureTo q 105 [aR 13, aJ, aI v2, aI v3, aI v4, aI v5, aI x2] [aI (if ¬ (x2 < 0) ∧ ¬ (64 ≤ x2) then 1 else 0)] M
    refine s_ifeqB 59 rfl (fun h3 => ?_) (fun h3 => ?_)
    · refine s_iinc [aR 13, aJ, aI v2, aI v3, aI v4, aI (v5 + 1), aI x2] 71 rfl rfl (((h.2 h1).2 x2 ex2).2 h3).1 rfl ?_
      refine s_goto 72 rfl ?_
      exact am_R.jk (ls := [aR 13, aJ, aI v2, aI v3, aI v4, aI (v5 + 1), aJ]) ⟨Or.inr rfl, Or.inr rfl, Or.inr rfl, Or.inr rfl, Or.inr rfl, Or.inr rfl, Or.inl rfl, trivial⟩ (((h.2 h1).2 x2 ex2).2 h3).2
    · refine s_iload 60 rfl rfl ?_
      refine s_aload 61 rfl rfl ?_
      refine s_getR 14 62 rfl rfl ?_
      refine s_iload 63 rfl rfl ?_
      refine s_iald (v := M 14 (x2.toNat)) 64 rfl rfl (((h.2 h1).2 x2 ex2).1 h3).1 rfl ?_
      refine s_ic 65 rfl (fun h4 => ?_) (fun h4 => ?_)
      · refine s_iinc [aR 13, aJ, aI v2, aI v3, aI v4, aI (v5 + 1), aI x2] 71 rfl rfl ((((h.2 h1).2 x2 ex2).1 h3).2.1 h4).1 rfl ?_
        refine s_goto 72 rfl ?_
        exact am_R.jk (ls := [aR 13, aJ, aI v2, aI v3, aI v4, aI (v5 + 1), aJ]) ⟨Or.inr rfl, Or.inr rfl, Or.inr rfl, Or.inr rfl, Or.inr rfl, Or.inr rfl, Or.inl rfl, trivial⟩ ((((h.2 h1).2 x2 ex2).1 h3).2.1 h4).2
      · refine s_aload 66 rfl rfl ?_
        refine s_getR 14 67 rfl rfl ?_
        refine s_iload 68 rfl rfl ?_
        refine s_iload 69 rfl rfl ?_
        refine s_iast 70 rfl rfl (((h.2 h1).2 x2 ex2).1 h3).1 ?_
        refine s_iinc [aR 13, aJ, aI v2, aI v3, aI v4, aI (v5 + 1), aI x2] 71 rfl rfl ((((h.2 h1).2 x2 ex2).1 h3).2.2 h4).1 rfl ?_
        refine s_goto 72 rfl ?_
        exact am_R.jk (ls := [aR 13, aJ, aI v2, aI v3, aI v4, aI (v5 + 1), aJ]) ⟨Or.inr rfl, Or.inr rfl, Or.inr rfl, Or.inr rfl, Or.inr rfl, Or.inr rfl, Or.inl rfl, trivial⟩ ((((h.2 h1).2 x2 ex2).1 h3).2.2 h4).2
theorem e1_firstLetter {q : am_Q} {M : am_M} {v1 : Int} (h : ((¬ (v1 < 0) ∧ ¬ (64 ≤ v1)) ∧ ¬ (1073741824 ≤ (M 14) (v1.toNat)) → (am_R K1_firstLetter q 12 [aR 13, aI v1, aI 0, aJ] [] M)) ∧ (¬ ((¬ (v1 < 0) ∧ ¬ (64 ≤ v1)) ∧ ¬ (1073741824 ≤ (M 14) (v1.toNat))) → (q (aI (-1)) M))) : S1_firstLetter [aR 13, aI v1] M q := by
  refine am_S.intro rfl rfl ?_
  refine s_aload 0 rfl rfl ?_
  refine s_iload 1 rfl rfl ?_
  refine s_callv (o := 13) 2 rfl rfl rfl rfl rfl (ct_1_reaches ?_)
  show am_R K1_firstLetter q 5 [aR 13, aI v1, aJ, aJ] [aI (if (¬ (v1 < 0) ∧ ¬ (64 ≤ v1)) ∧ ¬ (1073741824 ≤ (M 14) (v1.toNat)) then 1 else 0)] M
  refine s_ifneB 3 rfl (fun h1 => ?_) (fun h1 => ?_)
  · refine s_push 6 rfl ?_
    refine s_istore [aR 13, aI v1, aI 0, aJ] 7 rfl rfl ?_
    exact (h.1 h1)
  · refine s_push 4 rfl ?_
    exact s_iret 5 rfl (h.2 h1)
theorem g1_firstLetter_12 {q : am_Q} {M : am_M} {v1 v2 : Int} (h : (4 ≤ v2 → (q (aI (-1)) M)) ∧ (¬ (4 ≤ v2) → ((ob_2_beside (M 9) v1 v2) ∧ (∀ x2 : Int, x2 = f_2_beside (M 9) v1 v2 → (((¬ (x2 < 0) ∧ ¬ (64 ≤ x2)) ∧ ¬ (1073741824 ≤ (M 14) (x2.toNat)) → ((0 ≤ x2 ∧ x2 < 64) ∧ ((ob_1_tollInto (M 8) x2) ∧ ((-2147483648 ≤ (M 14 (x2.toNat)) + (f_1_tollInto (M 8) x2) ∧ (M 14 (x2.toNat)) + (f_1_tollInto (M 8) x2) < 2147483648) ∧ ((0 ≤ v1 ∧ v1 < 64) ∧ (((M 14 (x2.toNat)) + (f_1_tollInto (M 8) x2) = M 14 (v1.toNat) → (q (aI v2) M)) ∧ (¬ ((M 14 (x2.toNat)) + (f_1_tollInto (M 8) x2) = M 14 (v1.toNat)) → ((-2147483648 ≤ v2 + 1 ∧ v2 + 1 < 2147483648) ∧ (am_R K1_firstLetter q 12 [aR 13, aI v1, aI (v2 + 1), aJ] [] M))))))))) ∧ (¬ ((¬ (x2 < 0) ∧ ¬ (64 ≤ x2)) ∧ ¬ (1073741824 ≤ (M 14) (x2.toNat))) → ((-2147483648 ≤ v2 + 1 ∧ v2 + 1 < 2147483648) ∧ (am_R K1_firstLetter q 12 [aR 13, aI v1, aI (v2 + 1), aJ] [] M)))))))) : am_R K1_firstLetter q 12 [aR 13, aI v1, aI v2, aJ] [] M := by
  refine s_iload 8 rfl rfl ?_
  refine s_push 9 rfl ?_
  refine s_ic 10 rfl (fun h1 => ?_) (fun h1 => ?_)
  · refine s_push 38 rfl ?_
    exact s_iret 39 rfl (h.1 h1)
  · refine s_aload 11 rfl rfl ?_
    refine s_getR 7 12 rfl rfl ?_
    refine s_iload 13 rfl rfl ?_
    refine s_iload 14 rfl rfl ?_
    refine s_callv (o := 7) 15 rfl rfl rfl rfl rfl (ct_2_beside (h.2 h1).1 ?_)
    show am_R K1_firstLetter q 26 [aR 13, aI v1, aI v2, aJ] [aI (f_2_beside (M 9) v1 v2)] M
    refine s_nameI (fun x2 ex2 => ?_)
    refine s_istore [aR 13, aI v1, aI v2, aI x2] 16 rfl rfl ?_
    refine s_aload 17 rfl rfl ?_
    refine s_iload 18 rfl rfl ?_
    refine s_callv (o := 13) 19 rfl rfl rfl rfl rfl (ct_1_reaches ?_)
    show am_R K1_firstLetter q 32 [aR 13, aI v1, aI v2, aI x2] [aI (if (¬ (x2 < 0) ∧ ¬ (64 ≤ x2)) ∧ ¬ (1073741824 ≤ (M 14) (x2.toNat)) then 1 else 0)] M
    refine s_ifeqB 20 rfl (fun h3 => ?_) (fun h3 => ?_)
    · refine s_iinc [aR 13, aI v1, aI (v2 + 1), aI x2] 36 rfl rfl (((h.2 h1).2 x2 ex2).2 h3).1 rfl ?_
      refine s_goto 37 rfl ?_
      exact am_R.jk (ls := [aR 13, aI v1, aI (v2 + 1), aJ]) ⟨Or.inr rfl, Or.inr rfl, Or.inr rfl, Or.inl rfl, trivial⟩ (((h.2 h1).2 x2 ex2).2 h3).2
    · refine s_aload 21 rfl rfl ?_
      refine s_getR 14 22 rfl rfl ?_
      refine s_iload 23 rfl rfl ?_
      refine s_iald (v := M 14 (x2.toNat)) 24 rfl rfl (((h.2 h1).2 x2 ex2).1 h3).1 rfl ?_
      refine s_aload 25 rfl rfl ?_
      refine s_iload 26 rfl rfl ?_
      refine s_callv (o := 13) 27 rfl rfl rfl rfl rfl (ct_1_tollInto (((h.2 h1).2 x2 ex2).1 h3).2.1 ?_)
      show am_R K1_firstLetter q 46 [aR 13, aI v1, aI v2, aI x2] [aI (f_1_tollInto (M 8) x2), aI (M 14 (x2.toNat))] M
      refine s_binX (v := (M 14 (x2.toNat)) + (f_1_tollInto (M 8) x2)) 28 rfl (((h.2 h1).2 x2 ex2).1 h3).2.2.1 rfl ?_
      refine s_aload 29 rfl rfl ?_
      refine s_getR 14 30 rfl rfl ?_
      refine s_iload 31 rfl rfl ?_
      refine s_iald (v := M 14 (v1.toNat)) 32 rfl rfl (((h.2 h1).2 x2 ex2).1 h3).2.2.2.1 rfl ?_
      refine s_icne 33 rfl (fun h4 => ?_) (fun h4 => ?_)
      · refine s_iinc [aR 13, aI v1, aI (v2 + 1), aI x2] 36 rfl rfl ((((h.2 h1).2 x2 ex2).1 h3).2.2.2.2.2 h4).1 rfl ?_
        refine s_goto 37 rfl ?_
        exact am_R.jk (ls := [aR 13, aI v1, aI (v2 + 1), aJ]) ⟨Or.inr rfl, Or.inr rfl, Or.inr rfl, Or.inl rfl, trivial⟩ ((((h.2 h1).2 x2 ex2).1 h3).2.2.2.2.2 h4).2
      · refine s_iload 34 rfl rfl ?_
        exact s_iret 35 rfl ((((h.2 h1).2 x2 ex2).1 h3).2.2.2.2.1 h4)
theorem e1_letterAt {q : am_Q} {M : am_M} {v1 : Int} {v2 : Int} (h : am_R K1_letterAt q 5 [aR 13, aJ, aI v2, aI v1, aI 0, aJ] [] M) : S1_letterAt [aR 13, aI v1, aI v2] M q := by
  refine am_S.intro rfl rfl ?_
  refine s_iload 0 rfl rfl ?_
  refine s_istore [aR 13, aI v1, aI v2, aI v1, aJ, aJ] 1 rfl rfl ?_
  refine s_push 2 rfl ?_
  refine s_istore [aR 13, aI v1, aI v2, aI v1, aI 0, aJ] 3 rfl rfl ?_
  exact am_R.jk (ls := [aR 13, aJ, aI v2, aI v1, aI 0, aJ]) ⟨Or.inr rfl, Or.inl rfl, Or.inr rfl, Or.inr rfl, Or.inr rfl, Or.inr rfl, trivial⟩ h
theorem g1_letterAt_5 {q : am_Q} {M : am_M} {v2 v3 v4 : Int} (h : (64 ≤ v4 → (q (aI (-1)) M)) ∧ (¬ (64 ≤ v4) → (S1_firstLetter [aR 13, aI v3] M (fun r3 M2 => ∃ x4 : Int, r3 = aI x4 ∧ ((x4 = (-1) → (q (aI x4) M2)) ∧ (¬ (x4 = (-1)) → ((v4 = v2 → (q (aI x4) M2)) ∧ (¬ (v4 = v2) → ((ob_2_beside (M2 9) v3 x4) ∧ (∀ x8 : Int, x8 = f_2_beside (M2 9) v3 x4 → ((-2147483648 ≤ v4 + 1 ∧ v4 + 1 < 2147483648) ∧ (am_R K1_letterAt q 5 [aR 13, aJ, aI v2, aI x8, aI (v4 + 1), aJ] [] M2)))))))))))) : am_R K1_letterAt q 5 [aR 13, aJ, aI v2, aI v3, aI v4, aJ] [] M := by
  refine s_iload 4 rfl rfl ?_
  refine s_push 5 rfl ?_
  refine s_ic 6 rfl (fun h1 => ?_) (fun h1 => ?_)
  · refine s_push 27 rfl ?_
    exact s_iret 28 rfl (h.1 h1)
  · refine s_aload 7 rfl rfl ?_
    refine s_iload 8 rfl rfl ?_
    refine s_callv (o := 13) 9 rfl rfl rfl rfl rfl (am_S.mono (h.2 h1) ?_)
    rintro r3 M2 ⟨x4, rfl, g5⟩
    show am_R K1_letterAt q 17 [aR 13, aJ, aI v2, aI v3, aI v4, aJ] [aI x4] M2
    refine s_istore [aR 13, aJ, aI v2, aI v3, aI v4, aI x4] 10 rfl rfl ?_
    refine s_iload 11 rfl rfl ?_
    refine s_push 12 rfl ?_
    refine s_ic 13 rfl (fun h6 => ?_) (fun h6 => ?_)
    · refine s_iload 17 rfl rfl ?_
      exact s_iret 18 rfl (g5.1 h6)
    · refine s_iload 14 rfl rfl ?_
      refine s_iload 15 rfl rfl ?_
      refine s_icne 16 rfl (fun h7 => ?_) (fun h7 => ?_)
      · refine s_aload 19 rfl rfl ?_
        refine s_getR 7 20 rfl rfl ?_
        refine s_iload 21 rfl rfl ?_
        refine s_iload 22 rfl rfl ?_
        refine s_callv (o := 7) 23 rfl rfl rfl rfl rfl (ct_2_beside ((g5.2 h6).2 h7).1 ?_)
        show am_R K1_letterAt q 44 [aR 13, aJ, aI v2, aI v3, aI v4, aI x4] [aI (f_2_beside (M2 9) v3 x4)] M2
        refine s_nameI (fun x8 ex8 => ?_)
        refine s_istore [aR 13, aJ, aI v2, aI x8, aI v4, aI x4] 24 rfl rfl ?_
        refine s_iinc [aR 13, aJ, aI v2, aI x8, aI (v4 + 1), aI x4] 25 rfl rfl (((g5.2 h6).2 h7).2 x8 ex8).1 rfl ?_
        refine s_goto 26 rfl ?_
        exact am_R.jk (ls := [aR 13, aJ, aI v2, aI x8, aI (v4 + 1), aJ]) ⟨Or.inr rfl, Or.inr rfl, Or.inr rfl, Or.inr rfl, Or.inr rfl, Or.inl rfl, trivial⟩ (((g5.2 h6).2 h7).2 x8 ex8).2
      · refine s_iload 17 rfl rfl ?_
        exact s_iret 18 rfl ((g5.2 h6).1 h7)
theorem e11_easiest {q : am_Q} {M : am_M} {v1 : Int} {v2 : Int} {v3 : Int} (h : (¬ (v1 < 0) ∧ (¬ (64 ≤ v1) ∧ ¬ ((M 8) (v1.toNat) = (-1))) → ((¬ (v2 < 0) ∧ (¬ (64 ≤ v2) ∧ ¬ ((M 8) (v2.toNat) = (-1))) → (((-2) ≤ v3 → (S1_measureTo [aR 13, aI v2] M (fun _ M4 => (v3 = (-2) → ((ob_1_densityFrom (M4 14) v1) ∧ (q (aI (f_1_densityFrom (M4 14) v1)) M4))) ∧ (¬ (v3 = (-2)) → ((v3 = (-1) → ((ob_1_stepsFrom (M4 14) v1) ∧ (q (aI (f_1_stepsFrom (M4 14) v1)) M4))) ∧ (¬ (v3 = (-1)) → (S1_letterAt [aR 13, aI v1, aI v3] M4 (fun r11 M10 => ∃ x12 : Int, r11 = aI x12 ∧ (q (aI x12) M10))))))))) ∧ (¬ ((-2) ≤ v3) → (q (aI (-2)) M)))) ∧ (¬ (¬ (v2 < 0) ∧ (¬ (64 ≤ v2) ∧ ¬ ((M 8) (v2.toNat) = (-1)))) → (q (aI (-2)) M)))) ∧ (¬ (¬ (v1 < 0) ∧ (¬ (64 ≤ v1) ∧ ¬ ((M 8) (v1.toNat) = (-1)))) → (q (aI (-2)) M))) : S11_easiest [aR 0, aI v1, aI v2, aI v3] M q := by
  refine am_S.intro rfl rfl ?_
  refine s_aload 0 rfl rfl ?_
  refine s_getR 7 1 rfl rfl ?_
  refine s_iload 2 rfl rfl ?_
  refine s_callv (o := 7) 3 rfl rfl rfl rfl rfl (ct_2_isPlace ?_)
  show am_R K11_easiest q 8 [aR 0, aI v1, aI v2, aI v3] [aI (if ¬ (v1 < 0) ∧ (¬ (64 ≤ v1) ∧ ¬ ((M 8) (v1.toNat) = (-1))) then 1 else 0)] M
  refine s_ifeqB 4 rfl (fun h1 => ?_) (fun h1 => ?_)
  · refine s_push 13 rfl ?_
    exact s_iret 14 rfl (h.2 h1)
  · refine s_aload 5 rfl rfl ?_
    refine s_getR 7 6 rfl rfl ?_
    refine s_iload 7 rfl rfl ?_
    refine s_callv (o := 7) 8 rfl rfl rfl rfl rfl (ct_2_isPlace ?_)
    show am_R K11_easiest q 19 [aR 0, aI v1, aI v2, aI v3] [aI (if ¬ (v2 < 0) ∧ (¬ (64 ≤ v2) ∧ ¬ ((M 8) (v2.toNat) = (-1))) then 1 else 0)] M
    refine s_ifeqB 9 rfl (fun h2 => ?_) (fun h2 => ?_)
    · refine s_push 13 rfl ?_
      exact s_iret 14 rfl ((h.1 h1).2 h2)
    · refine s_iload 10 rfl rfl ?_
      refine s_push 11 rfl ?_
      refine s_ic 12 rfl (fun h3 => ?_) (fun h3 => ?_)
      · refine s_aload 15 rfl rfl ?_
        refine s_getR 13 16 rfl rfl ?_
        refine s_iload 17 rfl rfl ?_
        refine s_callv (o := 13) 18 rfl rfl rfl rfl rfl (am_S.mono (((h.1 h1).1 h2).1 h3) ?_)
        intro r5 M4 g7
        show am_R K11_easiest q 39 [aR 0, aI v1, aI v2, aI v3] [] M4
        refine s_iload 19 rfl rfl ?_
        refine s_push 20 rfl ?_
        refine s_icne 21 rfl (fun h8 => ?_) (fun h8 => ?_)
        · refine s_iload 27 rfl rfl ?_
          refine s_push 28 rfl ?_
          refine s_icne 29 rfl (fun h9 => ?_) (fun h9 => ?_)
          · refine s_aload 35 rfl rfl ?_
            refine s_getR 13 36 rfl rfl ?_
            refine s_iload 37 rfl rfl ?_
            refine s_iload 38 rfl rfl ?_
            refine s_callv (o := 13) 39 rfl rfl rfl rfl rfl (am_S.mono ((g7.2 h8).2 h9) ?_)
            rintro r11 M10 ⟨x12, rfl, g13⟩
            show am_R K11_easiest q 79 [aR 0, aI v1, aI v2, aI v3] [aI x12] M10
            exact s_iret 40 rfl g13
          · refine s_aload 30 rfl rfl ?_
            refine s_getR 13 31 rfl rfl ?_
            refine s_iload 32 rfl rfl ?_
            refine s_callv (o := 13) 33 rfl rfl rfl rfl rfl (ct_1_stepsFrom ((g7.2 h8).1 h9).1 ?_)
            show am_R K11_easiest q 67 [aR 0, aI v1, aI v2, aI v3] [aI (f_1_stepsFrom (M4 14) v1)] M4
            refine s_goto 34 rfl ?_
            exact s_iret 40 rfl ((g7.2 h8).1 h9).2
        · refine s_aload 22 rfl rfl ?_
          refine s_getR 13 23 rfl rfl ?_
          refine s_iload 24 rfl rfl ?_
          refine s_callv (o := 13) 25 rfl rfl rfl rfl rfl (ct_1_densityFrom (g7.1 h8).1 ?_)
          show am_R K11_easiest q 53 [aR 0, aI v1, aI v2, aI v3] [aI (f_1_densityFrom (M4 14) v1)] M4
          exact s_iret 26 rfl (g7.1 h8).2
      · refine s_push 13 rfl ?_
        exact s_iret 14 rfl (((h.1 h1).1 h2).2 h3)
theorem e11_holds {q : am_Q} {M : am_M} {v1 : Int} {v2 : Int} {v3 : Int} {v4 : Int} (h : (v1 < 0 → (q (aL (f_11_refused (-2))) M)) ∧ (¬ (v1 < 0) → ((ob_3_joints (M 15)) ∧ ((f_3_joints (M 15) ≤ v1 → (q (aL (f_11_refused (-2))) M)) ∧ (¬ (f_3_joints (M 15) ≤ v1) → ((v2 < 0 → (q (aL (f_11_refused (-2))) M)) ∧ (¬ (v2 < 0) → ((v3 < 0 → (q (aL (f_11_refused (-2))) M)) ∧ (¬ (v3 < 0) → ((6 < v3 → (q (aL (f_11_refused (-2))) M)) ∧ (¬ (6 < v3) → ((-2147483648 ≤ (M 20 4) - v3 ∧ (M 20 4) - v3 < 2147483648) ∧ (((M 20 4) - v3 < v2 → (q (aL (f_11_refused (-2))) M)) ∧ (¬ ((M 20 4) - v3 < v2) → ((v4 = 0 ∨ v4 = 1 → ((ob_3_gripOfJoint (M 16) (M 15) (M 19) v1) ∧ ((-2147483648 ≤ 16 - (f_3_gripOfJoint (M 16) (M 15) (M 19) v1) ∧ 16 - (f_3_gripOfJoint (M 16) (M 15) (M 19) v1) < 2147483648) ∧ (∀ x8 : Int, x8 = 16 - (f_3_gripOfJoint (M 16) (M 15) (M 19) v1) → (am_R K11_holds q 78 [aR 0, aJ, aI v2, aI v3, aI v4, aL 1, aJ, aL 1, aJ, aI x8, aI 0] [] M))))) ∧ (¬ (v4 = 0 ∨ v4 = 1) → (q (aL (f_11_refused (-2))) M))))))))))))))))) : S11_holds [aR 0, aI v1, aI v2, aI v3, aI v4] M q := by
  refine am_S.intro rfl rfl ?_
  refine s_iload 0 rfl rfl ?_
  refine s_if 1 rfl (fun h1 => ?_) (fun h1 => ?_)
  · refine s_push 24 rfl ?_
    refine s_call 25 rfl rfl rfl rfl rfl (ct_11_refused ?_)
    show am_R K11_holds q 55 [aR 0, aI v1, aI v2, aI v3, aI v4, aJ, aJ, aJ, aJ, aJ, aJ] [aL (f_11_refused (-2))] M
    exact s_lret 26 rfl (h.1 h1)
  · refine s_iload 2 rfl rfl ?_
    refine s_aload 3 rfl rfl ?_
    refine s_getR 15 4 rfl rfl ?_
    refine s_callv (o := 15) 5 rfl rfl rfl rfl rfl (ct_3_joints (h.2 h1).1 ?_)
    show am_R K11_holds q 12 [aR 0, aI v1, aI v2, aI v3, aI v4, aJ, aJ, aJ, aJ, aJ, aJ] [aI (f_3_joints (M 15)), aI v1] M
    refine s_ic 6 rfl (fun h2 => ?_) (fun h2 => ?_)
    · refine s_push 24 rfl ?_
      refine s_call 25 rfl rfl rfl rfl rfl (ct_11_refused ?_)
      show am_R K11_holds q 55 [aR 0, aI v1, aI v2, aI v3, aI v4, aJ, aJ, aJ, aJ, aJ, aJ] [aL (f_11_refused (-2))] M
      exact s_lret 26 rfl ((h.2 h1).2.1 h2)
    · refine s_iload 7 rfl rfl ?_
      refine s_if 8 rfl (fun h3 => ?_) (fun h3 => ?_)
      · refine s_push 24 rfl ?_
        refine s_call 25 rfl rfl rfl rfl rfl (ct_11_refused ?_)
        show am_R K11_holds q 55 [aR 0, aI v1, aI v2, aI v3, aI v4, aJ, aJ, aJ, aJ, aJ, aJ] [aL (f_11_refused (-2))] M
        exact s_lret 26 rfl (((h.2 h1).2.2 h2).1 h3)
      · refine s_iload 9 rfl rfl ?_
        refine s_if 10 rfl (fun h4 => ?_) (fun h4 => ?_)
        · refine s_push 24 rfl ?_
          refine s_call 25 rfl rfl rfl rfl rfl (ct_11_refused ?_)
          show am_R K11_holds q 55 [aR 0, aI v1, aI v2, aI v3, aI v4, aJ, aJ, aJ, aJ, aJ, aJ] [aL (f_11_refused (-2))] M
          exact s_lret 26 rfl ((((h.2 h1).2.2 h2).2 h3).1 h4)
        · refine s_iload 11 rfl rfl ?_
          refine s_push 12 rfl ?_
          refine s_ic 13 rfl (fun h5 => ?_) (fun h5 => ?_)
          · refine s_push 24 rfl ?_
            refine s_call 25 rfl rfl rfl rfl rfl (ct_11_refused ?_)
            show am_R K11_holds q 55 [aR 0, aI v1, aI v2, aI v3, aI v4, aJ, aJ, aJ, aJ, aJ, aJ] [aL (f_11_refused (-2))] M
            exact s_lret 26 rfl (((((h.2 h1).2.2 h2).2 h3).2 h4).1 h5)
          · refine s_iload 14 rfl rfl ?_
            refine s_aload 15 rfl rfl ?_
            refine s_getR 20 16 rfl rfl ?_
            refine s_getI (v := M 20 4) 17 rfl rfl rfl ?_
            refine s_iload 18 rfl rfl ?_
            refine s_binX (v := (M 20 4) - v3) 19 rfl (((((h.2 h1).2.2 h2).2 h3).2 h4).2 h5).1 rfl ?_
            refine s_ic 20 rfl (fun h6 => ?_) (fun h6 => ?_)
            · refine s_push 24 rfl ?_
              refine s_call 25 rfl rfl rfl rfl rfl (ct_11_refused ?_)
              show am_R K11_holds q 55 [aR 0, aI v1, aI v2, aI v3, aI v4, aJ, aJ, aJ, aJ, aJ, aJ] [aL (f_11_refused (-2))] M
              exact s_lret 26 rfl ((((((h.2 h1).2.2 h2).2 h3).2 h4).2 h5).2.1 h6)
            · refine s_iload 21 rfl rfl ?_
              refine s_call 22 rfl rfl rfl rfl rfl (ct_11_isPart ?_)
              show am_R K11_holds q 47 [aR 0, aI v1, aI v2, aI v3, aI v4, aJ, aJ, aJ, aJ, aJ, aJ] [aI (if v4 = 0 ∨ v4 = 1 then 1 else 0)] M
              refine s_ifneB 23 rfl (fun h7 => ?_) (fun h7 => ?_)
              · refine s_push 27 rfl ?_
                refine s_lstore [aR 0, aI v1, aI v2, aI v3, aI v4, aL 1, aJ, aJ, aJ, aJ, aJ] 28 rfl rfl ?_
                refine s_push 29 rfl ?_
                refine s_lstore [aR 0, aI v1, aI v2, aI v3, aI v4, aL 1, aJ, aL 1, aJ, aJ, aJ] 30 rfl rfl ?_
                refine s_push 31 rfl ?_
                refine s_aload 32 rfl rfl ?_
                refine s_getR 15 33 rfl rfl ?_
                refine s_iload 34 rfl rfl ?_
                refine s_callv (o := 15) 35 rfl rfl rfl rfl rfl (ct_3_gripOfJoint (((((((h.2 h1).2.2 h2).2 h3).2 h4).2 h5).2.2 h6).1 h7).1 ?_)
                show am_R K11_holds q 72 [aR 0, aI v1, aI v2, aI v3, aI v4, aL 1, aJ, aL 1, aJ, aJ, aJ] [aI (f_3_gripOfJoint (M 16) (M 15) (M 19) v1), aI 16] M
                refine s_binX (v := 16 - (f_3_gripOfJoint (M 16) (M 15) (M 19) v1)) 36 rfl (((((((h.2 h1).2.2 h2).2 h3).2 h4).2 h5).2.2 h6).1 h7).2.1 rfl ?_
                refine s_nameI (fun x8 ex8 => ?_)
                refine s_istore [aR 0, aI v1, aI v2, aI v3, aI v4, aL 1, aJ, aL 1, aJ, aI x8, aJ] 37 rfl rfl ?_
                refine s_push 38 rfl ?_
                refine s_istore [aR 0, aI v1, aI v2, aI v3, aI v4, aL 1, aJ, aL 1, aJ, aI x8, aI 0] 39 rfl rfl ?_
                exact am_R.jk (ls := [aR 0, aJ, aI v2, aI v3, aI v4, aL 1, aJ, aL 1, aJ, aI x8, aI 0]) ⟨Or.inr rfl, Or.inl rfl, Or.inr rfl, Or.inr rfl, Or.inr rfl, Or.inr rfl, Or.inr rfl, Or.inr rfl, Or.inr rfl, Or.inr rfl, Or.inr rfl, trivial⟩ ((((((((h.2 h1).2.2 h2).2 h3).2 h4).2 h5).2.2 h6).1 h7).2.2 x8 ex8)
              · refine s_push 24 rfl ?_
                refine s_call 25 rfl rfl rfl rfl rfl (ct_11_refused ?_)
                show am_R K11_holds q 55 [aR 0, aI v1, aI v2, aI v3, aI v4, aJ, aJ, aJ, aJ, aJ, aJ] [aL (f_11_refused (-2))] M
                exact s_lret 26 rfl (((((((h.2 h1).2.2 h2).2 h3).2 h4).2 h5).2.2 h6).2 h7)
theorem g11_holds_78 {q : am_Q} {M : am_M} {v2 v3 v4 v5 v7 v9 v10 : Int} (h : (v3 ≤ v10 → (S11_lowest [aL v5, aL v7, aI v4] M (fun r3 M2 => ∃ x4 : Int, r3 = aL x4 ∧ (q (aL x4) M2)))) ∧ (¬ (v3 ≤ v10) → ((-2147483648 ≤ v2 + v10 ∧ v2 + v10 < 2147483648) ∧ ((ob_11_densityOfStep (M 8) (M 20) (M 22) (v2 + v10)) ∧ ((-2147483648 ≤ (f_11_densityOfStep (M 8) (M 20) (M 22) (v2 + v10)) * v9 ∧ (f_11_densityOfStep (M 8) (M 20) (M 22) (v2 + v10)) * v9 < 2147483648) ∧ ((-2147483648 ≤ 256 - ((f_11_densityOfStep (M 8) (M 20) (M 22) (v2 + v10)) * v9) ∧ 256 - ((f_11_densityOfStep (M 8) (M 20) (M 22) (v2 + v10)) * v9) < 2147483648) ∧ ((-9223372036854775808 ≤ v5 * (256 - ((f_11_densityOfStep (M 8) (M 20) (M 22) (v2 + v10)) * v9)) ∧ v5 * (256 - ((f_11_densityOfStep (M 8) (M 20) (M 22) (v2 + v10)) * v9)) < 9223372036854775808) ∧ (∀ x6 : Int, x6 = v5 * (256 - ((f_11_densityOfStep (M 8) (M 20) (M 22) (v2 + v10)) * v9)) → ((-9223372036854775808 ≤ v7 * 256 ∧ v7 * 256 < 9223372036854775808) ∧ (∀ x7 : Int, x7 = v7 * 256 → ((-2147483648 ≤ v10 + 1 ∧ v10 + 1 < 2147483648) ∧ (am_R K11_holds q 78 [aR 0, aJ, aI v2, aI v3, aI v4, aL x6, aJ, aL x7, aJ, aI v9, aI (v10 + 1)] [] M)))))))))))) : am_R K11_holds q 78 [aR 0, aJ, aI v2, aI v3, aI v4, aL v5, aJ, aL v7, aJ, aI v9, aI v10] [] M := by
  refine s_iload 40 rfl rfl ?_
  refine s_iload 41 rfl rfl ?_
  refine s_ic 42 rfl (fun h1 => ?_) (fun h1 => ?_)
  · refine s_lload 62 rfl rfl ?_
    refine s_lload 63 rfl rfl ?_
    refine s_iload 64 rfl rfl ?_
    refine s_call 65 rfl rfl rfl rfl rfl (am_S.mono (h.1 h1) ?_)
    rintro r3 M2 ⟨x4, rfl, g5⟩
    show am_R K11_holds q 128 [aR 0, aJ, aI v2, aI v3, aI v4, aL v5, aJ, aL v7, aJ, aI v9, aI v10] [aL x4] M2
    exact s_lret 66 rfl g5
  · refine s_lload 43 rfl rfl ?_
    refine s_push 44 rfl ?_
    refine s_aload 45 rfl rfl ?_
    refine s_iload 46 rfl rfl ?_
    refine s_iload 47 rfl rfl ?_
    refine s_binX (v := v2 + v10) 48 rfl (h.2 h1).1 rfl ?_
    refine s_callv (o := 0) 49 rfl rfl rfl rfl rfl (ct_11_densityOfStep (h.2 h1).2.1 ?_)
    show am_R K11_holds q 97 [aR 0, aJ, aI v2, aI v3, aI v4, aL v5, aJ, aL v7, aJ, aI v9, aI v10] [aI (f_11_densityOfStep (M 8) (M 20) (M 22) (v2 + v10)), aI 256, aL v5] M
    refine s_iload 50 rfl rfl ?_
    refine s_binX (v := (f_11_densityOfStep (M 8) (M 20) (M 22) (v2 + v10)) * v9) 51 rfl (h.2 h1).2.2.1 rfl ?_
    refine s_binX (v := 256 - ((f_11_densityOfStep (M 8) (M 20) (M 22) (v2 + v10)) * v9)) 52 rfl (h.2 h1).2.2.2.1 rfl ?_
    refine s_i2l 53 rfl ?_
    refine s_binLX (v := v5 * (256 - ((f_11_densityOfStep (M 8) (M 20) (M 22) (v2 + v10)) * v9))) 54 rfl (h.2 h1).2.2.2.2.1 rfl ?_
    refine s_nameL (fun x6 ex6 => ?_)
    refine s_lstore [aR 0, aJ, aI v2, aI v3, aI v4, aL x6, aJ, aL v7, aJ, aI v9, aI v10] 55 rfl rfl ?_
    refine s_lload 56 rfl rfl ?_
    refine s_push 57 rfl ?_
    refine s_binLX (v := v7 * 256) 58 rfl ((h.2 h1).2.2.2.2.2 x6 ex6).1 rfl ?_
    refine s_nameL (fun x7 ex7 => ?_)
    refine s_lstore [aR 0, aJ, aI v2, aI v3, aI v4, aL x6, aJ, aL x7, aJ, aI v9, aI v10] 59 rfl rfl ?_
    refine s_iinc [aR 0, aJ, aI v2, aI v3, aI v4, aL x6, aJ, aL x7, aJ, aI v9, aI (v10 + 1)] 60 rfl rfl (((h.2 h1).2.2.2.2.2 x6 ex6).2 x7 ex7).1 rfl ?_
    refine s_goto 61 rfl ?_
    exact (((h.2 h1).2.2.2.2.2 x6 ex6).2 x7 ex7).2
theorem e11_withWays {q : am_Q} {M : am_M} {v1 : Int} (h : S11_near [aR 0, aI 0, aI 9] M (fun r2 M1 => ∃ x3 : Int, r2 = aI x3 ∧ (∀ x5 : Int, x5 = w64 ((w64 (31 * v1)) + x3) → (am_R K11_withWays q 19 [aR 0, aJ, aJ, aL x5, aJ, aI (-2)] [] M1)))) : S11_withWays [aR 0, aL v1] M q := by
  refine am_S.intro rfl rfl ?_
  refine s_push 0 rfl ?_
  refine s_lload 1 rfl rfl ?_
  refine s_binL 2 rfl ?_
  refine s_aload 3 rfl rfl ?_
  refine s_push 4 rfl ?_
  refine s_push 5 rfl ?_
  refine s_callv (o := 0) 6 rfl rfl rfl rfl rfl (am_S.mono h ?_)
  rintro r2 M1 ⟨x3, rfl, g4⟩
  show am_R K11_withWays q 12 [aR 0, aL v1, aJ, aJ, aJ, aJ] [aI x3, aL (w64 (31 * v1))] M1
  refine s_i2l 7 rfl ?_
  refine s_binL 8 rfl ?_
  refine s_nameL (fun x5 ex5 => ?_)
  refine s_lstore [aR 0, aL v1, aJ, aL x5, aJ, aJ] 9 rfl rfl ?_
  refine s_push 10 rfl ?_
  refine s_istore [aR 0, aL v1, aJ, aL x5, aJ, aI (-2)] 11 rfl rfl ?_
  exact am_R.jk (ls := [aR 0, aJ, aJ, aL x5, aJ, aI (-2)]) ⟨Or.inr rfl, Or.inl rfl, Or.inr rfl, Or.inr rfl, Or.inr rfl, Or.inr rfl, trivial⟩ (g4 x5 ex5)
theorem g11_withWays_19 {q : am_Q} {M : am_M} {v3 v5 : Int} (h : (1 < v5 → (am_R K11_withWays q 51 [aR 0, aJ, aJ, aL v3, aJ, aI (-1)] [] M)) ∧ (¬ (1 < v5) → (S11_easiest [aR 0, aI 0, aI 9, aI v5] M (fun r3 M2 => ∃ x4 : Int, r3 = aI x4 ∧ (∀ x6 : Int, x6 = w64 ((w64 (31 * v3)) + x4) → ((-2147483648 ≤ v5 + 1 ∧ v5 + 1 < 2147483648) ∧ (am_R K11_withWays q 19 [aR 0, aJ, aJ, aL x6, aJ, aI (v5 + 1)] [] M2))))))) : am_R K11_withWays q 19 [aR 0, aJ, aJ, aL v3, aJ, aI v5] [] M := by
  refine s_iload 12 rfl rfl ?_
  refine s_push 13 rfl ?_
  refine s_ic 14 rfl (fun h1 => ?_) (fun h1 => ?_)
  · refine s_push 28 rfl ?_
    refine s_istore [aR 0, aJ, aJ, aL v3, aJ, aI (-1)] 29 rfl rfl ?_
    exact (h.1 h1)
  · refine s_push 15 rfl ?_
    refine s_lload 16 rfl rfl ?_
    refine s_binL 17 rfl ?_
    refine s_aload 18 rfl rfl ?_
    refine s_push 19 rfl ?_
    refine s_push 20 rfl ?_
    refine s_iload 21 rfl rfl ?_
    refine s_callv (o := 0) 22 rfl rfl rfl rfl rfl (am_S.mono (h.2 h1) ?_)
    rintro r3 M2 ⟨x4, rfl, g5⟩
    show am_R K11_withWays q 39 [aR 0, aJ, aJ, aL v3, aJ, aI v5] [aI x4, aL (w64 (31 * v3))] M2
    refine s_i2l 23 rfl ?_
    refine s_binL 24 rfl ?_
    refine s_nameL (fun x6 ex6 => ?_)
    refine s_lstore [aR 0, aJ, aJ, aL x6, aJ, aI v5] 25 rfl rfl ?_
    refine s_iinc [aR 0, aJ, aJ, aL x6, aJ, aI (v5 + 1)] 26 rfl rfl (g5 x6 ex6).1 rfl ?_
    refine s_goto 27 rfl ?_
    exact (g5 x6 ex6).2
theorem g11_withWays_51 {q : am_Q} {M : am_M} {v3 v5 : Int} (h : (5 ≤ v5 → (S11_holds [aR 0, aI 0, aI 0, aI 2, aI 0] M (fun r3 M2 => ∃ x4 : Int, r3 = aL x4 ∧ (q (aL (w64 ((w64 (31 * v3)) + x4))) M2)))) ∧ (¬ (5 ≤ v5) → (S11_best [aR 0, aI 31, aI v5] M (fun r7 M6 => ∃ x8 : Int, r7 = aI x8 ∧ (∀ x10 : Int, x10 = w64 ((w64 (31 * v3)) + x8) → ((-2147483648 ≤ v5 + 1 ∧ v5 + 1 < 2147483648) ∧ (am_R K11_withWays q 51 [aR 0, aJ, aJ, aL x10, aJ, aI (v5 + 1)] [] M6))))))) : am_R K11_withWays q 51 [aR 0, aJ, aJ, aL v3, aJ, aI v5] [] M := by
  refine s_iload 30 rfl rfl ?_
  refine s_push 31 rfl ?_
  refine s_ic 32 rfl (fun h1 => ?_) (fun h1 => ?_)
  · refine s_push 45 rfl ?_
    refine s_lload 46 rfl rfl ?_
    refine s_binL 47 rfl ?_
    refine s_aload 48 rfl rfl ?_
    refine s_push 49 rfl ?_
    refine s_push 50 rfl ?_
    refine s_push 51 rfl ?_
    refine s_push 52 rfl ?_
    refine s_callv (o := 0) 53 rfl rfl rfl rfl rfl (am_S.mono (h.1 h1) ?_)
    rintro r3 M2 ⟨x4, rfl, g5⟩
    show am_R K11_withWays q 92 [aR 0, aJ, aJ, aL v3, aJ, aI v5] [aL x4, aL (w64 (31 * v3))] M2
    refine s_binL 54 rfl ?_
    exact s_lret 55 rfl g5
  · refine s_push 33 rfl ?_
    refine s_lload 34 rfl rfl ?_
    refine s_binL 35 rfl ?_
    refine s_aload 36 rfl rfl ?_
    refine s_push 37 rfl ?_
    refine s_iload 38 rfl rfl ?_
    refine s_callv (o := 0) 39 rfl rfl rfl rfl rfl (am_S.mono (h.2 h1) ?_)
    rintro r7 M6 ⟨x8, rfl, g9⟩
    show am_R K11_withWays q 70 [aR 0, aJ, aJ, aL v3, aJ, aI v5] [aI x8, aL (w64 (31 * v3))] M6
    refine s_i2l 40 rfl ?_
    refine s_binL 41 rfl ?_
    refine s_nameL (fun x10 ex10 => ?_)
    refine s_lstore [aR 0, aJ, aJ, aL x10, aJ, aI v5] 42 rfl rfl ?_
    refine s_iinc [aR 0, aJ, aJ, aL x10, aJ, aI (v5 + 1)] 43 rfl rfl (g9 x10 ex10).1 rfl ?_
    refine s_goto 44 rfl ?_
    exact (g9 x10 ex10).2
theorem e8_startWhole {q : am_Q} {M : am_M}  (h : q aJ (am_up (am_up (am_up (am_up M 23 1 0) 23 2 (-1)) 23 3 (-1)) 23 4 0)) : S8_startWhole [aR 23] M q := by
  refine am_S.intro rfl rfl ?_
  refine s_aload 0 rfl rfl ?_
  refine s_push 1 rfl ?_
  refine s_putI 2 rfl rfl ?_
  refine s_aload 3 rfl rfl ?_
  refine s_push 4 rfl ?_
  refine s_putI 5 rfl rfl ?_
  refine s_aload 6 rfl rfl ?_
  refine s_push 7 rfl ?_
  refine s_putI 8 rfl rfl ?_
  refine s_aload 9 rfl rfl ?_
  refine s_push 10 rfl ?_
  refine s_putI 11 rfl rfl ?_
  exact s_vret 12 rfl h
theorem e8_lotOfSixteen {q : am_Q} {M : am_M}  (h : ∀ x1 : Int, x1 = w32 ((w32 (1103515245 * (M 23 0))) + 12345) → ((0 ≤ am_ushr x1 16) ∧ (q (aI ((am_ushr x1 16) % 16)) (am_up M 23 0 x1)))) : S8_lotOfSixteen [aR 23] M q := by
  refine am_S.intro rfl rfl ?_
  refine s_aload 0 rfl rfl ?_
  refine s_push 1 rfl ?_
  refine s_aload 2 rfl rfl ?_
  refine s_getI (v := M 23 0) 3 rfl rfl rfl ?_
  refine s_bin 4 rfl ?_
  refine s_push 5 rfl ?_
  refine s_bin 6 rfl ?_
  refine s_nameI (fun x1 ex1 => ?_)
  refine s_putI 7 rfl rfl ?_
  refine s_aload 8 rfl rfl ?_
  refine s_getI (v := x1) 9 rfl rfl (by simp [am_up, am_set]) ?_
  refine s_push 10 rfl ?_
  refine s_sh 11 rfl (by decide) ?_
  refine s_push 12 rfl ?_
  refine s_irem 13 rfl ⟨(h x1 ex1).1, by decide⟩ ?_
  exact s_iret 14 rfl (h x1 ex1).2
theorem e8_tears {q : am_Q} {M : am_M} {v1 : Int} {v2 : Int} (h : S8_lotOfSixteen [aR 23] M (fun r2 M1 => ∃ x3 : Int, r2 = aI x3 ∧ ((v1 ≤ x3 → (q (aI 0) M1)) ∧ (¬ (v1 ≤ x3) → (S8_lotOfSixteen [aR 23] M1 (fun r7 M6 => ∃ x8 : Int, r7 = aI x8 ∧ (∀ x11 : Int, x11 = (if ¬ (x8 < v2) then 1 else 0) → (q (aI x11) M6)))))))) : S8_tears [aR 23, aI v1, aI v2] M q := by
  refine am_S.intro rfl rfl ?_
  refine s_aload 0 rfl rfl ?_
  refine s_callv (o := 23) 1 rfl rfl rfl rfl rfl (am_S.mono h ?_)
  rintro r2 M1 ⟨x3, rfl, g4⟩
  show am_R K8_tears q 4 [aR 23, aI v1, aI v2] [aI x3] M1
  refine s_iload 2 rfl rfl ?_
  refine s_ic 3 rfl (fun h5 => ?_) (fun h5 => ?_)
  · refine s_push 10 rfl ?_
    exact s_zret 11 rfl (by decide) (g4.1 h5)
  · refine s_aload 4 rfl rfl ?_
    refine s_callv (o := 23) 5 rfl rfl rfl rfl rfl (am_S.mono (g4.2 h5) ?_)
    rintro r7 M6 ⟨x8, rfl, g9⟩
    show am_R K8_tears q 12 [aR 23, aI v1, aI v2] [aI x8] M6
    refine s_iload 6 rfl rfl ?_
    have j12 : ∀ (x11 : Int) (ex11 : x11 = (if ¬ (x8 < v2) then 1 else 0)), am_R K8_tears q 21 [aR 23, aI v1, aI v2] [aI x11] M6 := by
      intro x11 ex11
      exact s_zret 11 rfl (by rw [ex11]; exact b01 _) (g9 x11 ex11)
    refine s_ic 7 rfl (fun h10 => ?_) (fun h10 => ?_)
    · refine s_push 10 rfl ?_
      exact j12 _ (if_neg (by omega)).symm
    · refine s_push 8 rfl ?_
      refine s_goto 9 rfl ?_
      exact j12 _ (if_pos (by omega)).symm
theorem e8_goStep {q : am_Q} {M : am_M} {v1 : Int} {v2 : Int} (h : am_R K8_goStep q 3 [aR 23, aI v1, aI v2, aR 15, aI 0] [] M) : S8_goStep [aR 23, aI v1, aI v2, aR 15] M q := by
  refine am_S.intro rfl rfl ?_
  refine s_push 0 rfl ?_
  refine s_istore [aR 23, aI v1, aI v2, aR 15, aI 0] 1 rfl rfl ?_
  exact h
theorem g8_goStep_3 {q : am_Q} {M : am_M} {v1 v2 v4 : Int} (h : (ob_3_joints (M 15)) ∧ ((f_3_joints (M 15) ≤ v4 → (q aJ M)) ∧ (¬ (f_3_joints (M 15) ≤ v4) → ((0 ≤ v4 ∧ v4 < 32) ∧ ((am_and (am_shr (M 23 1) v4) 1 = 0 → ((ob_3_gripOfJoint (M 16) (M 15) (M 19) v4) ∧ (S8_tears [aR 23, aI v2, aI (f_3_gripOfJoint (M 16) (M 15) (M 19) v4)] M (fun r4 M3 => ∃ x5 : Int, r4 = aI x5 ∧ ((x5 = 0 → ((-2147483648 ≤ v4 + 1 ∧ v4 + 1 < 2147483648) ∧ (am_R K8_goStep q 3 [aR 23, aI v1, aI v2, aR 15, aI (v4 + 1)] [] M3))) ∧ (¬ (x5 = 0) → (∀ x8 : Int, x8 = am_or (M3 23 1) (am_shl 1 v4) → ((-2147483648 ≤ (M3 23 4) + 1 ∧ (M3 23 4) + 1 < 2147483648) ∧ (∀ x9 : Int, x9 = (M3 23 4) + 1 → ((M3 23 2 = (-1) → ((-2147483648 ≤ v4 + 1 ∧ v4 + 1 < 2147483648) ∧ (am_R K8_goStep q 3 [aR 23, aI v1, aI v2, aR 15, aI (v4 + 1)] [] (am_up (am_up (am_up (am_up M3 23 1 x8) 23 4 x9) 23 2 v4) 23 3 v1)))) ∧ (¬ (M3 23 2 = (-1)) → ((-2147483648 ≤ v4 + 1 ∧ v4 + 1 < 2147483648) ∧ (am_R K8_goStep q 3 [aR 23, aI v1, aI v2, aR 15, aI (v4 + 1)] [] (am_up (am_up M3 23 1 x8) 23 4 x9)))))))))))))) ∧ (¬ (am_and (am_shr (M 23 1) v4) 1 = 0) → ((-2147483648 ≤ v4 + 1 ∧ v4 + 1 < 2147483648) ∧ (am_R K8_goStep q 3 [aR 23, aI v1, aI v2, aR 15, aI (v4 + 1)] [] M)))))))) : am_R K8_goStep q 3 [aR 23, aI v1, aI v2, aR 15, aI v4] [] M := by
  refine s_iload 2 rfl rfl ?_
  refine s_aload 3 rfl rfl ?_
  refine s_callv (o := 15) 4 rfl rfl rfl rfl rfl (ct_3_joints h.1 ?_)
  show am_R K8_goStep q 9 [aR 23, aI v1, aI v2, aR 15, aI v4] [aI (f_3_joints (M 15)), aI v4] M
  refine s_ic 5 rfl (fun h1 => ?_) (fun h1 => ?_)
  · exact s_vret 46 rfl (h.2.1 h1)
  · refine s_aload 6 rfl rfl ?_
    refine s_getI (v := M 23 1) 7 rfl rfl rfl ?_
    refine s_iload 8 rfl rfl ?_
    refine s_sh 9 rfl (h.2.2 h1).1 ?_
    refine s_push 10 rfl ?_
    refine s_bin 11 rfl ?_
    refine s_ifne 12 rfl (fun h2 => ?_) (fun h2 => ?_)
    · refine s_iinc [aR 23, aI v1, aI v2, aR 15, aI (v4 + 1)] 44 rfl rfl ((h.2.2 h1).2.2 h2).1 rfl ?_
      refine s_goto 45 rfl ?_
      exact ((h.2.2 h1).2.2 h2).2
    · refine s_aload 13 rfl rfl ?_
      refine s_iload 14 rfl rfl ?_
      refine s_aload 15 rfl rfl ?_
      refine s_iload 16 rfl rfl ?_
      refine s_callv (o := 15) 17 rfl rfl rfl rfl rfl (ct_3_gripOfJoint ((h.2.2 h1).2.1 h2).1 ?_)
      show am_R K8_goStep q 32 [aR 23, aI v1, aI v2, aR 15, aI v4] [aI (f_3_gripOfJoint (M 16) (M 15) (M 19) v4), aI v2, aR 23] M
      refine s_callv (o := 23) 18 rfl rfl rfl rfl rfl (am_S.mono ((h.2.2 h1).2.1 h2).2 ?_)
      rintro r4 M3 ⟨x5, rfl, g6⟩
      show am_R K8_goStep q 35 [aR 23, aI v1, aI v2, aR 15, aI v4] [aI x5] M3
      refine s_if 19 rfl (fun h7 => ?_) (fun h7 => ?_)
      · refine s_iinc [aR 23, aI v1, aI v2, aR 15, aI (v4 + 1)] 44 rfl rfl (g6.1 h7).1 rfl ?_
        refine s_goto 45 rfl ?_
        exact (g6.1 h7).2
      · refine s_aload 20 rfl rfl ?_
        refine s_dupR 21 rfl ?_
        refine s_getI (v := M3 23 1) 22 rfl rfl rfl ?_
        refine s_push 23 rfl ?_
        refine s_iload 24 rfl rfl ?_
        refine s_sh 25 rfl (h.2.2 h1).1 ?_
        refine s_bin 26 rfl ?_
        refine s_nameI (fun x8 ex8 => ?_)
        refine s_putI 27 rfl rfl ?_
        refine s_aload 28 rfl rfl ?_
        refine s_dupR 29 rfl ?_
        refine s_getI (v := M3 23 4) 30 rfl rfl rfl ?_
        refine s_push 31 rfl ?_
        refine s_binX (v := (M3 23 4) + 1) 32 rfl ((g6.2 h7) x8 ex8).1 rfl ?_
        refine s_nameI (fun x9 ex9 => ?_)
        refine s_putI 33 rfl rfl ?_
        refine s_aload 34 rfl rfl ?_
        refine s_getI (v := M3 23 2) 35 rfl rfl rfl ?_
        refine s_push 36 rfl ?_
        refine s_icne 37 rfl (fun h10 => ?_) (fun h10 => ?_)
        · refine s_iinc [aR 23, aI v1, aI v2, aR 15, aI (v4 + 1)] 44 rfl rfl ((((g6.2 h7) x8 ex8).2 x9 ex9).2 h10).1 rfl ?_
          refine s_goto 45 rfl ?_
          exact ((((g6.2 h7) x8 ex8).2 x9 ex9).2 h10).2
        · refine s_aload 38 rfl rfl ?_
          refine s_iload 39 rfl rfl ?_
          refine s_putI 40 rfl rfl ?_
          refine s_aload 41 rfl rfl ?_
          refine s_iload 42 rfl rfl ?_
          refine s_putI 43 rfl rfl ?_
          refine s_iinc [aR 23, aI v1, aI v2, aR 15, aI (v4 + 1)] 44 rfl rfl ((((g6.2 h7) x8 ex8).2 x9 ex9).1 h10).1 rfl ?_
          refine s_goto 45 rfl ?_
          exact ((((g6.2 h7) x8 ex8).2 x9 ex9).1 h10).2
theorem e11_goThroughFair {q : am_Q} {M : am_M}  (h : S8_startWhole [aR 23] M (fun _ M1 => am_R K11_goThroughFair q 9 [aR 0, aI 0] [] M1)) : S11_goThroughFair [aR 0] M q := by
  refine am_S.intro rfl rfl ?_
  refine s_aload 0 rfl rfl ?_
  refine s_getR 23 1 rfl rfl ?_
  refine s_callv (o := 23) 2 rfl rfl rfl rfl rfl (am_S.mono h ?_)
  intro r2 M1 g4
  show am_R K11_goThroughFair q 7 [aR 0, aJ] [] M1
  refine s_push 3 rfl ?_
  refine s_istore [aR 0, aI 0] 4 rfl rfl ?_
  exact g4
theorem g11_goThroughFair_9 {q : am_Q} {M : am_M} {v1 : Int} (h : (M 20 4 ≤ v1 → (q aJ M)) ∧ (¬ (M 20 4 ≤ v1) → ((ob_11_densityOfStep (M 8) (M 20) (M 22) v1) ∧ (S8_goStep [aR 23, aI v1, aI (f_11_densityOfStep (M 8) (M 20) (M 22) v1), aR 15] M (fun _ M2 => (-2147483648 ≤ v1 + 1 ∧ v1 + 1 < 2147483648) ∧ (am_R K11_goThroughFair q 9 [aR 0, aI (v1 + 1)] [] M2)))))) : am_R K11_goThroughFair q 9 [aR 0, aI v1] [] M := by
  refine s_iload 5 rfl rfl ?_
  refine s_aload 6 rfl rfl ?_
  refine s_getR 20 7 rfl rfl ?_
  refine s_getI (v := M 20 4) 8 rfl rfl rfl ?_
  refine s_ic 9 rfl (fun h1 => ?_) (fun h1 => ?_)
  · exact s_vret 21 rfl (h.1 h1)
  · refine s_aload 10 rfl rfl ?_
    refine s_getR 23 11 rfl rfl ?_
    refine s_iload 12 rfl rfl ?_
    refine s_aload 13 rfl rfl ?_
    refine s_iload 14 rfl rfl ?_
    refine s_callv (o := 0) 15 rfl rfl rfl rfl rfl (ct_11_densityOfStep (h.2 h1).1 ?_)
    show am_R K11_goThroughFair q 30 [aR 0, aI v1] [aI (f_11_densityOfStep (M 8) (M 20) (M 22) v1), aI v1, aR 23] M
    refine s_aload 16 rfl rfl ?_
    refine s_getR 15 17 rfl rfl ?_
    refine s_callv (o := 23) 18 rfl rfl rfl rfl rfl (am_S.mono (h.2 h1).2 ?_)
    intro r3 M2 g5
    show am_R K11_goThroughFair q 37 [aR 0, aI v1] [] M2
    refine s_iinc [aR 0, aI (v1 + 1)] 19 rfl rfl g5.1 rfl ?_
    refine s_goto 20 rfl ?_
    exact g5.2
theorem e3_behindJoint {q : am_Q} {M : am_M} {v1 : Int} (h : (v1 = (-1) → (q (aI 0) M)) ∧ (¬ (v1 = (-1)) → ((-2147483648 ≤ v1 + 1 ∧ v1 + 1 < 2147483648) ∧ (∀ x2 : Int, x2 = v1 + 1 → (am_R K3_behindJoint q 13 [aR 15, aJ, aI 0, aI x2] [] M))))) : S3_behindJoint [aR 15, aI v1] M q := by
  refine am_S.intro rfl rfl ?_
  refine s_push 0 rfl ?_
  refine s_istore [aR 15, aI v1, aI 0, aJ] 1 rfl rfl ?_
  refine s_iload 2 rfl rfl ?_
  refine s_push 3 rfl ?_
  refine s_icne 4 rfl (fun h1 => ?_) (fun h1 => ?_)
  · refine s_iload 7 rfl rfl ?_
    refine s_push 8 rfl ?_
    refine s_binX (v := v1 + 1) 9 rfl (h.2 h1).1 rfl ?_
    refine s_nameI (fun x2 ex2 => ?_)
    refine s_istore [aR 15, aI v1, aI 0, aI x2] 10 rfl rfl ?_
    exact am_R.jk (ls := [aR 15, aJ, aI 0, aI x2]) ⟨Or.inr rfl, Or.inl rfl, Or.inr rfl, Or.inr rfl, trivial⟩ ((h.2 h1).2 x2 ex2)
  · refine s_iload 5 rfl rfl ?_
    exact s_iret 6 rfl (h.1 h1)
theorem g3_behindJoint_13 {q : am_Q} {M : am_M} {v2 v3 : Int} (h : (M 15 4 ≤ v3 → (q (aI v2) M)) ∧ (¬ (M 15 4 ≤ v3) → ((0 ≤ f_3_whoGoes (M 15) (M 19) v3 ∧ f_3_whoGoes (M 15) (M 19) v3 < 32) ∧ (∀ x2 : Int, x2 = am_or v2 (am_shl 1 (f_3_whoGoes (M 15) (M 19) v3)) → ((-2147483648 ≤ v3 + 1 ∧ v3 + 1 < 2147483648) ∧ (am_R K3_behindJoint q 13 [aR 15, aJ, aI x2, aI (v3 + 1)] [] M)))))) : am_R K3_behindJoint q 13 [aR 15, aJ, aI v2, aI v3] [] M := by
  refine s_iload 11 rfl rfl ?_
  refine s_aload 12 rfl rfl ?_
  refine s_getI (v := M 15 4) 13 rfl rfl rfl ?_
  refine s_ic 14 rfl (fun h1 => ?_) (fun h1 => ?_)
  · refine s_iload 25 rfl rfl ?_
    exact s_iret 26 rfl (h.1 h1)
  · refine s_iload 15 rfl rfl ?_
    refine s_push 16 rfl ?_
    refine s_aload 17 rfl rfl ?_
    refine s_iload 18 rfl rfl ?_
    refine s_callv (o := 15) 19 rfl rfl rfl rfl rfl (ct_3_whoGoes ?_)
    show am_R K3_behindJoint q 28 [aR 15, aJ, aI v2, aI v3] [aI (f_3_whoGoes (M 15) (M 19) v3), aI 1, aI v2] M
    refine s_sh 20 rfl (h.2 h1).1 ?_
    refine s_bin 21 rfl ?_
    refine s_nameI (fun x2 ex2 => ?_)
    refine s_istore [aR 15, aJ, aI x2, aI v3] 22 rfl rfl ?_
    refine s_iinc [aR 15, aJ, aI x2, aI (v3 + 1)] 23 rfl rfl ((h.2 h1).2 x2 ex2).1 rfl ?_
    refine s_goto 24 rfl ?_
    exact ((h.2 h1).2 x2 ex2).2
theorem e11_torn {q : am_Q} {M : am_M} {v1 : Int} {v2 : Int} (h : (v2 < 0 → (q (aI (-2)) M)) ∧ (¬ (v2 < 0) → ((v2 ≤ 3 → (S11_goThroughFair [aR 0] (am_up M 23 0 v1) (fun _ M3 => (v2 = 0 → (q (aI (M3 23 2)) M3)) ∧ (¬ (v2 = 0) → ((v2 = 1 → (q (aI (M3 23 3)) M3)) ∧ (¬ (v2 = 1) → ((v2 = 2 → (q (aI (M3 23 4)) M3)) ∧ (¬ (v2 = 2) → (S3_behindJoint [aR 15, aI (M3 23 2)] M3 (fun r11 M10 => ∃ x12 : Int, r11 = aI x12 ∧ (q (aI x12) M10))))))))))) ∧ (¬ (v2 ≤ 3) → (q (aI (-2)) M))))) : S11_torn [aR 0, aI v1, aI v2] M q := by
  refine am_S.intro rfl rfl ?_
  refine s_iload 0 rfl rfl ?_
  refine s_if 1 rfl (fun h1 => ?_) (fun h1 => ?_)
  · refine s_push 5 rfl ?_
    exact s_iret 6 rfl (h.1 h1)
  · refine s_iload 2 rfl rfl ?_
    refine s_push 3 rfl ?_
    refine s_ic 4 rfl (fun h2 => ?_) (fun h2 => ?_)
    · refine s_aload 7 rfl rfl ?_
      refine s_getR 23 8 rfl rfl ?_
      refine s_iload 9 rfl rfl ?_
      refine s_putI 10 rfl rfl ?_
      refine s_aload 11 rfl rfl ?_
      refine s_callv (o := 0) 12 rfl rfl rfl rfl rfl (am_S.mono ((h.2 h1).1 h2) ?_)
      intro r4 M3 g6
      show am_R K11_torn q 24 [aR 0, aI v1, aI v2] [] M3
      refine s_iload 13 rfl rfl ?_
      refine s_ifne 14 rfl (fun h7 => ?_) (fun h7 => ?_)
      · refine s_iload 19 rfl rfl ?_
        refine s_push 20 rfl ?_
        refine s_icne 21 rfl (fun h8 => ?_) (fun h8 => ?_)
        · refine s_iload 26 rfl rfl ?_
          refine s_push 27 rfl ?_
          refine s_icne 28 rfl (fun h9 => ?_) (fun h9 => ?_)
          · refine s_aload 33 rfl rfl ?_
            refine s_getR 15 34 rfl rfl ?_
            refine s_aload 35 rfl rfl ?_
            refine s_getR 23 36 rfl rfl ?_
            refine s_getI (v := M3 23 2) 37 rfl rfl rfl ?_
            refine s_callv (o := 15) 38 rfl rfl rfl rfl rfl (am_S.mono (((g6.2 h7).2 h8).2 h9) ?_)
            rintro r11 M10 ⟨x12, rfl, g13⟩
            show am_R K11_torn q 78 [aR 0, aI v1, aI v2] [aI x12] M10
            exact s_iret 39 rfl g13
          · refine s_aload 29 rfl rfl ?_
            refine s_getR 23 30 rfl rfl ?_
            refine s_getI (v := M3 23 4) 31 rfl rfl rfl ?_
            refine s_goto 32 rfl ?_
            exact s_iret 39 rfl (((g6.2 h7).2 h8).1 h9)
        · refine s_aload 22 rfl rfl ?_
          refine s_getR 23 23 rfl rfl ?_
          refine s_getI (v := M3 23 3) 24 rfl rfl rfl ?_
          exact s_iret 25 rfl ((g6.2 h7).1 h8)
      · refine s_aload 15 rfl rfl ?_
        refine s_getR 23 16 rfl rfl ?_
        refine s_getI (v := M3 23 2) 17 rfl rfl rfl ?_
        exact s_iret 18 rfl (g6.1 h7)
    · refine s_push 5 rfl ?_
      exact s_iret 6 rfl ((h.2 h1).2 h2)
theorem e11_fairs {q : am_Q} {M : am_M} {v1 : Int} {v2 : Int} (h : (v2 < 1 → (q (aI (-2)) M)) ∧ (¬ (v2 < 1) → ((v2 ≤ 60 → (am_R K11_fairs q 27 [aR 0, aJ, aI v2, aI 0, aI 0] [] (am_up M 23 0 v1))) ∧ (¬ (v2 ≤ 60) → (q (aI (-2)) M))))) : S11_fairs [aR 0, aI v1, aI v2] M q := by
  refine am_S.intro rfl rfl ?_
  refine s_iload 0 rfl rfl ?_
  refine s_push 1 rfl ?_
  refine s_ic 2 rfl (fun h1 => ?_) (fun h1 => ?_)
  · refine s_push 6 rfl ?_
    exact s_iret 7 rfl (h.1 h1)
  · refine s_iload 3 rfl rfl ?_
    refine s_push 4 rfl ?_
    refine s_ic 5 rfl (fun h2 => ?_) (fun h2 => ?_)
    · refine s_push 8 rfl ?_
      refine s_istore [aR 0, aI v1, aI v2, aI 0, aJ] 9 rfl rfl ?_
      refine s_aload 10 rfl rfl ?_
      refine s_getR 23 11 rfl rfl ?_
      refine s_iload 12 rfl rfl ?_
      refine s_putI 13 rfl rfl ?_
      refine s_push 14 rfl ?_
      refine s_istore [aR 0, aI v1, aI v2, aI 0, aI 0] 15 rfl rfl ?_
      exact am_R.jk (ls := [aR 0, aJ, aI v2, aI 0, aI 0]) ⟨Or.inr rfl, Or.inl rfl, Or.inr rfl, Or.inr rfl, Or.inr rfl, trivial⟩ ((h.2 h1).1 h2)
    · refine s_push 6 rfl ?_
      exact s_iret 7 rfl ((h.2 h1).2 h2)
theorem g11_fairs_27 {q : am_Q} {M : am_M} {v2 v3 v4 : Int} (h : (v2 ≤ v4 → (q (aI v3) M)) ∧ (¬ (v2 ≤ v4) → (S11_goThroughFair [aR 0] M (fun _ M2 => (-2147483648 ≤ v3 + (M2 23 4) ∧ v3 + (M2 23 4) < 2147483648) ∧ (∀ x6 : Int, x6 = v3 + (M2 23 4) → ((-2147483648 ≤ v4 + 1 ∧ v4 + 1 < 2147483648) ∧ (am_R K11_fairs q 27 [aR 0, aJ, aI v2, aI x6, aI (v4 + 1)] [] M2))))))) : am_R K11_fairs q 27 [aR 0, aJ, aI v2, aI v3, aI v4] [] M := by
  refine s_iload 16 rfl rfl ?_
  refine s_iload 17 rfl rfl ?_
  refine s_ic 18 rfl (fun h1 => ?_) (fun h1 => ?_)
  · refine s_iload 29 rfl rfl ?_
    exact s_iret 30 rfl (h.1 h1)
  · refine s_aload 19 rfl rfl ?_
    refine s_callv (o := 0) 20 rfl rfl rfl rfl rfl (am_S.mono (h.2 h1) ?_)
    intro r3 M2 g5
    show am_R K11_fairs q 37 [aR 0, aJ, aI v2, aI v3, aI v4] [] M2
    refine s_iload 21 rfl rfl ?_
    refine s_aload 22 rfl rfl ?_
    refine s_getR 23 23 rfl rfl ?_
    refine s_getI (v := M2 23 4) 24 rfl rfl rfl ?_
    refine s_binX (v := v3 + (M2 23 4)) 25 rfl g5.1 rfl ?_
    refine s_nameI (fun x6 ex6 => ?_)
    refine s_istore [aR 0, aJ, aI v2, aI x6, aI v4] 26 rfl rfl ?_
    refine s_iinc [aR 0, aJ, aI v2, aI x6, aI (v4 + 1)] 27 rfl rfl (g5.2 x6 ex6).1 rfl ?_
    refine s_goto 28 rfl ?_
    exact (g5.2 x6 ex6).2
theorem e5_startAt {q : am_Q} {M : am_M} {v1 : Int} (h : SJ_fillL [aR 25, aL 0] M (fun _ M1 => (¬ (v1 < 0) ∧ ¬ (64 ≤ v1) → ((0 ≤ v1 ∧ v1 < 64) ∧ (q aJ (am_up (am_up M1 24 4 1) 25 (v1.toNat) 1)))) ∧ (¬ (¬ (v1 < 0) ∧ ¬ (64 ≤ v1)) → (q aJ (am_up M1 24 4 1))))) : S5_startAt [aR 24, aI v1] M q := by
  refine am_S.intro rfl rfl ?_
  refine s_aload 0 rfl rfl ?_
  refine s_getR 25 1 rfl rfl ?_
  refine s_push 2 rfl ?_
  refine s_call 3 rfl rfl rfl rfl rfl (am_S.mono h ?_)
  intro r2 M1 g4
  show am_R K5_startAt q 8 [aR 24, aI v1] [] M1
  refine s_aload 4 rfl rfl ?_
  refine s_push 5 rfl ?_
  refine s_putL 6 rfl rfl ?_
  refine s_iload 7 rfl rfl ?_
  refine s_call 8 rfl rfl rfl rfl rfl (ct_2_isCell ?_)
  show am_R K5_startAt q 17 [aR 24, aI v1] [aI (if ¬ (v1 < 0) ∧ ¬ (64 ≤ v1) then 1 else 0)] (am_up M1 24 4 1)
  refine s_ifeqB 9 rfl (fun h5 => ?_) (fun h5 => ?_)
  · exact s_vret 15 rfl (g4.2 h5)
  · refine s_aload 10 rfl rfl ?_
    refine s_getR 25 11 rfl rfl ?_
    refine s_iload 12 rfl rfl ?_
    refine s_push 13 rfl ?_
    refine s_last 14 rfl rfl (g4.1 h5).1 ?_
    exact s_vret 15 rfl (g4.1 h5).2
theorem e5_spread {q : am_Q} {M : am_M} {v1 : Int} (h : am_R K5_spread q 4 [aR 24, aI v1, aI 1, aI 0, aJ, aJ, aJ] [] M) : S5_spread [aR 24, aI v1] M q := by
  refine am_S.intro rfl rfl ?_
  refine s_push 0 rfl ?_
  refine s_istore [aR 24, aI v1, aI 1, aJ, aJ, aJ, aJ] 1 rfl rfl ?_
  refine s_push 2 rfl ?_
  refine s_istore [aR 24, aI v1, aI 1, aI 0, aJ, aJ, aJ] 3 rfl rfl ?_
  exact h
theorem g5_spread_4 {q : am_Q} {M : am_M} {v1 v2 v3 : Int} (h : (4 ≤ v3 → ((0 ≤ v1 ∧ v1 < 64) ∧ ((-9223372036854775808 ≤ (M 25 (v1.toNat)) * 60 ∧ (M 25 (v1.toNat)) * 60 < 9223372036854775808) ∧ ((0 ≤ (M 25 (v1.toNat)) * 60 ∧ 0 < v2) ∧ (∀ x2 : Int, x2 = ((M 25 (v1.toNat)) * 60) / v2 → ((-9223372036854775808 ≤ (M 26 (v1.toNat)) + x2 ∧ (M 26 (v1.toNat)) + x2 < 9223372036854775808) ∧ (∀ x3 : Int, x3 = (M 26 (v1.toNat)) + x2 → (am_R K5_spread q 63 [aR 24, aI v1, aJ, aL x2, aJ, aI 0, aJ] [] (am_up M 26 (v1.toNat) x3))))))))) ∧ (¬ (4 ≤ v3) → ((ob_2_beside (M 9) v1 v3) ∧ (∀ x5 : Int, x5 = (if ¬ (f_2_beside (M 9) v1 v3 = (-1)) then 1 else 0) → ((-2147483648 ≤ v2 + x5 ∧ v2 + x5 < 2147483648) ∧ (∀ x6 : Int, x6 = v2 + x5 → ((-2147483648 ≤ v3 + 1 ∧ v3 + 1 < 2147483648) ∧ (am_R K5_spread q 4 [aR 24, aI v1, aI x6, aI (v3 + 1), aJ, aJ, aJ] [] M)))))))) : am_R K5_spread q 4 [aR 24, aI v1, aI v2, aI v3, aJ, aJ, aJ] [] M := by
  refine s_iload 4 rfl rfl ?_
  refine s_push 5 rfl ?_
  refine s_ic 6 rfl (fun h1 => ?_) (fun h1 => ?_)
  · refine s_aload 22 rfl rfl ?_
    refine s_getR 25 23 rfl rfl ?_
    refine s_iload 24 rfl rfl ?_
    refine s_lald (v := M 25 (v1.toNat)) 25 rfl rfl (h.1 h1).1 rfl ?_
    refine s_push 26 rfl ?_
    refine s_binLX (v := (M 25 (v1.toNat)) * 60) 27 rfl (h.1 h1).2.1 rfl ?_
    refine s_iload 28 rfl rfl ?_
    refine s_i2l 29 rfl ?_
    refine s_ldiv 30 rfl (h.1 h1).2.2.1 ?_
    refine s_nameL (fun x2 ex2 => ?_)
    refine s_lstore [aR 24, aI v1, aI v2, aL x2, aJ, aJ, aJ] 31 rfl rfl ?_
    refine s_aload 32 rfl rfl ?_
    refine s_getR 26 33 rfl rfl ?_
    refine s_iload 34 rfl rfl ?_
    refine s_dup2 35 rfl ?_
    refine s_lald (v := M 26 (v1.toNat)) 36 rfl rfl (h.1 h1).1 rfl ?_
    refine s_lload 37 rfl rfl ?_
    refine s_binLX (v := (M 26 (v1.toNat)) + x2) 38 rfl ((h.1 h1).2.2.2 x2 ex2).1 rfl ?_
    refine s_nameL (fun x3 ex3 => ?_)
    refine s_last 39 rfl rfl (h.1 h1).1 ?_
    refine s_push 40 rfl ?_
    refine s_istore [aR 24, aI v1, aI v2, aL x2, aJ, aI 0, aJ] 41 rfl rfl ?_
    exact am_R.jk (ls := [aR 24, aI v1, aJ, aL x2, aJ, aI 0, aJ]) ⟨Or.inr rfl, Or.inr rfl, Or.inl rfl, Or.inr rfl, Or.inr rfl, Or.inr rfl, Or.inr rfl, trivial⟩ (((h.1 h1).2.2.2 x2 ex2).2 x3 ex3)
  · refine s_iload 7 rfl rfl ?_
    refine s_aload 8 rfl rfl ?_
    refine s_getR 7 9 rfl rfl ?_
    refine s_iload 10 rfl rfl ?_
    refine s_iload 11 rfl rfl ?_
    refine s_callv (o := 7) 12 rfl rfl rfl rfl rfl (ct_2_beside (h.2 h1).1 ?_)
    show am_R K5_spread q 19 [aR 24, aI v1, aI v2, aI v3, aJ, aJ, aJ] [aI (f_2_beside (M 9) v1 v3), aI v2] M
    refine s_push 13 rfl ?_
    have j7 : ∀ (x5 : Int) (ex5 : x5 = (if ¬ (f_2_beside (M 9) v1 v3 = (-1)) then 1 else 0)), am_R K5_spread q 28 [aR 24, aI v1, aI v2, aI v3, aJ, aJ, aJ] [aI x5, aI v2] M := by
      intro x5 ex5
      refine s_binX (v := v2 + x5) 18 rfl ((h.2 h1).2 x5 ex5).1 rfl ?_
      refine s_nameI (fun x6 ex6 => ?_)
      refine s_istore [aR 24, aI v1, aI x6, aI v3, aJ, aJ, aJ] 19 rfl rfl ?_
      refine s_iinc [aR 24, aI v1, aI x6, aI (v3 + 1), aJ, aJ, aJ] 20 rfl rfl (((h.2 h1).2 x5 ex5).2 x6 ex6).1 rfl ?_
      refine s_goto 21 rfl ?_
      exact (((h.2 h1).2 x5 ex5).2 x6 ex6).2
    refine s_icne 14 rfl (fun h4 => ?_) (fun h4 => ?_)
    · refine s_push 17 rfl ?_
      exact j7 _ (if_pos (by omega)).symm
    · refine s_push 15 rfl ?_
      refine s_goto 16 rfl ?_
      exact j7 _ (if_neg (by omega)).symm
theorem g5_spread_63 {q : am_Q} {M : am_M} {v1 v3 v5 : Int} (h : (4 ≤ v5 → (q aJ M)) ∧ (¬ (4 ≤ v5) → ((ob_2_beside (M 9) v1 v5) ∧ (∀ x2 : Int, x2 = f_2_beside (M 9) v1 v5 → ((¬ (x2 < 0) ∧ ¬ (64 ≤ x2) → ((0 ≤ x2 ∧ x2 < 64) ∧ ((-9223372036854775808 ≤ (M 26 (x2.toNat)) + v3 ∧ (M 26 (x2.toNat)) + v3 < 9223372036854775808) ∧ (∀ x4 : Int, x4 = (M 26 (x2.toNat)) + v3 → ((-2147483648 ≤ v5 + 1 ∧ v5 + 1 < 2147483648) ∧ (am_R K5_spread q 63 [aR 24, aI v1, aJ, aL v3, aJ, aI (v5 + 1), aJ] [] (am_up M 26 (x2.toNat) x4))))))) ∧ (¬ (¬ (x2 < 0) ∧ ¬ (64 ≤ x2)) → ((-2147483648 ≤ v5 + 1 ∧ v5 + 1 < 2147483648) ∧ (am_R K5_spread q 63 [aR 24, aI v1, aJ, aL v3, aJ, aI (v5 + 1), aJ] [] M)))))))) : am_R K5_spread q 63 [aR 24, aI v1, aJ, aL v3, aJ, aI v5, aJ] [] M := by
  refine s_iload 42 rfl rfl ?_
  refine s_push 43 rfl ?_
  refine s_ic 44 rfl (fun h1 => ?_) (fun h1 => ?_)
  · exact s_vret 64 rfl (h.1 h1)
  · refine s_aload 45 rfl rfl ?_
    refine s_getR 7 46 rfl rfl ?_
    refine s_iload 47 rfl rfl ?_
    refine s_iload 48 rfl rfl ?_
    refine s_callv (o := 7) 49 rfl rfl rfl rfl rfl (ct_2_beside (h.2 h1).1 ?_)
    show am_R K5_spread q 79 [aR 24, aI v1, aJ, aL v3, aJ, aI v5, aJ] [aI (f_2_beside (M 9) v1 v5)] M
    refine s_nameI (fun x2 ex2 => ?_)
    refine s_istore [aR 24, aI v1, aJ, aL v3, aJ, aI v5, aI x2] 50 rfl rfl ?_
    refine s_iload 51 rfl rfl ?_
    refine s_call 52 rfl rfl rfl rfl rfl (ct_2_isCell ?_)
    show am_R K5_spread q 86 [aR 24, aI v1, aJ, aL v3, aJ, aI v5, aI x2] [aI (if ¬ (x2 < 0) ∧ ¬ (64 ≤ x2) then 1 else 0)] M
    refine s_ifeqB 53 rfl (fun h3 => ?_) (fun h3 => ?_)
    · refine s_iinc [aR 24, aI v1, aJ, aL v3, aJ, aI (v5 + 1), aI x2] 62 rfl rfl (((h.2 h1).2 x2 ex2).2 h3).1 rfl ?_
      refine s_goto 63 rfl ?_
      exact am_R.jk (ls := [aR 24, aI v1, aJ, aL v3, aJ, aI (v5 + 1), aJ]) ⟨Or.inr rfl, Or.inr rfl, Or.inr rfl, Or.inr rfl, Or.inr rfl, Or.inr rfl, Or.inl rfl, trivial⟩ (((h.2 h1).2 x2 ex2).2 h3).2
    · refine s_aload 54 rfl rfl ?_
      refine s_getR 26 55 rfl rfl ?_
      refine s_iload 56 rfl rfl ?_
      refine s_dup2 57 rfl ?_
      refine s_lald (v := M 26 (x2.toNat)) 58 rfl rfl (((h.2 h1).2 x2 ex2).1 h3).1 rfl ?_
      refine s_lload 59 rfl rfl ?_
      refine s_binLX (v := (M 26 (x2.toNat)) + v3) 60 rfl (((h.2 h1).2 x2 ex2).1 h3).2.1 rfl ?_
      refine s_nameL (fun x4 ex4 => ?_)
      refine s_last 61 rfl rfl (((h.2 h1).2 x2 ex2).1 h3).1 ?_
      refine s_iinc [aR 24, aI v1, aJ, aL v3, aJ, aI (v5 + 1), aI x2] 62 rfl rfl ((((h.2 h1).2 x2 ex2).1 h3).2.2 x4 ex4).1 rfl ?_
      refine s_goto 63 rfl ?_
      exact am_R.jk (ls := [aR 24, aI v1, aJ, aL v3, aJ, aI (v5 + 1), aJ]) ⟨Or.inr rfl, Or.inr rfl, Or.inr rfl, Or.inr rfl, Or.inr rfl, Or.inr rfl, Or.inl rfl, trivial⟩ ((((h.2 h1).2 x2 ex2).1 h3).2.2 x4 ex4).2
theorem e5_wander {q : am_Q} {M : am_M}  (h : SJ_fillL [aR 26, aL 0] M (fun _ M1 => am_R K5_wander q 10 [aR 24, aI 0] [] M1)) : S5_wander [aR 24] M q := by
  refine am_S.intro rfl rfl ?_
  refine s_aload 0 rfl rfl ?_
  refine s_getR 26 1 rfl rfl ?_
  refine s_push 2 rfl ?_
  refine s_call 3 rfl rfl rfl rfl rfl (am_S.mono h ?_)
  intro r2 M1 g4
  show am_R K5_wander q 8 [aR 24, aJ] [] M1
  refine s_push 4 rfl ?_
  refine s_istore [aR 24, aI 0] 5 rfl rfl ?_
  exact g4
theorem g5_wander_10 {q : am_Q} {M : am_M} {v1 : Int} (h : (64 ≤ v1 → ((-9223372036854775808 ≤ (M 24 4) * 60 ∧ (M 24 4) * 60 < 9223372036854775808) ∧ (∀ x2 : Int, x2 = (M 24 4) * 60 → (q aJ (am_up (am_ob M 25 (am_cpy (M 26) (M 25) 0 0 64)) 24 4 x2))))) ∧ (¬ (64 ≤ v1) → ((0 ≤ v1 ∧ v1 < 64) ∧ (((M 25 (v1.toNat)) = 0 → ((-2147483648 ≤ v1 + 1 ∧ v1 + 1 < 2147483648) ∧ (am_R K5_wander q 10 [aR 24, aI (v1 + 1)] [] M))) ∧ (¬ ((M 25 (v1.toNat)) = 0) → (S5_spread [aR 24, aI v1] M (fun _ M4 => (-2147483648 ≤ v1 + 1 ∧ v1 + 1 < 2147483648) ∧ (am_R K5_wander q 10 [aR 24, aI (v1 + 1)] [] M4)))))))) : am_R K5_wander q 10 [aR 24, aI v1] [] M := by
  refine s_iload 6 rfl rfl ?_
  refine s_push 7 rfl ?_
  refine s_ic 8 rfl (fun h1 => ?_) (fun h1 => ?_)
  · refine s_aload 21 rfl rfl ?_
    refine s_getR 26 22 rfl rfl ?_
    refine s_push 23 rfl ?_
    refine s_aload 24 rfl rfl ?_
    refine s_getR 25 25 rfl rfl ?_
    refine s_push 26 rfl ?_
    refine s_push 27 rfl ?_
    refine s_acpy (n0 := 64) (n1 := 64) 28 rfl rfl rfl (by decide) (by decide) rfl ?_
    refine s_aload 29 rfl rfl ?_
    refine s_dupR 30 rfl ?_
    refine s_getL (v := M 24 4) 31 rfl rfl rfl ?_
    refine s_push 32 rfl ?_
    refine s_binLX (v := (M 24 4) * 60) 33 rfl (h.1 h1).1 rfl ?_
    refine s_nameL (fun x2 ex2 => ?_)
    refine s_putL 34 rfl rfl ?_
    exact s_vret 35 rfl ((h.1 h1).2 x2 ex2)
  · refine s_aload 9 rfl rfl ?_
    refine s_getR 25 10 rfl rfl ?_
    refine s_iload 11 rfl rfl ?_
    refine s_lald (v := M 25 (v1.toNat)) 12 rfl rfl (h.2 h1).1 rfl ?_
    refine s_push 13 rfl ?_
    refine s_lcmp 14 rfl ?_
    refine s_ifX (d := (M 25 (v1.toNat)) = 0) 15 rfl (cq_eq _ _) (fun h3 => ?_) (fun h3 => ?_)
    · refine s_iinc [aR 24, aI (v1 + 1)] 19 rfl rfl ((h.2 h1).2.1 h3).1 rfl ?_
      refine s_goto 20 rfl ?_
      exact ((h.2 h1).2.1 h3).2
    · refine s_aload 16 rfl rfl ?_
      refine s_iload 17 rfl rfl ?_
      refine s_callv (o := 24) 18 rfl rfl rfl rfl rfl (am_S.mono ((h.2 h1).2.2 h3) ?_)
      intro r5 M4 g7
      show am_R K5_wander q 32 [aR 24, aI v1] [] M4
      refine s_iinc [aR 24, aI (v1 + 1)] 19 rfl rfl g7.1 rfl ?_
      refine s_goto 20 rfl ?_
      exact g7.2
theorem e5_likeliestPlace {q : am_Q} {M : am_M}  (h : am_R K5_likeliestPlace q 4 [aR 24, aI 0, aI 1] [] M) : S5_likeliestPlace [aR 24] M q := by
  refine am_S.intro rfl rfl ?_
  refine s_push 0 rfl ?_
  refine s_istore [aR 24, aI 0, aJ] 1 rfl rfl ?_
  refine s_push 2 rfl ?_
  refine s_istore [aR 24, aI 0, aI 1] 3 rfl rfl ?_
  exact h
theorem g5_likeliestPlace_4 {q : am_Q} {M : am_M} {v1 v2 : Int} (h : (64 ≤ v2 → (q (aI v1) M)) ∧ (¬ (64 ≤ v2) → ((0 ≤ v2 ∧ v2 < 64) ∧ ((0 ≤ v1 ∧ v1 < 64) ∧ (∀ x3 : Int, x3 = (if (M 25 (v2.toNat)) ≤ (M 25 (v1.toNat)) then v1 else v2) → ((-2147483648 ≤ v2 + 1 ∧ v2 + 1 < 2147483648) ∧ (am_R K5_likeliestPlace q 4 [aR 24, aI x3, aI (v2 + 1)] [] M))))))) : am_R K5_likeliestPlace q 4 [aR 24, aI v1, aI v2] [] M := by
  refine s_iload 4 rfl rfl ?_
  refine s_push 5 rfl ?_
  refine s_ic 6 rfl (fun h1 => ?_) (fun h1 => ?_)
  · refine s_iload 21 rfl rfl ?_
    exact s_iret 22 rfl (h.1 h1)
  · refine s_aload 7 rfl rfl ?_
    refine s_getR 25 8 rfl rfl ?_
    refine s_iload 9 rfl rfl ?_
    refine s_lald (v := M 25 (v2.toNat)) 10 rfl rfl (h.2 h1).1 rfl ?_
    refine s_aload 11 rfl rfl ?_
    refine s_getR 25 12 rfl rfl ?_
    refine s_iload 13 rfl rfl ?_
    refine s_lald (v := M 25 (v1.toNat)) 14 rfl rfl (h.2 h1).2.1 rfl ?_
    refine s_lcmp 15 rfl ?_
    have j4 : ∀ (x3 : Int) (ex3 : x3 = (if (M 25 (v2.toNat)) ≤ (M 25 (v1.toNat)) then v1 else v2)), am_R K5_likeliestPlace q 28 [aR 24, aI x3, aI v2] [] M := by
      intro x3 ex3
      refine s_iinc [aR 24, aI x3, aI (v2 + 1)] 19 rfl rfl ((h.2 h1).2.2 x3 ex3).1 rfl ?_
      refine s_goto 20 rfl ?_
      exact ((h.2 h1).2.2 x3 ex3).2
    refine s_ifX (d := (M 25 (v2.toNat)) ≤ (M 25 (v1.toNat))) 16 rfl (cq_le _ _) (fun h2 => ?_) (fun h2 => ?_)
    · exact j4 _ (by rw [if_pos h2])
    · refine s_iload 17 rfl rfl ?_
      refine s_istore [aR 24, aI v2, aI v2] 18 rfl rfl ?_
      exact j4 _ (by rw [if_neg h2])
theorem e5_goNearer {q : am_Q} {M : am_M}  (h : S5_likeliestPlace [aR 24] M (fun r2 M1 => ∃ x3 : Int, r2 = aI x3 ∧ (∀ x5 : Int, x5 = f_0_stepsTo (M1 11) x3 → (am_R K5_goNearer q 16 [aR 24, aI x3, aI x5, aI 0, aJ] [] M1)))) : S5_goNearer [aR 24] M q := by
  refine am_S.intro rfl rfl ?_
  refine s_aload 0 rfl rfl ?_
  refine s_callv (o := 24) 1 rfl rfl rfl rfl rfl (am_S.mono h ?_)
  rintro r2 M1 ⟨x3, rfl, g4⟩
  show am_R K5_goNearer q 4 [aR 24, aJ, aJ, aJ, aJ] [aI x3] M1
  refine s_istore [aR 24, aI x3, aJ, aJ, aJ] 2 rfl rfl ?_
  refine s_aload 3 rfl rfl ?_
  refine s_getR 10 4 rfl rfl ?_
  refine s_iload 5 rfl rfl ?_
  refine s_callv (o := 10) 6 rfl rfl rfl rfl rfl (ct_0_stepsTo ?_)
  show am_R K5_goNearer q 13 [aR 24, aI x3, aJ, aJ, aJ] [aI (f_0_stepsTo (M1 11) x3)] M1
  refine s_nameI (fun x5 ex5 => ?_)
  refine s_istore [aR 24, aI x3, aI x5, aJ, aJ] 7 rfl rfl ?_
  refine s_push 8 rfl ?_
  refine s_istore [aR 24, aI x3, aI x5, aI 0, aJ] 9 rfl rfl ?_
  exact (g4 x5 ex5)
theorem g5_goNearer_16 {q : am_Q} {M : am_M} {v1 v2 v3 : Int} (h : (4 ≤ v3 → (q aJ M)) ∧ (¬ (4 ≤ v3) → ((ob_2_beside (M 9) v1 v3) ∧ (∀ x2 : Int, x2 = f_2_beside (M 9) v1 v3 → ((x2 = (-1) → ((-2147483648 ≤ v3 + 1 ∧ v3 + 1 < 2147483648) ∧ (am_R K5_goNearer q 16 [aR 24, aI v1, aI v2, aI (v3 + 1), aJ] [] M))) ∧ (¬ (x2 = (-1)) → ((v2 ≤ 0 → ((-2147483648 ≤ v3 + 1 ∧ v3 + 1 < 2147483648) ∧ (am_R K5_goNearer q 16 [aR 24, aI v1, aI v2, aI (v3 + 1), aJ] [] M))) ∧ (¬ (v2 ≤ 0) → ((v2 ≤ f_0_stepsTo (M 11) x2 → ((-2147483648 ≤ v3 + 1 ∧ v3 + 1 < 2147483648) ∧ (am_R K5_goNearer q 16 [aR 24, aI v1, aI v2, aI (v3 + 1), aJ] [] M))) ∧ (¬ (v2 ≤ f_0_stepsTo (M 11) x2) → (S5_startAt [aR 24, aI x2] M (fun _ M6 => q aJ M6)))))))))))) : am_R K5_goNearer q 16 [aR 24, aI v1, aI v2, aI v3, aJ] [] M := by
  refine s_iload 10 rfl rfl ?_
  refine s_push 11 rfl ?_
  refine s_ic 12 rfl (fun h1 => ?_) (fun h1 => ?_)
  · exact s_vret 36 rfl (h.1 h1)
  · refine s_aload 13 rfl rfl ?_
    refine s_getR 7 14 rfl rfl ?_
    refine s_iload 15 rfl rfl ?_
    refine s_iload 16 rfl rfl ?_
    refine s_callv (o := 7) 17 rfl rfl rfl rfl rfl (ct_2_beside (h.2 h1).1 ?_)
    show am_R K5_goNearer q 30 [aR 24, aI v1, aI v2, aI v3, aJ] [aI (f_2_beside (M 9) v1 v3)] M
    refine s_nameI (fun x2 ex2 => ?_)
    refine s_istore [aR 24, aI v1, aI v2, aI v3, aI x2] 18 rfl rfl ?_
    refine s_iload 19 rfl rfl ?_
    refine s_push 20 rfl ?_
    refine s_ic 21 rfl (fun h3 => ?_) (fun h3 => ?_)
    · refine s_iinc [aR 24, aI v1, aI v2, aI (v3 + 1), aI x2] 34 rfl rfl (((h.2 h1).2 x2 ex2).1 h3).1 rfl ?_
      refine s_goto 35 rfl ?_
      exact am_R.jk (ls := [aR 24, aI v1, aI v2, aI (v3 + 1), aJ]) ⟨Or.inr rfl, Or.inr rfl, Or.inr rfl, Or.inr rfl, Or.inl rfl, trivial⟩ (((h.2 h1).2 x2 ex2).1 h3).2
    · refine s_iload 22 rfl rfl ?_
      refine s_if 23 rfl (fun h4 => ?_) (fun h4 => ?_)
      · refine s_iinc [aR 24, aI v1, aI v2, aI (v3 + 1), aI x2] 34 rfl rfl ((((h.2 h1).2 x2 ex2).2 h3).1 h4).1 rfl ?_
        refine s_goto 35 rfl ?_
        exact am_R.jk (ls := [aR 24, aI v1, aI v2, aI (v3 + 1), aJ]) ⟨Or.inr rfl, Or.inr rfl, Or.inr rfl, Or.inr rfl, Or.inl rfl, trivial⟩ ((((h.2 h1).2 x2 ex2).2 h3).1 h4).2
      · refine s_aload 24 rfl rfl ?_
        refine s_getR 10 25 rfl rfl ?_
        refine s_iload 26 rfl rfl ?_
        refine s_callv (o := 10) 27 rfl rfl rfl rfl rfl (ct_0_stepsTo ?_)
        show am_R K5_goNearer q 51 [aR 24, aI v1, aI v2, aI v3, aI x2] [aI (f_0_stepsTo (M 11) x2)] M
        refine s_iload 28 rfl rfl ?_
        refine s_ic 29 rfl (fun h5 => ?_) (fun h5 => ?_)
        · refine s_iinc [aR 24, aI v1, aI v2, aI (v3 + 1), aI x2] 34 rfl rfl (((((h.2 h1).2 x2 ex2).2 h3).2 h4).1 h5).1 rfl ?_
          refine s_goto 35 rfl ?_
          exact am_R.jk (ls := [aR 24, aI v1, aI v2, aI (v3 + 1), aJ]) ⟨Or.inr rfl, Or.inr rfl, Or.inr rfl, Or.inr rfl, Or.inl rfl, trivial⟩ (((((h.2 h1).2 x2 ex2).2 h3).2 h4).1 h5).2
        · refine s_aload 30 rfl rfl ?_
          refine s_iload 31 rfl rfl ?_
          refine s_callv (o := 24) 32 rfl rfl rfl rfl rfl (am_S.mono (((((h.2 h1).2 x2 ex2).2 h3).2 h4).2 h5) ?_)
          intro r7 M6 g9
          show am_R K5_goNearer q 61 [aR 24, aI v1, aI v2, aI v3, aI x2] [] M6
          exact s_vret 33 rfl g9
theorem e11_loseFrom {q : am_Q} {M : am_M} {v1 : Int} {v2 : Int} (h : S5_startAt [aR 24, aI v1] M (fun _ M1 => (M1 0 15 = 2 → (S0_measureFrom [aR 10, aI (M1 0 14)] M1 (fun _ M6 => am_R K11_loseFrom q 29 [aR 0, aJ, aI v2, aI 0] [] M6))) ∧ (¬ (M1 0 15 = 2) → (am_R K11_loseFrom q 29 [aR 0, aJ, aI v2, aI 0] [] M1)))) : S11_loseFrom [aR 0, aI v1, aI v2] M q := by
  refine am_S.intro rfl rfl ?_
  refine s_aload 0 rfl rfl ?_
  refine s_getR 24 1 rfl rfl ?_
  refine s_iload 2 rfl rfl ?_
  refine s_callv (o := 24) 3 rfl rfl rfl rfl rfl (am_S.mono h ?_)
  intro r2 M1 g4
  show am_R K11_loseFrom q 8 [aR 0, aI v1, aI v2, aJ] [] M1
  refine s_aload 4 rfl rfl ?_
  refine s_getI (v := M1 0 15) 5 rfl rfl rfl ?_
  refine s_push 6 rfl ?_
  refine s_icne 7 rfl (fun h5 => ?_) (fun h5 => ?_)
  · refine s_push 13 rfl ?_
    refine s_istore [aR 0, aI v1, aI v2, aI 0] 14 rfl rfl ?_
    exact am_R.jk (ls := [aR 0, aJ, aI v2, aI 0]) ⟨Or.inr rfl, Or.inl rfl, Or.inr rfl, Or.inr rfl, trivial⟩ (g4.2 h5)
  · refine s_aload 8 rfl rfl ?_
    refine s_getR 10 9 rfl rfl ?_
    refine s_aload 10 rfl rfl ?_
    refine s_getI (v := M1 0 14) 11 rfl rfl rfl ?_
    refine s_callv (o := 10) 12 rfl rfl rfl rfl rfl (am_S.mono (g4.1 h5) ?_)
    intro r7 M6 g9
    show am_R K11_loseFrom q 27 [aR 0, aI v1, aI v2, aJ] [] M6
    refine s_push 13 rfl ?_
    refine s_istore [aR 0, aI v1, aI v2, aI 0] 14 rfl rfl ?_
    exact am_R.jk (ls := [aR 0, aJ, aI v2, aI 0]) ⟨Or.inr rfl, Or.inl rfl, Or.inr rfl, Or.inr rfl, trivial⟩ g9
theorem g11_loseFrom_29 {q : am_Q} {M : am_M} {v2 v3 : Int} (h : (v2 ≤ v3 → (q aJ M)) ∧ (¬ (v2 ≤ v3) → ((M 0 15 = 0 → (q aJ M)) ∧ (¬ (M 0 15 = 0) → ((M 0 15 = 1 → (S5_wander [aR 24] M (fun _ M8 => (-2147483648 ≤ v3 + 1 ∧ v3 + 1 < 2147483648) ∧ (am_R K11_loseFrom q 29 [aR 0, aJ, aI v2, aI (v3 + 1)] [] M8)))) ∧ (¬ (M 0 15 = 1) → (S5_goNearer [aR 24] M (fun _ M4 => (-2147483648 ≤ v3 + 1 ∧ v3 + 1 < 2147483648) ∧ (am_R K11_loseFrom q 29 [aR 0, aJ, aI v2, aI (v3 + 1)] [] M4))))))))) : am_R K11_loseFrom q 29 [aR 0, aJ, aI v2, aI v3] [] M := by
  refine s_iload 15 rfl rfl ?_
  refine s_iload 16 rfl rfl ?_
  refine s_ic 17 rfl (fun h1 => ?_) (fun h1 => ?_)
  · exact s_vret 34 rfl (h.1 h1)
  · refine s_aload 18 rfl rfl ?_
    refine s_getI (v := M 0 15) 19 rfl rfl rfl ?_
    refine s_if 20 rfl (fun h2 => ?_) (fun h2 => ?_)
    · exact s_vret 34 rfl ((h.2 h1).1 h2)
    · refine s_aload 21 rfl rfl ?_
      refine s_getI (v := M 0 15) 22 rfl rfl rfl ?_
      refine s_push 23 rfl ?_
      refine s_icne 24 rfl (fun h3 => ?_) (fun h3 => ?_)
      · refine s_aload 29 rfl rfl ?_
        refine s_getR 24 30 rfl rfl ?_
        refine s_callv (o := 24) 31 rfl rfl rfl rfl rfl (am_S.mono (((h.2 h1).2 h2).2 h3) ?_)
        intro r5 M4 g7
        show am_R K11_loseFrom q 66 [aR 0, aJ, aI v2, aI v3] [] M4
        refine s_iinc [aR 0, aJ, aI v2, aI (v3 + 1)] 32 rfl rfl g7.1 rfl ?_
        refine s_goto 33 rfl ?_
        exact g7.2
      · refine s_aload 25 rfl rfl ?_
        refine s_getR 24 26 rfl rfl ?_
        refine s_callv (o := 24) 27 rfl rfl rfl rfl rfl (am_S.mono (((h.2 h1).2 h2).1 h3) ?_)
        intro r9 M8 g11
        show am_R K11_loseFrom q 56 [aR 0, aJ, aI v2, aI v3] [] M8
        refine s_goto 28 rfl ?_
        refine s_iinc [aR 0, aJ, aI v2, aI (v3 + 1)] 32 rfl rfl g11.1 rfl ?_
        refine s_goto 33 rfl ?_
        exact g11.2
theorem e11_is {q : am_Q} {M : am_M} {v1 : Int} {v2 : Int} {v3 : Int} {v4 : Int} (h : (¬ (v1 < 0) ∧ (¬ (64 ≤ v1) ∧ ¬ ((M 8) (v1.toNat) = (-1))) → ((¬ (v2 < 0) ∧ ¬ (5 < v2) → ((¬ (v3 < 0) ∧ (¬ (64 ≤ v3) ∧ ¬ ((M 8) (v3.toNat) = (-1))) → ((v4 = 0 ∨ v4 = 1 → (S11_loseFrom [aR 0, aI v1, aI v2] M (fun _ M5 => S11_lowest [aL (f_5_chanceOf (M5 25) v3), aL (M5 24 4), aI v4] M5 (fun r10 M9 => ∃ x11 : Int, r10 = aL x11 ∧ (q (aL x11) M9))))) ∧ (¬ (v4 = 0 ∨ v4 = 1) → (q (aL (f_11_refused (-2))) M)))) ∧ (¬ (¬ (v3 < 0) ∧ (¬ (64 ≤ v3) ∧ ¬ ((M 8) (v3.toNat) = (-1)))) → (q (aL (f_11_refused (-2))) M)))) ∧ (¬ (¬ (v2 < 0) ∧ ¬ (5 < v2)) → (q (aL (f_11_refused (-2))) M)))) ∧ (¬ (¬ (v1 < 0) ∧ (¬ (64 ≤ v1) ∧ ¬ ((M 8) (v1.toNat) = (-1)))) → (q (aL (f_11_refused (-2))) M))) : S11_is [aR 0, aI v1, aI v2, aI v3, aI v4] M q := by
  refine am_S.intro rfl rfl ?_
  refine s_aload 0 rfl rfl ?_
  refine s_getR 7 1 rfl rfl ?_
  refine s_iload 2 rfl rfl ?_
  refine s_callv (o := 7) 3 rfl rfl rfl rfl rfl (ct_2_isPlace ?_)
  show am_R K11_is q 8 [aR 0, aI v1, aI v2, aI v3, aI v4] [aI (if ¬ (v1 < 0) ∧ (¬ (64 ≤ v1) ∧ ¬ ((M 8) (v1.toNat) = (-1))) then 1 else 0)] M
  refine s_ifeqB 4 rfl (fun h1 => ?_) (fun h1 => ?_)
  · refine s_push 16 rfl ?_
    refine s_call 17 rfl rfl rfl rfl rfl (ct_11_refused ?_)
    show am_R K11_is q 42 [aR 0, aI v1, aI v2, aI v3, aI v4] [aL (f_11_refused (-2))] M
    exact s_lret 18 rfl (h.2 h1)
  · refine s_iload 5 rfl rfl ?_
    refine s_call 6 rfl rfl rfl rfl rfl (ct_11_areMinutes ?_)
    show am_R K11_is q 15 [aR 0, aI v1, aI v2, aI v3, aI v4] [aI (if ¬ (v2 < 0) ∧ ¬ (5 < v2) then 1 else 0)] M
    refine s_ifeqB 7 rfl (fun h2 => ?_) (fun h2 => ?_)
    · refine s_push 16 rfl ?_
      refine s_call 17 rfl rfl rfl rfl rfl (ct_11_refused ?_)
      show am_R K11_is q 42 [aR 0, aI v1, aI v2, aI v3, aI v4] [aL (f_11_refused (-2))] M
      exact s_lret 18 rfl ((h.1 h1).2 h2)
    · refine s_aload 8 rfl rfl ?_
      refine s_getR 7 9 rfl rfl ?_
      refine s_iload 10 rfl rfl ?_
      refine s_callv (o := 7) 11 rfl rfl rfl rfl rfl (ct_2_isPlace ?_)
      show am_R K11_is q 26 [aR 0, aI v1, aI v2, aI v3, aI v4] [aI (if ¬ (v3 < 0) ∧ (¬ (64 ≤ v3) ∧ ¬ ((M 8) (v3.toNat) = (-1))) then 1 else 0)] M
      refine s_ifeqB 12 rfl (fun h3 => ?_) (fun h3 => ?_)
      · refine s_push 16 rfl ?_
        refine s_call 17 rfl rfl rfl rfl rfl (ct_11_refused ?_)
        show am_R K11_is q 42 [aR 0, aI v1, aI v2, aI v3, aI v4] [aL (f_11_refused (-2))] M
        exact s_lret 18 rfl (((h.1 h1).1 h2).2 h3)
      · refine s_iload 13 rfl rfl ?_
        refine s_call 14 rfl rfl rfl rfl rfl (ct_11_isPart ?_)
        show am_R K11_is q 34 [aR 0, aI v1, aI v2, aI v3, aI v4] [aI (if v4 = 0 ∨ v4 = 1 then 1 else 0)] M
        refine s_ifneB 15 rfl (fun h4 => ?_) (fun h4 => ?_)
        · refine s_aload 19 rfl rfl ?_
          refine s_iload 20 rfl rfl ?_
          refine s_iload 21 rfl rfl ?_
          refine s_callv (o := 0) 22 rfl rfl rfl rfl rfl (am_S.mono ((((h.1 h1).1 h2).1 h3).1 h4) ?_)
          intro r6 M5 g8
          show am_R K11_is q 49 [aR 0, aI v1, aI v2, aI v3, aI v4] [] M5
          refine s_aload 23 rfl rfl ?_
          refine s_getR 24 24 rfl rfl ?_
          refine s_iload 25 rfl rfl ?_
          refine s_callv (o := 24) 26 rfl rfl rfl rfl rfl (ct_5_chanceOf ?_)
          show am_R K11_is q 57 [aR 0, aI v1, aI v2, aI v3, aI v4] [aL (f_5_chanceOf (M5 25) v3)] M5
          refine s_aload 27 rfl rfl ?_
          refine s_getR 24 28 rfl rfl ?_
          refine s_getL (v := M5 24 4) 29 rfl rfl rfl ?_
          refine s_iload 30 rfl rfl ?_
          refine s_call 31 rfl rfl rfl rfl rfl (am_S.mono g8 ?_)
          rintro r10 M9 ⟨x11, rfl, g12⟩
          show am_R K11_is q 69 [aR 0, aI v1, aI v2, aI v3, aI v4] [aL x11] M9
          exact s_lret 32 rfl g12
        · refine s_push 16 rfl ?_
          refine s_call 17 rfl rfl rfl rfl rfl (ct_11_refused ?_)
          show am_R K11_is q 42 [aR 0, aI v1, aI v2, aI v3, aI v4] [aL (f_11_refused (-2))] M
          exact s_lret 18 rfl ((((h.1 h1).1 h2).1 h3).2 h4)
theorem e11_likeliest {q : am_Q} {M : am_M} {v1 : Int} {v2 : Int} (h : (¬ (v1 < 0) ∧ (¬ (64 ≤ v1) ∧ ¬ ((M 8) (v1.toNat) = (-1))) → ((¬ (v2 < 0) ∧ ¬ (5 < v2) → (S11_loseFrom [aR 0, aI v1, aI v2] M (fun _ M3 => S5_likeliestPlace [aR 24] M3 (fun r8 M7 => ∃ x9 : Int, r8 = aI x9 ∧ (q (aI x9) M7))))) ∧ (¬ (¬ (v2 < 0) ∧ ¬ (5 < v2)) → (q (aI (-2)) M)))) ∧ (¬ (¬ (v1 < 0) ∧ (¬ (64 ≤ v1) ∧ ¬ ((M 8) (v1.toNat) = (-1)))) → (q (aI (-2)) M))) : S11_likeliest [aR 0, aI v1, aI v2] M q := by
  refine am_S.intro rfl rfl ?_
  refine s_aload 0 rfl rfl ?_
  refine s_getR 7 1 rfl rfl ?_
  refine s_iload 2 rfl rfl ?_
  refine s_callv (o := 7) 3 rfl rfl rfl rfl rfl (ct_2_isPlace ?_)
  show am_R K11_likeliest q 8 [aR 0, aI v1, aI v2] [aI (if ¬ (v1 < 0) ∧ (¬ (64 ≤ v1) ∧ ¬ ((M 8) (v1.toNat) = (-1))) then 1 else 0)] M
  refine s_ifeqB 4 rfl (fun h1 => ?_) (fun h1 => ?_)
  · refine s_push 8 rfl ?_
    exact s_iret 9 rfl (h.2 h1)
  · refine s_iload 5 rfl rfl ?_
    refine s_call 6 rfl rfl rfl rfl rfl (ct_11_areMinutes ?_)
    show am_R K11_likeliest q 15 [aR 0, aI v1, aI v2] [aI (if ¬ (v2 < 0) ∧ ¬ (5 < v2) then 1 else 0)] M
    refine s_ifneB 7 rfl (fun h2 => ?_) (fun h2 => ?_)
    · refine s_aload 10 rfl rfl ?_
      refine s_iload 11 rfl rfl ?_
      refine s_iload 12 rfl rfl ?_
      refine s_callv (o := 0) 13 rfl rfl rfl rfl rfl (am_S.mono ((h.1 h1).1 h2) ?_)
      intro r4 M3 g6
      show am_R K11_likeliest q 27 [aR 0, aI v1, aI v2] [] M3
      refine s_aload 14 rfl rfl ?_
      refine s_getR 24 15 rfl rfl ?_
      refine s_callv (o := 24) 16 rfl rfl rfl rfl rfl (am_S.mono g6 ?_)
      rintro r8 M7 ⟨x9, rfl, g10⟩
      show am_R K11_likeliest q 34 [aR 0, aI v1, aI v2] [aI x9] M7
      exact s_iret 17 rfl g10
    · refine s_push 8 rfl ?_
      exact s_iret 9 rfl ((h.1 h1).2 h2)
theorem e11_withTearing {q : am_Q} {M : am_M} {v1 : Int} (h : am_R K11_withTearing q 5 [aR 0, aJ, aJ, aL v1, aJ, aI 0] [] M) : S11_withTearing [aR 0, aL v1] M q := by
  refine am_S.intro rfl rfl ?_
  refine s_lload 0 rfl rfl ?_
  refine s_lstore [aR 0, aL v1, aJ, aL v1, aJ, aJ] 1 rfl rfl ?_
  refine s_push 2 rfl ?_
  refine s_istore [aR 0, aL v1, aJ, aL v1, aJ, aI 0] 3 rfl rfl ?_
  exact am_R.jk (ls := [aR 0, aJ, aJ, aL v1, aJ, aI 0]) ⟨Or.inr rfl, Or.inl rfl, Or.inr rfl, Or.inr rfl, Or.inr rfl, Or.inr rfl, trivial⟩ h
theorem g11_withTearing_5 {q : am_Q} {M : am_M} {v3 v5 : Int} (h : (3 < v5 → (S11_fairs [aR 0, aI 7, aI 9] M (fun r3 M2 => ∃ x4 : Int, r3 = aI x4 ∧ (∀ x6 : Int, x6 = w64 ((w64 (31 * v3)) + x4) → (S11_is [aR 0, aI 0, aI 3, aI 1, aI 0] M2 (fun r8 M7 => ∃ x9 : Int, r8 = aL x9 ∧ (∀ x11 : Int, x11 = w64 ((w64 (31 * x6)) + x9) → (S11_is [aR 0, aI 0, aI 3, aI 1, aI 1] M7 (fun r13 M12 => ∃ x14 : Int, r13 = aL x14 ∧ (∀ x16 : Int, x16 = w64 ((w64 (31 * x11)) + x14) → (S11_likeliest [aR 0, aI 0, aI 4] M12 (fun r18 M17 => ∃ x19 : Int, r18 = aI x19 ∧ (q (aL (w64 ((w64 (31 * x16)) + x19))) M17))))))))))))) ∧ (¬ (3 < v5) → (S11_torn [aR 0, aI 7, aI v5] M (fun r22 M21 => ∃ x23 : Int, r22 = aI x23 ∧ (∀ x25 : Int, x25 = w64 ((w64 (31 * v3)) + x23) → ((-2147483648 ≤ v5 + 1 ∧ v5 + 1 < 2147483648) ∧ (am_R K11_withTearing q 5 [aR 0, aJ, aJ, aL x25, aJ, aI (v5 + 1)] [] M21))))))) : am_R K11_withTearing q 5 [aR 0, aJ, aJ, aL v3, aJ, aI v5] [] M := by
  refine s_iload 4 rfl rfl ?_
  refine s_push 5 rfl ?_
  refine s_ic 6 rfl (fun h1 => ?_) (fun h1 => ?_)
  · refine s_push 19 rfl ?_
    refine s_lload 20 rfl rfl ?_
    refine s_binL 21 rfl ?_
    refine s_aload 22 rfl rfl ?_
    refine s_push 23 rfl ?_
    refine s_push 24 rfl ?_
    refine s_callv (o := 0) 25 rfl rfl rfl rfl rfl (am_S.mono (h.1 h1) ?_)
    rintro r3 M2 ⟨x4, rfl, g5⟩
    show am_R K11_withTearing q 46 [aR 0, aJ, aJ, aL v3, aJ, aI v5] [aI x4, aL (w64 (31 * v3))] M2
    refine s_i2l 26 rfl ?_
    refine s_binL 27 rfl ?_
    refine s_nameL (fun x6 ex6 => ?_)
    refine s_lstore [aR 0, aJ, aJ, aL x6, aJ, aI v5] 28 rfl rfl ?_
    refine s_push 29 rfl ?_
    refine s_lload 30 rfl rfl ?_
    refine s_binL 31 rfl ?_
    refine s_aload 32 rfl rfl ?_
    refine s_push 33 rfl ?_
    refine s_push 34 rfl ?_
    refine s_push 35 rfl ?_
    refine s_push 36 rfl ?_
    refine s_callv (o := 0) 37 rfl rfl rfl rfl rfl (am_S.mono (g5 x6 ex6) ?_)
    rintro r8 M7 ⟨x9, rfl, g10⟩
    show am_R K11_withTearing q 62 [aR 0, aJ, aJ, aL x6, aJ, aI v5] [aL x9, aL (w64 (31 * x6))] M7
    refine s_binL 38 rfl ?_
    refine s_nameL (fun x11 ex11 => ?_)
    refine s_lstore [aR 0, aJ, aJ, aL x11, aJ, aI v5] 39 rfl rfl ?_
    refine s_push 40 rfl ?_
    refine s_lload 41 rfl rfl ?_
    refine s_binL 42 rfl ?_
    refine s_aload 43 rfl rfl ?_
    refine s_push 44 rfl ?_
    refine s_push 45 rfl ?_
    refine s_push 46 rfl ?_
    refine s_push 47 rfl ?_
    refine s_callv (o := 0) 48 rfl rfl rfl rfl rfl (am_S.mono (g10 x11 ex11) ?_)
    rintro r13 M12 ⟨x14, rfl, g15⟩
    show am_R K11_withTearing q 77 [aR 0, aJ, aJ, aL x11, aJ, aI v5] [aL x14, aL (w64 (31 * x11))] M12
    refine s_binL 49 rfl ?_
    refine s_nameL (fun x16 ex16 => ?_)
    refine s_lstore [aR 0, aJ, aJ, aL x16, aJ, aI v5] 50 rfl rfl ?_
    refine s_push 51 rfl ?_
    refine s_lload 52 rfl rfl ?_
    refine s_binL 53 rfl ?_
    refine s_aload 54 rfl rfl ?_
    refine s_push 55 rfl ?_
    refine s_push 56 rfl ?_
    refine s_callv (o := 0) 57 rfl rfl rfl rfl rfl (am_S.mono (g15 x16 ex16) ?_)
    rintro r18 M17 ⟨x19, rfl, g20⟩
    show am_R K11_withTearing q 90 [aR 0, aJ, aJ, aL x16, aJ, aI v5] [aI x19, aL (w64 (31 * x16))] M17
    refine s_i2l 58 rfl ?_
    refine s_binL 59 rfl ?_
    exact s_lret 60 rfl g20
  · refine s_push 7 rfl ?_
    refine s_lload 8 rfl rfl ?_
    refine s_binL 9 rfl ?_
    refine s_aload 10 rfl rfl ?_
    refine s_push 11 rfl ?_
    refine s_iload 12 rfl rfl ?_
    refine s_callv (o := 0) 13 rfl rfl rfl rfl rfl (am_S.mono (h.2 h1) ?_)
    rintro r22 M21 ⟨x23, rfl, g24⟩
    show am_R K11_withTearing q 24 [aR 0, aJ, aJ, aL v3, aJ, aI v5] [aI x23, aL (w64 (31 * v3))] M21
    refine s_i2l 14 rfl ?_
    refine s_binL 15 rfl ?_
    refine s_nameL (fun x25 ex25 => ?_)
    refine s_lstore [aR 0, aJ, aJ, aL x25, aJ, aI v5] 16 rfl rfl ?_
    refine s_iinc [aR 0, aJ, aJ, aL x25, aJ, aI (v5 + 1)] 17 rfl rfl (g24 x25 ex25).1 rfl ?_
    refine s_goto 18 rfl ?_
    exact (g24 x25 ex25).2
theorem e6_bestShare {q : am_Q} {M : am_M} {v1 : Int} (h : am_R K6_bestShare q 4 [aR 30, aI v1, aI 0, aI 1, aJ] [] M) : S6_bestShare [aR 30, aI v1] M q := by
  refine am_S.intro rfl rfl ?_
  refine s_push 0 rfl ?_
  refine s_istore [aR 30, aI v1, aI 0, aJ, aJ] 1 rfl rfl ?_
  refine s_push 2 rfl ?_
  refine s_istore [aR 30, aI v1, aI 0, aI 1, aJ] 3 rfl rfl ?_
  exact h
theorem g6_bestShare_4 {q : am_Q} {M : am_M} {v1 v2 v3 : Int} (h : (32 ≤ v3 → (q (aI v2) M)) ∧ (¬ (32 ≤ v3) → (∀ x3 : Int, x3 = (if am_and v3 (am_xor v1 (-1)) = 0 then 1 else 0) → ((am_and v3 (am_xor v1 (-1)) = 0 → ((ob_6_leastParted (M 33) v3 v1) ∧ (ob_6_leastParted (M 33) v2 v1))) ∧ (∀ x6 : Int, x6 = (if am_and v3 (am_xor v1 (-1)) = 0 then (if f_6_leastParted (M 33) v2 v1 ≤ f_6_leastParted (M 33) v3 v1 then v2 else v3) else v2) → ((-2147483648 ≤ v3 + 1 ∧ v3 + 1 < 2147483648) ∧ (am_R K6_bestShare q 4 [aR 30, aI v1, aI x6, aI (v3 + 1), aJ] [] M))))))) : am_R K6_bestShare q 4 [aR 30, aI v1, aI v2, aI v3, aJ] [] M := by
  refine s_iload 4 rfl rfl ?_
  refine s_push 5 rfl ?_
  refine s_ic 6 rfl (fun h1 => ?_) (fun h1 => ?_)
  · refine s_iload 32 rfl rfl ?_
    exact s_iret 33 rfl (h.1 h1)
  · refine s_iload 7 rfl rfl ?_
    refine s_iload 8 rfl rfl ?_
    refine s_push 9 rfl ?_
    refine s_bin 10 rfl ?_
    refine s_bin 11 rfl ?_
    have j7 : ∀ (x3 : Int) (ex3 : x3 = (if am_and v3 (am_xor v1 (-1)) = 0 then 1 else 0)), am_R K6_bestShare q 23 [aR 30, aI v1, aI v2, aI v3, aJ] [aI x3] M := by
      intro x3 ex3
      refine s_istore [aR 30, aI v1, aI v2, aI v3, aI x3] 16 rfl rfl ?_
      refine s_iload 17 rfl rfl ?_
      have j8 : ∀ (x6 : Int) (ex6 : x6 = (if am_and v3 (am_xor v1 (-1)) = 0 then (if f_6_leastParted (M 33) v2 v1 ≤ f_6_leastParted (M 33) v3 v1 then v2 else v3) else v2)), am_R K6_bestShare q 47 [aR 30, aI v1, aI x6, aI v3, aI x3] [] M := by
        intro x6 ex6
        refine s_iinc [aR 30, aI v1, aI x6, aI (v3 + 1), aI x3] 30 rfl rfl (((h.2 h1) x3 ex3).2 x6 ex6).1 rfl ?_
        refine s_goto 31 rfl ?_
        exact am_R.jk (ls := [aR 30, aI v1, aI x6, aI (v3 + 1), aJ]) ⟨Or.inr rfl, Or.inr rfl, Or.inr rfl, Or.inr rfl, Or.inl rfl, trivial⟩ (((h.2 h1) x3 ex3).2 x6 ex6).2
      refine s_ifeqV (c := am_and v3 (am_xor v1 (-1)) = 0) 18 rfl ex3 (fun h4 => ?_) (fun h4 => ?_)
      · exact j8 _ (by rw [if_neg h4])
      · refine s_aload 19 rfl rfl ?_
        refine s_iload 20 rfl rfl ?_
        refine s_iload 21 rfl rfl ?_
        refine s_callv (o := 30) 22 rfl rfl rfl rfl rfl (ct_6_leastParted (((h.2 h1) x3 ex3).1 h4).1 ?_)
        show am_R K6_bestShare q 36 [aR 30, aI v1, aI v2, aI v3, aI x3] [aI (f_6_leastParted (M 33) v3 v1)] M
        refine s_aload 23 rfl rfl ?_
        refine s_iload 24 rfl rfl ?_
        refine s_iload 25 rfl rfl ?_
        refine s_callv (o := 30) 26 rfl rfl rfl rfl rfl (ct_6_leastParted (((h.2 h1) x3 ex3).1 h4).2 ?_)
        show am_R K6_bestShare q 42 [aR 30, aI v1, aI v2, aI v3, aI x3] [aI (f_6_leastParted (M 33) v2 v1), aI (f_6_leastParted (M 33) v3 v1)] M
        refine s_ic 27 rfl (fun h5 => ?_) (fun h5 => ?_)
        · exact j8 _ (by rw [if_pos h4, if_pos h5])
        · refine s_iload 28 rfl rfl ?_
          refine s_istore [aR 30, aI v1, aI v3, aI v3, aI x3] 29 rfl rfl ?_
          exact j8 _ (by rw [if_pos h4, if_neg h5])
    refine s_ifne 12 rfl (fun h2 => ?_) (fun h2 => ?_)
    · refine s_push 15 rfl ?_
      exact j7 _ (if_neg (by omega)).symm
    · refine s_push 13 rfl ?_
      refine s_goto 14 rfl ?_
      exact j7 _ (if_pos (by omega)).symm
theorem e11_parted {q : am_Q} {M : am_M} {v1 : Int} {v2 : Int} {v3 : Int} (h : (¬ (v1 < 0) ∧ ¬ (5 ≤ v1) → ((¬ (v2 < 0) ∧ ¬ (5 ≤ v2) → ((v1 = v2 → (q (aL (f_11_refused (-2))) M)) ∧ (¬ (v1 = v2) → ((v3 < 0 → (q (aL (f_11_refused (-2))) M)) ∧ (¬ (v3 < 0) → ((v3 ≤ 2 → (S11_canSeek [aR 0, aI v1, aI v2] M (fun r7 M6 => ∃ x8 : Int, r7 = aI x8 ∧ ((x8 = 0 → (q (aL (f_11_refused (-3))) M6)) ∧ (¬ (x8 = 0) → ((ob_4_asBits (M6 27)) ∧ (∀ x11 : Int, x11 = f_4_asBits (M6 27) → (S6_solve [aR 30, aI x11] M6 (fun _ M12 => S6_bestShare [aR 30, aI x11] M12 (fun r17 M16 => ∃ x18 : Int, r17 = aI x18 ∧ ((v3 = 2 → (q (aL x18) M16)) ∧ (¬ (v3 = 2) → ((ob_6_leastParted (M16 33) x18 x11) ∧ (S4_weightOf [aR 27, aI x11] M16 (fun r22 M21 => ∃ x23 : Int, r22 = aI x23 ∧ (S11_lowest [aL (f_6_leastParted (M16 33) x18 x11), aL x23, aI v3] M21 (fun r26 M25 => ∃ x27 : Int, r26 = aL x27 ∧ (q (aL x27) M25)))))))))))))))))) ∧ (¬ (v3 ≤ 2) → (q (aL (f_11_refused (-2))) M)))))))) ∧ (¬ (¬ (v2 < 0) ∧ ¬ (5 ≤ v2)) → (q (aL (f_11_refused (-2))) M)))) ∧ (¬ (¬ (v1 < 0) ∧ ¬ (5 ≤ v1)) → (q (aL (f_11_refused (-2))) M))) : S11_parted [aR 0, aI v1, aI v2, aI v3] M q := by
  refine am_S.intro rfl rfl ?_
  refine s_iload 0 rfl rfl ?_
  refine s_call 1 rfl rfl rfl rfl rfl (ct_3_isPerson ?_)
  show am_R K11_parted q 4 [aR 0, aI v1, aI v2, aI v3, aJ, aJ] [aI (if ¬ (v1 < 0) ∧ ¬ (5 ≤ v1) then 1 else 0)] M
  refine s_ifeqB 2 rfl (fun h1 => ?_) (fun h1 => ?_)
  · refine s_push 14 rfl ?_
    refine s_call 15 rfl rfl rfl rfl rfl (ct_11_refused ?_)
    show am_R K11_parted q 33 [aR 0, aI v1, aI v2, aI v3, aJ, aJ] [aL (f_11_refused (-2))] M
    exact s_lret 16 rfl (h.2 h1)
  · refine s_iload 3 rfl rfl ?_
    refine s_call 4 rfl rfl rfl rfl rfl (ct_3_isPerson ?_)
    show am_R K11_parted q 11 [aR 0, aI v1, aI v2, aI v3, aJ, aJ] [aI (if ¬ (v2 < 0) ∧ ¬ (5 ≤ v2) then 1 else 0)] M
    refine s_ifeqB 5 rfl (fun h2 => ?_) (fun h2 => ?_)
    · refine s_push 14 rfl ?_
      refine s_call 15 rfl rfl rfl rfl rfl (ct_11_refused ?_)
      show am_R K11_parted q 33 [aR 0, aI v1, aI v2, aI v3, aJ, aJ] [aL (f_11_refused (-2))] M
      exact s_lret 16 rfl ((h.1 h1).2 h2)
    · refine s_iload 6 rfl rfl ?_
      refine s_iload 7 rfl rfl ?_
      refine s_ic 8 rfl (fun h3 => ?_) (fun h3 => ?_)
      · refine s_push 14 rfl ?_
        refine s_call 15 rfl rfl rfl rfl rfl (ct_11_refused ?_)
        show am_R K11_parted q 33 [aR 0, aI v1, aI v2, aI v3, aJ, aJ] [aL (f_11_refused (-2))] M
        exact s_lret 16 rfl (((h.1 h1).1 h2).1 h3)
      · refine s_iload 9 rfl rfl ?_
        refine s_if 10 rfl (fun h4 => ?_) (fun h4 => ?_)
        · refine s_push 14 rfl ?_
          refine s_call 15 rfl rfl rfl rfl rfl (ct_11_refused ?_)
          show am_R K11_parted q 33 [aR 0, aI v1, aI v2, aI v3, aJ, aJ] [aL (f_11_refused (-2))] M
          exact s_lret 16 rfl ((((h.1 h1).1 h2).2 h3).1 h4)
        · refine s_iload 11 rfl rfl ?_
          refine s_push 12 rfl ?_
          refine s_ic 13 rfl (fun h5 => ?_) (fun h5 => ?_)
          · refine s_aload 17 rfl rfl ?_
            refine s_iload 18 rfl rfl ?_
            refine s_iload 19 rfl rfl ?_
            refine s_callv (o := 0) 20 rfl rfl rfl rfl rfl (am_S.mono (((((h.1 h1).1 h2).2 h3).2 h4).1 h5) ?_)
            rintro r7 M6 ⟨x8, rfl, g9⟩
            show am_R K11_parted q 40 [aR 0, aI v1, aI v2, aI v3, aJ, aJ] [aI x8] M6
            refine s_ifne 21 rfl (fun h10 => ?_) (fun h10 => ?_)
            · refine s_aload 25 rfl rfl ?_
              refine s_getR 27 26 rfl rfl ?_
              refine s_callv (o := 27) 27 rfl rfl rfl rfl rfl (ct_4_asBits (g9.2 h10).1 ?_)
              show am_R K11_parted q 56 [aR 0, aI v1, aI v2, aI v3, aJ, aJ] [aI (f_4_asBits (M6 27))] M6
              refine s_nameI (fun x11 ex11 => ?_)
              refine s_istore [aR 0, aI v1, aI v2, aI v3, aI x11, aJ] 28 rfl rfl ?_
              refine s_aload 29 rfl rfl ?_
              refine s_getR 30 30 rfl rfl ?_
              refine s_iload 31 rfl rfl ?_
              refine s_callv (o := 30) 32 rfl rfl rfl rfl rfl (am_S.mono ((g9.2 h10).2 x11 ex11) ?_)
              intro r13 M12 g15
              show am_R K11_parted q 67 [aR 0, aI v1, aI v2, aI v3, aI x11, aJ] [] M12
              refine s_aload 33 rfl rfl ?_
              refine s_getR 30 34 rfl rfl ?_
              refine s_iload 35 rfl rfl ?_
              refine s_callv (o := 30) 36 rfl rfl rfl rfl rfl (am_S.mono g15 ?_)
              rintro r17 M16 ⟨x18, rfl, g19⟩
              show am_R K11_parted q 76 [aR 0, aI v1, aI v2, aI v3, aI x11, aJ] [aI x18] M16
              refine s_istore [aR 0, aI v1, aI v2, aI v3, aI x11, aI x18] 37 rfl rfl ?_
              refine s_iload 38 rfl rfl ?_
              refine s_push 39 rfl ?_
              refine s_icne 40 rfl (fun h20 => ?_) (fun h20 => ?_)
              · refine s_aload 44 rfl rfl ?_
                refine s_getR 30 45 rfl rfl ?_
                refine s_iload 46 rfl rfl ?_
                refine s_iload 47 rfl rfl ?_
                refine s_callv (o := 30) 48 rfl rfl rfl rfl rfl (ct_6_leastParted (g19.2 h20).1 ?_)
                show am_R K11_parted q 100 [aR 0, aI v1, aI v2, aI v3, aI x11, aI x18] [aI (f_6_leastParted (M16 33) x18 x11)] M16
                refine s_i2l 49 rfl ?_
                refine s_aload 50 rfl rfl ?_
                refine s_getR 27 51 rfl rfl ?_
                refine s_iload 52 rfl rfl ?_
                refine s_callv (o := 27) 53 rfl rfl rfl rfl rfl (am_S.mono (g19.2 h20).2 ?_)
                rintro r22 M21 ⟨x23, rfl, g24⟩
                show am_R K11_parted q 110 [aR 0, aI v1, aI v2, aI v3, aI x11, aI x18] [aI x23, aL (f_6_leastParted (M16 33) x18 x11)] M21
                refine s_i2l 54 rfl ?_
                refine s_iload 55 rfl rfl ?_
                refine s_call 56 rfl rfl rfl rfl rfl (am_S.mono g24 ?_)
                rintro r26 M25 ⟨x27, rfl, g28⟩
                show am_R K11_parted q 115 [aR 0, aI v1, aI v2, aI v3, aI x11, aI x18] [aL x27] M25
                exact s_lret 57 rfl g28
              · refine s_iload 41 rfl rfl ?_
                refine s_i2l 42 rfl ?_
                refine s_goto 43 rfl ?_
                exact s_lret 57 rfl (g19.1 h20)
            · refine s_push 22 rfl ?_
              refine s_call 23 rfl rfl rfl rfl rfl (ct_11_refused ?_)
              show am_R K11_parted q 48 [aR 0, aI v1, aI v2, aI v3, aJ, aJ] [aL (f_11_refused (-3))] M6
              exact s_lret 24 rfl (g9.1 h10)
          · refine s_push 14 rfl ?_
            refine s_call 15 rfl rfl rfl rfl rfl (ct_11_refused ?_)
            show am_R K11_parted q 33 [aR 0, aI v1, aI v2, aI v3, aJ, aJ] [aL (f_11_refused (-2))] M
            exact s_lret 16 rfl (((((h.1 h1).1 h2).2 h3).2 h4).2 h5)
theorem e11_leastFar {q : am_Q} {M : am_M}  (h : am_R K11_leastFar q 4 [aR 0, aI (-1), aI 0] [] M) : S11_leastFar [aR 0] M q := by
  refine am_S.intro rfl rfl ?_
  refine s_push 0 rfl ?_
  refine s_istore [aR 0, aI (-1), aJ] 1 rfl rfl ?_
  refine s_push 2 rfl ?_
  refine s_istore [aR 0, aI (-1), aI 0] 3 rfl rfl ?_
  exact h
theorem g11_leastFar_4 {q : am_Q} {M : am_M} {v1 v2 : Int} (h : (64 ≤ v2 → (q (aI v1) M)) ∧ (¬ (64 ≤ v2) → ((0 ≤ v2 ∧ v2 < 64) ∧ ((¬ (M 43 (v2.toNat) = (-1)) → (¬ (v1 = (-1)) → (0 ≤ v1 ∧ v1 < 64))) ∧ (∀ x5 : Int, x5 = (if M 43 (v2.toNat) = (-1) then v1 else if v1 = (-1) then v2 else if M 43 (v1.toNat) ≤ M 43 (v2.toNat) then v1 else v2) → ((-2147483648 ≤ v2 + 1 ∧ v2 + 1 < 2147483648) ∧ (am_R K11_leastFar q 4 [aR 0, aI x5, aI (v2 + 1)] [] M))))))) : am_R K11_leastFar q 4 [aR 0, aI v1, aI v2] [] M := by
  refine s_iload 4 rfl rfl ?_
  refine s_push 5 rfl ?_
  refine s_ic 6 rfl (fun h1 => ?_) (fun h1 => ?_)
  · refine s_iload 29 rfl rfl ?_
    exact s_iret 30 rfl (h.1 h1)
  · refine s_aload 7 rfl rfl ?_
    refine s_getR 43 8 rfl rfl ?_
    refine s_iload 9 rfl rfl ?_
    refine s_iald (v := M 43 (v2.toNat)) 10 rfl rfl (h.2 h1).1 rfl ?_
    refine s_push 11 rfl ?_
    have j6 : ∀ (x5 : Int) (ex5 : x5 = (if M 43 (v2.toNat) = (-1) then v1 else if v1 = (-1) then v2 else if M 43 (v1.toNat) ≤ M 43 (v2.toNat) then v1 else v2)), am_R K11_leastFar q 42 [aR 0, aI x5, aI v2] [] M := by
      intro x5 ex5
      refine s_iinc [aR 0, aI x5, aI (v2 + 1)] 27 rfl rfl ((h.2 h1).2.2 x5 ex5).1 rfl ?_
      refine s_goto 28 rfl ?_
      exact ((h.2 h1).2.2 x5 ex5).2
    refine s_ic 12 rfl (fun h2 => ?_) (fun h2 => ?_)
    · exact j6 _ (by rw [if_pos h2])
    · refine s_iload 13 rfl rfl ?_
      refine s_push 14 rfl ?_
      refine s_ic 15 rfl (fun h3 => ?_) (fun h3 => ?_)
      · refine s_iload 25 rfl rfl ?_
        refine s_istore [aR 0, aI v2, aI v2] 26 rfl rfl ?_
        exact j6 _ (by rw [if_neg h2, if_pos h3])
      · refine s_aload 16 rfl rfl ?_
        refine s_getR 43 17 rfl rfl ?_
        refine s_iload 18 rfl rfl ?_
        refine s_iald (v := M 43 (v2.toNat)) 19 rfl rfl (h.2 h1).1 rfl ?_
        refine s_aload 20 rfl rfl ?_
        refine s_getR 43 21 rfl rfl ?_
        refine s_iload 22 rfl rfl ?_
        refine s_iald (v := M 43 (v1.toNat)) 23 rfl rfl (((h.2 h1).2.1 h2) h3) rfl ?_
        refine s_ic 24 rfl (fun h4 => ?_) (fun h4 => ?_)
        · exact j6 _ (by rw [if_neg h2, if_neg h3, if_pos h4])
        · refine s_iload 25 rfl rfl ?_
          refine s_istore [aR 0, aI v2, aI v2] 26 rfl rfl ?_
          exact j6 _ (by rw [if_neg h2, if_neg h3, if_neg h4])
theorem e11_meet {q : am_Q} {M : am_M} {v1 : Int} {v2 : Int} (h : (v1 < 1 → (q (aI (-2)) M)) ∧ (¬ (v1 < 1) → ((31 < v1 → (q (aI (-2)) M)) ∧ (¬ (31 < v1) → ((v2 = 0 ∨ v2 = 1 → (SJ_fillI [aR 43, aI 0] M (fun _ M4 => am_R K11_meet q 31 [aR 0, aI v1, aI v2, aI 0] [] M4))) ∧ (¬ (v2 = 0 ∨ v2 = 1) → (q (aI (-2)) M))))))) : S11_meet [aR 0, aI v1, aI v2] M q := by
  refine am_S.intro rfl rfl ?_
  refine s_iload 0 rfl rfl ?_
  refine s_push 1 rfl ?_
  refine s_ic 2 rfl (fun h1 => ?_) (fun h1 => ?_)
  · refine s_push 9 rfl ?_
    exact s_iret 10 rfl (h.1 h1)
  · refine s_iload 3 rfl rfl ?_
    refine s_push 4 rfl ?_
    refine s_ic 5 rfl (fun h2 => ?_) (fun h2 => ?_)
    · refine s_push 9 rfl ?_
      exact s_iret 10 rfl ((h.2 h1).1 h2)
    · refine s_iload 6 rfl rfl ?_
      refine s_call 7 rfl rfl rfl rfl rfl (ct_11_isPart ?_)
      show am_R K11_meet q 15 [aR 0, aI v1, aI v2, aJ] [aI (if v2 = 0 ∨ v2 = 1 then 1 else 0)] M
      refine s_ifneB 8 rfl (fun h3 => ?_) (fun h3 => ?_)
      · refine s_aload 11 rfl rfl ?_
        refine s_getR 43 12 rfl rfl ?_
        refine s_push 13 rfl ?_
        refine s_call 14 rfl rfl rfl rfl rfl (am_S.mono (((h.2 h1).2 h2).1 h3) ?_)
        intro r5 M4 g7
        show am_R K11_meet q 29 [aR 0, aI v1, aI v2, aJ] [] M4
        refine s_push 15 rfl ?_
        refine s_istore [aR 0, aI v1, aI v2, aI 0] 16 rfl rfl ?_
        exact g7
      · refine s_push 9 rfl ?_
        exact s_iret 10 rfl (((h.2 h1).2 h2).2 h3)
theorem g11_meet_31 {q : am_Q} {M : am_M} {v1 v2 v3 : Int} (h : (5 ≤ v3 → (S11_leastFar [aR 0] M (fun r3 M2 => ∃ x4 : Int, r3 = aI x4 ∧ ((¬ (v2 = 0) → (¬ (x4 < 0) ∧ ¬ (64 ≤ x4) → (0 ≤ x4 ∧ x4 < 64))) ∧ (∀ x8 : Int, x8 = (if v2 = 0 then x4 else if ¬ (x4 < 0) ∧ ¬ (64 ≤ x4) then M2 43 (x4.toNat) else x4) → (q (aI x8) M2)))))) ∧ (¬ (5 ≤ v3) → ((0 ≤ v3 ∧ v3 < 32) ∧ ((am_and (am_shr v1 v3) 1 = 0 → ((-2147483648 ≤ v3 + 1 ∧ v3 + 1 < 2147483648) ∧ (am_R K11_meet q 31 [aR 0, aI v1, aI v2, aI (v3 + 1)] [] M))) ∧ (¬ (am_and (am_shr v1 v3) 1 = 0) → (S11_comeFrom [aR 0, aI (f_3_standOf (M 18) v3)] M (fun _ M10 => (-2147483648 ≤ v3 + 1 ∧ v3 + 1 < 2147483648) ∧ (am_R K11_meet q 31 [aR 0, aI v1, aI v2, aI (v3 + 1)] [] M10)))))))) : am_R K11_meet q 31 [aR 0, aI v1, aI v2, aI v3] [] M := by
  refine s_iload 17 rfl rfl ?_
  refine s_push 18 rfl ?_
  refine s_ic 19 rfl (fun h1 => ?_) (fun h1 => ?_)
  · refine s_aload 34 rfl rfl ?_
    refine s_callv (o := 0) 35 rfl rfl rfl rfl rfl (am_S.mono (h.1 h1) ?_)
    rintro r3 M2 ⟨x4, rfl, g5⟩
    show am_R K11_meet q 66 [aR 0, aI v1, aI v2, aI v3] [aI x4] M2
    refine s_istore [aR 0, aI v1, aI v2, aI x4] 36 rfl rfl ?_
    refine s_iload 37 rfl rfl ?_
    have j14 : ∀ (x8 : Int) (ex8 : x8 = (if v2 = 0 then x4 else if ¬ (x4 < 0) ∧ ¬ (64 ≤ x4) then M2 43 (x4.toNat) else x4)), am_R K11_meet q 88 [aR 0, aI v1, aI v2, aI x4] [aI x8] M2 := by
      intro x8 ex8
      exact s_iret 48 rfl (g5.2 x8 ex8)
    refine s_if 38 rfl (fun h6 => ?_) (fun h6 => ?_)
    · refine s_iload 42 rfl rfl ?_
      refine s_goto 43 rfl ?_
      exact j14 _ (by rw [if_pos h6])
    · refine s_iload 39 rfl rfl ?_
      refine s_call 40 rfl rfl rfl rfl rfl (ct_2_isCell ?_)
      show am_R K11_meet q 75 [aR 0, aI v1, aI v2, aI x4] [aI (if ¬ (x4 < 0) ∧ ¬ (64 ≤ x4) then 1 else 0)] M2
      refine s_ifneB 41 rfl (fun h7 => ?_) (fun h7 => ?_)
      · refine s_aload 44 rfl rfl ?_
        refine s_getR 43 45 rfl rfl ?_
        refine s_iload 46 rfl rfl ?_
        refine s_iald (v := M2 43 (x4.toNat)) 47 rfl rfl ((g5.1 h6) h7) rfl ?_
        exact j14 _ (by rw [if_neg h6, if_pos h7])
      · refine s_iload 42 rfl rfl ?_
        refine s_goto 43 rfl ?_
        exact j14 _ (by rw [if_neg h6, if_neg h7])
  · refine s_iload 20 rfl rfl ?_
    refine s_iload 21 rfl rfl ?_
    refine s_sh 22 rfl (h.2 h1).1 ?_
    refine s_push 23 rfl ?_
    refine s_bin 24 rfl ?_
    refine s_if 25 rfl (fun h9 => ?_) (fun h9 => ?_)
    · refine s_iinc [aR 0, aI v1, aI v2, aI (v3 + 1)] 32 rfl rfl ((h.2 h1).2.1 h9).1 rfl ?_
      refine s_goto 33 rfl ?_
      exact ((h.2 h1).2.1 h9).2
    · refine s_aload 26 rfl rfl ?_
      refine s_aload 27 rfl rfl ?_
      refine s_getR 15 28 rfl rfl ?_
      refine s_iload 29 rfl rfl ?_
      refine s_callv (o := 15) 30 rfl rfl rfl rfl rfl (ct_3_standOf ?_)
      show am_R K11_meet q 53 [aR 0, aI v1, aI v2, aI v3] [aI (f_3_standOf (M 18) v3), aR 0] M
      refine s_callv (o := 0) 31 rfl rfl rfl rfl rfl (am_S.mono ((h.2 h1).2.2 h9) ?_)
      intro r11 M10 g13
      show am_R K11_meet q 56 [aR 0, aI v1, aI v2, aI v3] [] M10
      refine s_iinc [aR 0, aI v1, aI v2, aI (v3 + 1)] 32 rfl rfl g13.1 rfl ?_
      refine s_goto 33 rfl ?_
      exact g13.2
theorem e11_withSeeking {q : am_Q} {M : am_M} {v1 : Int} (h : am_R K11_withSeeking q 5 [aR 0, aJ, aJ, aL v1, aJ, aI 0] [] M) : S11_withSeeking [aR 0, aL v1] M q := by
  refine am_S.intro rfl rfl ?_
  refine s_lload 0 rfl rfl ?_
  refine s_lstore [aR 0, aL v1, aJ, aL v1, aJ, aJ] 1 rfl rfl ?_
  refine s_push 2 rfl ?_
  refine s_istore [aR 0, aL v1, aJ, aL v1, aJ, aI 0] 3 rfl rfl ?_
  exact am_R.jk (ls := [aR 0, aJ, aJ, aL v1, aJ, aI 0]) ⟨Or.inr rfl, Or.inl rfl, Or.inr rfl, Or.inr rfl, Or.inr rfl, Or.inr rfl, trivial⟩ h
theorem g11_withSeeking_5 {q : am_Q} {M : am_M} {v3 v5 : Int} (h : (2 < v5 → (S11_meet [aR 0, aI 7, aI 0] M (fun r3 M2 => ∃ x4 : Int, r3 = aI x4 ∧ (∀ x6 : Int, x6 = w64 ((w64 (31 * v3)) + x4) → (S11_meet [aR 0, aI 7, aI 1] M2 (fun r8 M7 => ∃ x9 : Int, r8 = aI x9 ∧ (∀ x11 : Int, x11 = w64 ((w64 (31 * x6)) + x9) → (S11_counts [aR 0, aI 60, aI 3, aI 2] M7 (fun r13 M12 => ∃ x14 : Int, r13 = aI x14 ∧ (q (aL (w64 ((w64 (31 * x11)) + x14))) M12)))))))))) ∧ (¬ (2 < v5) → (S11_parted [aR 0, aI 0, aI 1, aI v5] M (fun r17 M16 => ∃ x18 : Int, r17 = aL x18 ∧ (∀ x20 : Int, x20 = w64 ((w64 (31 * v3)) + x18) → ((-2147483648 ≤ v5 + 1 ∧ v5 + 1 < 2147483648) ∧ (am_R K11_withSeeking q 5 [aR 0, aJ, aJ, aL x20, aJ, aI (v5 + 1)] [] M16))))))) : am_R K11_withSeeking q 5 [aR 0, aJ, aJ, aL v3, aJ, aI v5] [] M := by
  refine s_iload 4 rfl rfl ?_
  refine s_push 5 rfl ?_
  refine s_ic 6 rfl (fun h1 => ?_) (fun h1 => ?_)
  · refine s_push 19 rfl ?_
    refine s_lload 20 rfl rfl ?_
    refine s_binL 21 rfl ?_
    refine s_aload 22 rfl rfl ?_
    refine s_push 23 rfl ?_
    refine s_push 24 rfl ?_
    refine s_callv (o := 0) 25 rfl rfl rfl rfl rfl (am_S.mono (h.1 h1) ?_)
    rintro r3 M2 ⟨x4, rfl, g5⟩
    show am_R K11_withSeeking q 44 [aR 0, aJ, aJ, aL v3, aJ, aI v5] [aI x4, aL (w64 (31 * v3))] M2
    refine s_i2l 26 rfl ?_
    refine s_binL 27 rfl ?_
    refine s_nameL (fun x6 ex6 => ?_)
    refine s_lstore [aR 0, aJ, aJ, aL x6, aJ, aI v5] 28 rfl rfl ?_
    refine s_push 29 rfl ?_
    refine s_lload 30 rfl rfl ?_
    refine s_binL 31 rfl ?_
    refine s_aload 32 rfl rfl ?_
    refine s_push 33 rfl ?_
    refine s_push 34 rfl ?_
    refine s_callv (o := 0) 35 rfl rfl rfl rfl rfl (am_S.mono (g5 x6 ex6) ?_)
    rintro r8 M7 ⟨x9, rfl, g10⟩
    show am_R K11_withSeeking q 59 [aR 0, aJ, aJ, aL x6, aJ, aI v5] [aI x9, aL (w64 (31 * x6))] M7
    refine s_i2l 36 rfl ?_
    refine s_binL 37 rfl ?_
    refine s_nameL (fun x11 ex11 => ?_)
    refine s_lstore [aR 0, aJ, aJ, aL x11, aJ, aI v5] 38 rfl rfl ?_
    refine s_push 39 rfl ?_
    refine s_lload 40 rfl rfl ?_
    refine s_binL 41 rfl ?_
    refine s_aload 42 rfl rfl ?_
    refine s_push 43 rfl ?_
    refine s_push 44 rfl ?_
    refine s_push 45 rfl ?_
    refine s_callv (o := 0) 46 rfl rfl rfl rfl rfl (am_S.mono (g10 x11 ex11) ?_)
    rintro r13 M12 ⟨x14, rfl, g15⟩
    show am_R K11_withSeeking q 75 [aR 0, aJ, aJ, aL x11, aJ, aI v5] [aI x14, aL (w64 (31 * x11))] M12
    refine s_i2l 47 rfl ?_
    refine s_binL 48 rfl ?_
    exact s_lret 49 rfl g15
  · refine s_push 7 rfl ?_
    refine s_lload 8 rfl rfl ?_
    refine s_binL 9 rfl ?_
    refine s_aload 10 rfl rfl ?_
    refine s_push 11 rfl ?_
    refine s_push 12 rfl ?_
    refine s_iload 13 rfl rfl ?_
    refine s_callv (o := 0) 14 rfl rfl rfl rfl rfl (am_S.mono (h.2 h1) ?_)
    rintro r17 M16 ⟨x18, rfl, g19⟩
    show am_R K11_withSeeking q 24 [aR 0, aJ, aJ, aL v3, aJ, aI v5] [aL x18, aL (w64 (31 * v3))] M16
    refine s_binL 15 rfl ?_
    refine s_nameL (fun x20 ex20 => ?_)
    refine s_lstore [aR 0, aJ, aJ, aL x20, aJ, aI v5] 16 rfl rfl ?_
    refine s_iinc [aR 0, aJ, aJ, aL x20, aJ, aI (v5 + 1)] 17 rfl rfl (g19 x20 ex20).1 rfl ?_
    refine s_goto 18 rfl ?_
    exact (g19 x20 ex20).2
theorem e11_digest {q : am_Q} {M : am_M}  (h : am_R K11_digest q 6 [aR 0, aL 17, aJ, aI 0] [] M) : S11_digest [aR 0] M q := by
  refine am_S.intro rfl rfl ?_
  refine s_push 0 rfl ?_
  refine s_lstore [aR 0, aL 17, aJ, aJ] 1 rfl rfl ?_
  refine s_push 2 rfl ?_
  refine s_istore [aR 0, aL 17, aJ, aI 0] 3 rfl rfl ?_
  exact h
theorem g11_digest_6 {q : am_Q} {M : am_M} {v1 v3 : Int} (h : (8 ≤ v3 → (am_R K11_digest q 33 [aR 0, aL v1, aJ, aI 0] [] M)) ∧ (¬ (8 ≤ v3) → (∀ x2 : Int, x2 = w64 ((w64 (31 * v1)) + (f_11_count (M 7) (M 15) (M 20) (M 1) (M 3) (M 5) (M 27) (M 0) v3)) → ((-2147483648 ≤ v3 + 1 ∧ v3 + 1 < 2147483648) ∧ (am_R K11_digest q 6 [aR 0, aL x2, aJ, aI (v3 + 1)] [] M))))) : am_R K11_digest q 6 [aR 0, aL v1, aJ, aI v3] [] M := by
  refine s_iload 4 rfl rfl ?_
  refine s_push 5 rfl ?_
  refine s_ic 6 rfl (fun h1 => ?_) (fun h1 => ?_)
  · refine s_push 18 rfl ?_
    refine s_istore [aR 0, aL v1, aJ, aI 0] 19 rfl rfl ?_
    exact (h.1 h1)
  · refine s_push 7 rfl ?_
    refine s_lload 8 rfl rfl ?_
    refine s_binL 9 rfl ?_
    refine s_aload 10 rfl rfl ?_
    refine s_iload 11 rfl rfl ?_
    refine s_callv (o := 0) 12 rfl rfl rfl rfl rfl (ct_11_count ?_)
    show am_R K11_digest q 22 [aR 0, aL v1, aJ, aI v3] [aI (f_11_count (M 7) (M 15) (M 20) (M 1) (M 3) (M 5) (M 27) (M 0) v3), aL (w64 (31 * v1))] M
    refine s_i2l 13 rfl ?_
    refine s_binL 14 rfl ?_
    refine s_nameL (fun x2 ex2 => ?_)
    refine s_lstore [aR 0, aL x2, aJ, aI v3] 15 rfl rfl ?_
    refine s_iinc [aR 0, aL x2, aJ, aI (v3 + 1)] 16 rfl rfl ((h.2 h1) x2 ex2).1 rfl ?_
    refine s_goto 17 rfl ?_
    exact ((h.2 h1) x2 ex2).2
theorem g11_digest_33 {q : am_Q} {M : am_M} {v1 v3 : Int} (h : (3 ≤ v3 → (∀ x2 : Int, x2 = w64 ((w64 (31 * v1)) + (f_11_judged (M 20))) → (∀ x3 : Int, x3 = w64 ((w64 (31 * x2)) + (f_11_at (M 20) (M 8) (M 22) (M 20 4))) → (S11_loose [aR 0] M (fun r5 M4 => ∃ x6 : Int, r5 = aI x6 ∧ (∀ x8 : Int, x8 = w64 ((w64 (31 * x3)) + x6) → (S11_risk [aR 0] M4 (fun r10 M9 => ∃ x11 : Int, r10 = aI x11 ∧ (∀ x13 : Int, x13 = w64 ((w64 (31 * x8)) + x11) → (S11_alike [aR 0, aI 0] M9 (fun r15 M14 => ∃ x16 : Int, r15 = aL x16 ∧ (∀ x18 : Int, x18 = w64 ((w64 (31 * x13)) + x16) → (S11_alike [aR 0, aI 1] M14 (fun r20 M19 => ∃ x21 : Int, r20 = aL x21 ∧ (∀ x23 : Int, x23 = w64 ((w64 (31 * x18)) + x21) → (S11_withPersons [aR 0, aL x23] M19 (fun r25 M24 => ∃ x26 : Int, r25 = aL x26 ∧ (S11_withWays [aR 0, aL x26] M24 (fun r29 M28 => ∃ x30 : Int, r29 = aL x30 ∧ (S11_withTearing [aR 0, aL x30] M28 (fun r33 M32 => ∃ x34 : Int, r33 = aL x34 ∧ (S11_withSeeking [aR 0, aL x34] M32 (fun r37 M36 => ∃ x38 : Int, r37 = aL x38 ∧ (q (aL x38) M36)))))))))))))))))))))))) ∧ (¬ (3 ≤ v3) → (S11_fault [aR 0, aI v3] M (fun r41 M40 => ∃ x42 : Int, r41 = aI x42 ∧ (∀ x44 : Int, x44 = w64 ((w64 (31 * v1)) + x42) → ((-2147483648 ≤ v3 + 1 ∧ v3 + 1 < 2147483648) ∧ (am_R K11_digest q 33 [aR 0, aL x44, aJ, aI (v3 + 1)] [] M40))))))) : am_R K11_digest q 33 [aR 0, aL v1, aJ, aI v3] [] M := by
  refine s_iload 20 rfl rfl ?_
  refine s_push 21 rfl ?_
  refine s_ic 22 rfl (fun h1 => ?_) (fun h1 => ?_)
  · refine s_push 34 rfl ?_
    refine s_lload 35 rfl rfl ?_
    refine s_binL 36 rfl ?_
    refine s_aload 37 rfl rfl ?_
    refine s_callv (o := 0) 38 rfl rfl rfl rfl rfl (ct_11_judged ?_)
    show am_R K11_digest q 66 [aR 0, aL v1, aJ, aI v3] [aI (f_11_judged (M 20)), aL (w64 (31 * v1))] M
    refine s_i2l 39 rfl ?_
    refine s_binL 40 rfl ?_
    refine s_nameL (fun x2 ex2 => ?_)
    refine s_lstore [aR 0, aL x2, aJ, aI v3] 41 rfl rfl ?_
    refine s_push 42 rfl ?_
    refine s_lload 43 rfl rfl ?_
    refine s_binL 44 rfl ?_
    refine s_aload 45 rfl rfl ?_
    refine s_aload 46 rfl rfl ?_
    refine s_getR 20 47 rfl rfl ?_
    refine s_getI (v := M 20 4) 48 rfl rfl rfl ?_
    refine s_callv (o := 0) 49 rfl rfl rfl rfl rfl (ct_11_at ?_)
    show am_R K11_digest q 85 [aR 0, aL x2, aJ, aI v3] [aI (f_11_at (M 20) (M 8) (M 22) (M 20 4)), aL (w64 (31 * x2))] M
    refine s_i2l 50 rfl ?_
    refine s_binL 51 rfl ?_
    refine s_nameL (fun x3 ex3 => ?_)
    refine s_lstore [aR 0, aL x3, aJ, aI v3] 52 rfl rfl ?_
    refine s_push 53 rfl ?_
    refine s_lload 54 rfl rfl ?_
    refine s_binL 55 rfl ?_
    refine s_aload 56 rfl rfl ?_
    refine s_callv (o := 0) 57 rfl rfl rfl rfl rfl (am_S.mono (((h.1 h1) x2 ex2) x3 ex3) ?_)
    rintro r5 M4 ⟨x6, rfl, g7⟩
    show am_R K11_digest q 97 [aR 0, aL x3, aJ, aI v3] [aI x6, aL (w64 (31 * x3))] M4
    refine s_i2l 58 rfl ?_
    refine s_binL 59 rfl ?_
    refine s_nameL (fun x8 ex8 => ?_)
    refine s_lstore [aR 0, aL x8, aJ, aI v3] 60 rfl rfl ?_
    refine s_push 61 rfl ?_
    refine s_lload 62 rfl rfl ?_
    refine s_binL 63 rfl ?_
    refine s_aload 64 rfl rfl ?_
    refine s_callv (o := 0) 65 rfl rfl rfl rfl rfl (am_S.mono (g7 x8 ex8) ?_)
    rintro r10 M9 ⟨x11, rfl, g12⟩
    show am_R K11_digest q 109 [aR 0, aL x8, aJ, aI v3] [aI x11, aL (w64 (31 * x8))] M9
    refine s_i2l 66 rfl ?_
    refine s_binL 67 rfl ?_
    refine s_nameL (fun x13 ex13 => ?_)
    refine s_lstore [aR 0, aL x13, aJ, aI v3] 68 rfl rfl ?_
    refine s_push 69 rfl ?_
    refine s_lload 70 rfl rfl ?_
    refine s_binL 71 rfl ?_
    refine s_aload 72 rfl rfl ?_
    refine s_push 73 rfl ?_
    refine s_callv (o := 0) 74 rfl rfl rfl rfl rfl (am_S.mono (g12 x13 ex13) ?_)
    rintro r15 M14 ⟨x16, rfl, g17⟩
    show am_R K11_digest q 122 [aR 0, aL x13, aJ, aI v3] [aL x16, aL (w64 (31 * x13))] M14
    refine s_binL 75 rfl ?_
    refine s_nameL (fun x18 ex18 => ?_)
    refine s_lstore [aR 0, aL x18, aJ, aI v3] 76 rfl rfl ?_
    refine s_push 77 rfl ?_
    refine s_lload 78 rfl rfl ?_
    refine s_binL 79 rfl ?_
    refine s_aload 80 rfl rfl ?_
    refine s_push 81 rfl ?_
    refine s_callv (o := 0) 82 rfl rfl rfl rfl rfl (am_S.mono (g17 x18 ex18) ?_)
    rintro r20 M19 ⟨x21, rfl, g22⟩
    show am_R K11_digest q 134 [aR 0, aL x18, aJ, aI v3] [aL x21, aL (w64 (31 * x18))] M19
    refine s_binL 83 rfl ?_
    refine s_nameL (fun x23 ex23 => ?_)
    refine s_lstore [aR 0, aL x23, aJ, aI v3] 84 rfl rfl ?_
    refine s_aload 85 rfl rfl ?_
    refine s_lload 86 rfl rfl ?_
    refine s_callv (o := 0) 87 rfl rfl rfl rfl rfl (am_S.mono (g22 x23 ex23) ?_)
    rintro r25 M24 ⟨x26, rfl, g27⟩
    show am_R K11_digest q 141 [aR 0, aL x23, aJ, aI v3] [aL x26] M24
    refine s_lstore [aR 0, aL x26, aJ, aI v3] 88 rfl rfl ?_
    refine s_aload 89 rfl rfl ?_
    refine s_lload 90 rfl rfl ?_
    refine s_callv (o := 0) 91 rfl rfl rfl rfl rfl (am_S.mono g27 ?_)
    rintro r29 M28 ⟨x30, rfl, g31⟩
    show am_R K11_digest q 147 [aR 0, aL x26, aJ, aI v3] [aL x30] M28
    refine s_lstore [aR 0, aL x30, aJ, aI v3] 92 rfl rfl ?_
    refine s_aload 93 rfl rfl ?_
    refine s_lload 94 rfl rfl ?_
    refine s_callv (o := 0) 95 rfl rfl rfl rfl rfl (am_S.mono g31 ?_)
    rintro r33 M32 ⟨x34, rfl, g35⟩
    show am_R K11_digest q 153 [aR 0, aL x30, aJ, aI v3] [aL x34] M32
    refine s_lstore [aR 0, aL x34, aJ, aI v3] 96 rfl rfl ?_
    refine s_aload 97 rfl rfl ?_
    refine s_lload 98 rfl rfl ?_
    refine s_callv (o := 0) 99 rfl rfl rfl rfl rfl (am_S.mono g35 ?_)
    rintro r37 M36 ⟨x38, rfl, g39⟩
    show am_R K11_digest q 159 [aR 0, aL x34, aJ, aI v3] [aL x38] M36
    exact s_lret 100 rfl g39
  · refine s_push 23 rfl ?_
    refine s_lload 24 rfl rfl ?_
    refine s_binL 25 rfl ?_
    refine s_aload 26 rfl rfl ?_
    refine s_iload 27 rfl rfl ?_
    refine s_callv (o := 0) 28 rfl rfl rfl rfl rfl (am_S.mono (h.2 h1) ?_)
    rintro r41 M40 ⟨x42, rfl, g43⟩
    show am_R K11_digest q 48 [aR 0, aL v1, aJ, aI v3] [aI x42, aL (w64 (31 * v1))] M40
    refine s_i2l 29 rfl ?_
    refine s_binL 30 rfl ?_
    refine s_nameL (fun x44 ex44 => ?_)
    refine s_lstore [aR 0, aL x44, aJ, aI v3] 31 rfl rfl ?_
    refine s_iinc [aR 0, aL x44, aJ, aI (v3 + 1)] 32 rfl rfl (g43 x44 ex44).1 rfl ?_
    refine s_goto 33 rfl ?_
    exact (g43 x44 ex44).2
theorem e11_forget {q : am_Q} {M : am_M}  (h : ∀ x1 : Int, x1 = M 27 2 → (q (aI x1) (am_up M 27 2 0))) : S11_forget [aR 0] M q := by
  refine am_S.intro rfl rfl ?_
  refine s_aload 0 rfl rfl ?_
  refine s_getR 27 1 rfl rfl ?_
  refine s_getI (v := M 27 2) 2 rfl rfl rfl ?_
  refine s_nameI (fun x1 ex1 => ?_)
  refine s_istore [aR 0, aI x1] 3 rfl rfl ?_
  refine s_aload 4 rfl rfl ?_
  refine s_getR 27 5 rfl rfl ?_
  refine s_push 6 rfl ?_
  refine s_putI 7 rfl rfl ?_
  refine s_iload 8 rfl rfl ?_
  exact s_iret 9 rfl (h x1 ex1)
theorem e11_get {q : am_Q} {M : am_M} {v1 : Int} {v2 : Int} {v3 : Int} (h : (0 ≤ v1 ∧ v1 < 4 → ((¬ (v2 < 0) ∧ ¬ (3 ≤ v2) → (∀ x4 : Int, x4 = f_7_wrongWith (M (35 + v1.toNat)) v2 v3 → ((x4 = 0 → (q (aI (f_7_itemAt (M (35 + v1.toNat)) (M (35 + v1.toNat + 4)) v3)) M)) ∧ (¬ (x4 = 0) → (q (aI (-2147483648)) (am_up M 0 16 x4)))))) ∧ (¬ (¬ (v2 < 0) ∧ ¬ (3 ≤ v2)) → (q (aI (-2147483648)) M)))) ∧ (¬ (0 ≤ v1 ∧ v1 < 4) → (q (aI (-2147483648)) M))) : S11_get [aR 0, aI v1, aI v2, aI v3] M q := by
  refine am_S.intro rfl rfl ?_
  refine s_aload 0 rfl rfl ?_
  refine s_iload 1 rfl rfl ?_
  refine s_callv (o := 0) 2 rfl rfl rfl rfl rfl (ct_11_sheetOf (fun h1 => ?_) (fun h1 => ?_))
  · have hs2 : sx (35 + v1.toNat) := sx_of h1
    show am_R K11_get q 5 [aR 0, aI v1, aI v2, aI v3, aJ, aJ] [aR (35 + v1.toNat)] M
    refine s_astore [aR 0, aI v1, aI v2, aI v3, aR (35 + v1.toNat), aJ] 3 rfl rfl ?_
    refine s_aload 4 rfl rfl ?_
    refine s_nulR 5 rfl ?_
    refine s_iload 6 rfl rfl ?_
    refine s_call 7 rfl rfl rfl rfl rfl (ct_11_isForm ?_)
    show am_R K11_get q 16 [aR 0, aI v1, aI v2, aI v3, aR (35 + v1.toNat), aJ] [aI (if ¬ (v2 < 0) ∧ ¬ (3 ≤ v2) then 1 else 0)] M
    refine s_ifneB 8 rfl (fun h3 => ?_) (fun h3 => ?_)
    · refine s_aload 11 rfl rfl ?_
      refine s_iload 12 rfl rfl ?_
      refine s_iload 13 rfl rfl ?_
      refine s_callv (o := (35 + v1.toNat)) 14 rfl rfl rfl (sx_c hs2) rfl (ct_7_wrongWith (ho := hs2) ?_)
      show am_R K11_get q 30 [aR 0, aI v1, aI v2, aI v3, aR (35 + v1.toNat), aJ] [aI (f_7_wrongWith (M (35 + v1.toNat)) v2 v3)] M
      refine s_nameI (fun x4 ex4 => ?_)
      refine s_istore [aR 0, aI v1, aI v2, aI v3, aR (35 + v1.toNat), aI x4] 15 rfl rfl ?_
      refine s_iload 16 rfl rfl ?_
      refine s_if 17 rfl (fun h5 => ?_) (fun h5 => ?_)
      · refine s_aload 23 rfl rfl ?_
        refine s_iload 24 rfl rfl ?_
        refine s_callv (o := (35 + v1.toNat)) 25 rfl rfl rfl (sx_c hs2) rfl (ct_7_itemAt (ho := hs2) ?_)
        show am_R K11_get q 53 [aR 0, aI v1, aI v2, aI v3, aR (35 + v1.toNat), aI x4] [aI (f_7_itemAt (M (35 + v1.toNat)) (M (35 + v1.toNat + 4)) v3)] M
        exact s_iret 26 rfl ((((h.1 h1).1 h3) x4 ex4).1 h5)
      · refine s_aload 18 rfl rfl ?_
        refine s_iload 19 rfl rfl ?_
        refine s_putI 20 rfl rfl ?_
        refine s_push 21 rfl ?_
        exact s_iret 22 rfl ((((h.1 h1).1 h3) x4 ex4).2 h5)
    · refine s_push 9 rfl ?_
      exact s_iret 10 rfl ((h.1 h1).2 h3)
  · show am_R K11_get q 5 [aR 0, aI v1, aI v2, aI v3, aJ, aJ] [aN] M
    refine s_astore [aR 0, aI v1, aI v2, aI v3, aN, aJ] 3 rfl rfl ?_
    refine s_aload 4 rfl rfl ?_
    refine s_nulN 5 rfl ?_
    refine s_push 9 rfl ?_
    exact s_iret 10 rfl (h.2 h1)
theorem e3_putGrip {q : am_Q} {M : am_M} {v1 : Int} {v2 : Int} {v3 : Int} (h : (¬ (v1 < 0) ∧ ¬ (5 ≤ v1) → ((¬ (v2 < 0) ∧ ¬ (5 ≤ v2) → ((-2147483648 ≤ v1 * 5 ∧ v1 * 5 < 2147483648) ∧ ((-2147483648 ≤ (v1 * 5) + v2 ∧ (v1 * 5) + v2 < 2147483648) ∧ ((0 ≤ (v1 * 5) + v2 ∧ (v1 * 5) + v2 < 25) ∧ ((-2147483648 ≤ v2 * 5 ∧ v2 * 5 < 2147483648) ∧ ((-2147483648 ≤ (v2 * 5) + v1 ∧ (v2 * 5) + v1 < 2147483648) ∧ ((0 ≤ (v2 * 5) + v1 ∧ (v2 * 5) + v1 < 25) ∧ (q aJ (am_up (am_up M 16 (((v1 * 5) + v2).toNat) v3) 16 (((v2 * 5) + v1).toNat) v3))))))))) ∧ (¬ (¬ (v2 < 0) ∧ ¬ (5 ≤ v2)) → (q aJ M)))) ∧ (¬ (¬ (v1 < 0) ∧ ¬ (5 ≤ v1)) → (q aJ M))) : S3_putGrip [aR 15, aI v1, aI v2, aI v3] M q := by
  refine am_S.intro rfl rfl ?_
  refine s_iload 0 rfl rfl ?_
  refine s_call 1 rfl rfl rfl rfl rfl (ct_3_isPerson ?_)
  show am_R K3_putGrip q 4 [aR 15, aI v1, aI v2, aI v3] [aI (if ¬ (v1 < 0) ∧ ¬ (5 ≤ v1) then 1 else 0)] M
  refine s_ifeqB 2 rfl (fun h1 => ?_) (fun h1 => ?_)
  · exact s_vret 24 rfl (h.2 h1)
  · refine s_iload 3 rfl rfl ?_
    refine s_call 4 rfl rfl rfl rfl rfl (ct_3_isPerson ?_)
    show am_R K3_putGrip q 11 [aR 15, aI v1, aI v2, aI v3] [aI (if ¬ (v2 < 0) ∧ ¬ (5 ≤ v2) then 1 else 0)] M
    refine s_ifeqB 5 rfl (fun h2 => ?_) (fun h2 => ?_)
    · exact s_vret 24 rfl ((h.1 h1).2 h2)
    · refine s_aload 6 rfl rfl ?_
      refine s_getR 16 7 rfl rfl ?_
      refine s_iload 8 rfl rfl ?_
      refine s_push 9 rfl ?_
      refine s_binX (v := v1 * 5) 10 rfl ((h.1 h1).1 h2).1 rfl ?_
      refine s_iload 11 rfl rfl ?_
      refine s_binX (v := (v1 * 5) + v2) 12 rfl ((h.1 h1).1 h2).2.1 rfl ?_
      refine s_iload 13 rfl rfl ?_
      refine s_iast 14 rfl rfl ((h.1 h1).1 h2).2.2.1 ?_
      refine s_aload 15 rfl rfl ?_
      refine s_getR 16 16 rfl rfl ?_
      refine s_iload 17 rfl rfl ?_
      refine s_push 18 rfl ?_
      refine s_binX (v := v2 * 5) 19 rfl ((h.1 h1).1 h2).2.2.2.1 rfl ?_
      refine s_iload 20 rfl rfl ?_
      refine s_binX (v := (v2 * 5) + v1) 21 rfl ((h.1 h1).1 h2).2.2.2.2.1 rfl ?_
      refine s_iload 22 rfl rfl ?_
      refine s_iast 23 rfl rfl ((h.1 h1).1 h2).2.2.2.2.2.1 ?_
      exact s_vret 24 rfl ((h.1 h1).1 h2).2.2.2.2.2.2
theorem e11_grip {q : am_Q} {M : am_M} {v1 : Int} {v2 : Int} {v3 : Int} (h : (¬ (v1 < 0) ∧ ¬ (5 ≤ v1) → ((¬ (v2 < 0) ∧ ¬ (5 ≤ v2) → ((v1 = v2 → (q (aI (-2)) M)) ∧ (¬ (v1 = v2) → ((¬ (v3 < 0) ∧ ¬ (16 < v3) → (∀ x5 : Int, x5 = f_3_gripOf (M 16) v1 v2 → (S3_putGrip [aR 15, aI v1, aI v2, aI v3] M (fun _ M6 => q (aI x5) M6)))) ∧ (¬ (¬ (v3 < 0) ∧ ¬ (16 < v3)) → (q (aI (-2)) M)))))) ∧ (¬ (¬ (v2 < 0) ∧ ¬ (5 ≤ v2)) → (q (aI (-2)) M)))) ∧ (¬ (¬ (v1 < 0) ∧ ¬ (5 ≤ v1)) → (q (aI (-2)) M))) : S11_grip [aR 0, aI v1, aI v2, aI v3] M q := by
  refine am_S.intro rfl rfl ?_
  refine s_iload 0 rfl rfl ?_
  refine s_call 1 rfl rfl rfl rfl rfl (ct_3_isPerson ?_)
  show am_R K11_grip q 4 [aR 0, aI v1, aI v2, aI v3, aJ] [aI (if ¬ (v1 < 0) ∧ ¬ (5 ≤ v1) then 1 else 0)] M
  refine s_ifeqB 2 rfl (fun h1 => ?_) (fun h1 => ?_)
  · refine s_push 12 rfl ?_
    exact s_iret 13 rfl (h.2 h1)
  · refine s_iload 3 rfl rfl ?_
    refine s_call 4 rfl rfl rfl rfl rfl (ct_3_isPerson ?_)
    show am_R K11_grip q 11 [aR 0, aI v1, aI v2, aI v3, aJ] [aI (if ¬ (v2 < 0) ∧ ¬ (5 ≤ v2) then 1 else 0)] M
    refine s_ifeqB 5 rfl (fun h2 => ?_) (fun h2 => ?_)
    · refine s_push 12 rfl ?_
      exact s_iret 13 rfl ((h.1 h1).2 h2)
    · refine s_iload 6 rfl rfl ?_
      refine s_iload 7 rfl rfl ?_
      refine s_ic 8 rfl (fun h3 => ?_) (fun h3 => ?_)
      · refine s_push 12 rfl ?_
        exact s_iret 13 rfl (((h.1 h1).1 h2).1 h3)
      · refine s_iload 9 rfl rfl ?_
        refine s_call 10 rfl rfl rfl rfl rfl (ct_11_isSixteenths ?_)
        show am_R K11_grip q 23 [aR 0, aI v1, aI v2, aI v3, aJ] [aI (if ¬ (v3 < 0) ∧ ¬ (16 < v3) then 1 else 0)] M
        refine s_ifneB 11 rfl (fun h4 => ?_) (fun h4 => ?_)
        · refine s_aload 14 rfl rfl ?_
          refine s_getR 15 15 rfl rfl ?_
          refine s_iload 16 rfl rfl ?_
          refine s_iload 17 rfl rfl ?_
          refine s_callv (o := 15) 18 rfl rfl rfl rfl rfl (ct_3_gripOf ?_)
          show am_R K11_grip q 38 [aR 0, aI v1, aI v2, aI v3, aJ] [aI (f_3_gripOf (M 16) v1 v2)] M
          refine s_nameI (fun x5 ex5 => ?_)
          refine s_istore [aR 0, aI v1, aI v2, aI v3, aI x5] 19 rfl rfl ?_
          refine s_aload 20 rfl rfl ?_
          refine s_getR 15 21 rfl rfl ?_
          refine s_iload 22 rfl rfl ?_
          refine s_iload 23 rfl rfl ?_
          refine s_iload 24 rfl rfl ?_
          refine s_callv (o := 15) 25 rfl rfl rfl rfl rfl (am_S.mono (((((h.1 h1).1 h2).2 h3).1 h4) x5 ex5) ?_)
          intro r7 M6 g9
          show am_R K11_grip q 50 [aR 0, aI v1, aI v2, aI v3, aI x5] [] M6
          refine s_iload 26 rfl rfl ?_
          exact s_iret 27 rfl g9
        · refine s_push 12 rfl ?_
          exact s_iret 13 rfl ((((h.1 h1).1 h2).2 h3).2 h4)
theorem e7_putItem {q : am_Q} {M : am_M} {o : Nat} (ho : sx o) {v1 : Int} {v2 : Int} (h : (¬ (v1 < 0) ∧ (¬ ((M o) 2 ≤ v1) ∧ ¬ (64 ≤ v1)) → (∀ x4 : Int, x4 = (if M o 1 = 0 then w8 v2 else if M o 1 = 1 then w16 v2 else v2) → ((0 ≤ v1 ∧ v1 < 64) ∧ (q aJ (am_up M (o + 4) (v1.toNat) x4))))) ∧ (¬ (¬ (v1 < 0) ∧ (¬ ((M o) 2 ≤ v1) ∧ ¬ (64 ≤ v1))) → (q aJ M))) : S7_putItem [aR o, aI v1, aI v2] M q := by
  refine am_S.intro rfl rfl ?_
  refine s_aload 0 rfl rfl ?_
  refine s_iload 1 rfl rfl ?_
  refine s_callv (o := o) 2 rfl rfl rfl (sx_c ho) rfl (ct_7_has (ho := ho) ?_)
  show am_R K7_putItem q 5 [aR o, aI v1, aI v2] [aI (if ¬ (v1 < 0) ∧ (¬ ((M o) 2 ≤ v1) ∧ ¬ (64 ≤ v1)) then 1 else 0)] M
  refine s_ifeqB 3 rfl (fun h1 => ?_) (fun h1 => ?_)
  · exact s_vret 22 rfl (h.2 h1)
  · refine s_aload 4 rfl rfl ?_
    refine s_getR (o + 4) 5 rfl (sx_0 ho) ?_
    refine s_iload 6 rfl rfl ?_
    refine s_aload 7 rfl rfl ?_
    refine s_getI (v := M o 1) 8 rfl (sx_1 ho) rfl ?_
    have j5 : ∀ (x4 : Int) (ex4 : x4 = (if M o 1 = 0 then w8 v2 else if M o 1 = 1 then w16 v2 else v2)), am_R K7_putItem q 39 [aR o, aI v1, aI v2] [aI x4, aI v1, aR (o + 4)] M := by
      intro x4 ex4
      refine s_iast 21 rfl (sx_a ho) ((h.1 h1) x4 ex4).1 ?_
      exact s_vret 22 rfl ((h.1 h1) x4 ex4).2
    refine s_ifne 9 rfl (fun h2 => ?_) (fun h2 => ?_)
    · refine s_aload 13 rfl rfl ?_
      refine s_getI (v := M o 1) 14 rfl (sx_1 ho) rfl ?_
      refine s_push 15 rfl ?_
      refine s_icne 16 rfl (fun h3 => ?_) (fun h3 => ?_)
      · refine s_iload 20 rfl rfl ?_
        exact j5 _ (by rw [if_neg h2, if_neg h3])
      · refine s_iload 17 rfl rfl ?_
        refine s_un 18 rfl ?_
        refine s_goto 19 rfl ?_
        exact j5 _ (by rw [if_neg h2, if_pos h3])
    · refine s_iload 10 rfl rfl ?_
      refine s_un 11 rfl ?_
      refine s_goto 12 rfl ?_
      exact j5 _ (by rw [if_pos h2])
theorem e11_lay {q : am_Q} {M : am_M} {v1 : Int} {v2 : Int} {v3 : Int} {v4 : Int} (h : (0 ≤ v1 ∧ v1 < 4 → ((¬ (v2 < 0) ∧ ¬ (3 ≤ v2) → (∀ x4 : Int, x4 = f_7_wrongWith (M (35 + v1.toNat)) v2 v3 → ((x4 = 0 → (S7_putItem [aR (35 + v1.toNat), aI v3, aI v4] M (fun _ M6 => q (aI 1) M6))) ∧ (¬ (x4 = 0) → (S11_found [aR 0, aI x4] M (fun r11 M10 => ∃ x12 : Int, r11 = aI x12 ∧ (q (aI x12) M10))))))) ∧ (¬ (¬ (v2 < 0) ∧ ¬ (3 ≤ v2)) → (q (aI (-2)) M)))) ∧ (¬ (0 ≤ v1 ∧ v1 < 4) → (q (aI (-2)) M))) : S11_lay [aR 0, aI v1, aI v2, aI v3, aI v4] M q := by
  refine am_S.intro rfl rfl ?_
  refine s_aload 0 rfl rfl ?_
  refine s_iload 1 rfl rfl ?_
  refine s_callv (o := 0) 2 rfl rfl rfl rfl rfl (ct_11_sheetOf (fun h1 => ?_) (fun h1 => ?_))
  · have hs2 : sx (35 + v1.toNat) := sx_of h1
    show am_R K11_lay q 5 [aR 0, aI v1, aI v2, aI v3, aI v4, aJ, aJ] [aR (35 + v1.toNat)] M
    refine s_astore [aR 0, aI v1, aI v2, aI v3, aI v4, aR (35 + v1.toNat), aJ] 3 rfl rfl ?_
    refine s_aload 4 rfl rfl ?_
    refine s_nulR 5 rfl ?_
    refine s_iload 6 rfl rfl ?_
    refine s_call 7 rfl rfl rfl rfl rfl (ct_11_isForm ?_)
    show am_R K11_lay q 16 [aR 0, aI v1, aI v2, aI v3, aI v4, aR (35 + v1.toNat), aJ] [aI (if ¬ (v2 < 0) ∧ ¬ (3 ≤ v2) then 1 else 0)] M
    refine s_ifneB 8 rfl (fun h3 => ?_) (fun h3 => ?_)
    · refine s_aload 11 rfl rfl ?_
      refine s_iload 12 rfl rfl ?_
      refine s_iload 13 rfl rfl ?_
      refine s_callv (o := (35 + v1.toNat)) 14 rfl rfl rfl (sx_c hs2) rfl (ct_7_wrongWith (ho := hs2) ?_)
      show am_R K11_lay q 29 [aR 0, aI v1, aI v2, aI v3, aI v4, aR (35 + v1.toNat), aJ] [aI (f_7_wrongWith (M (35 + v1.toNat)) v2 v3)] M
      refine s_nameI (fun x4 ex4 => ?_)
      refine s_istore [aR 0, aI v1, aI v2, aI v3, aI v4, aR (35 + v1.toNat), aI x4] 15 rfl rfl ?_
      refine s_iload 16 rfl rfl ?_
      refine s_if 17 rfl (fun h5 => ?_) (fun h5 => ?_)
      · refine s_aload 22 rfl rfl ?_
        refine s_iload 23 rfl rfl ?_
        refine s_iload 24 rfl rfl ?_
        refine s_callv (o := (35 + v1.toNat)) 25 rfl rfl rfl (sx_c hs2) rfl (am_S.mono ((((h.1 h1).1 h3) x4 ex4).1 h5) ?_)
        intro r7 M6 g9
        show am_R K11_lay q 51 [aR 0, aI v1, aI v2, aI v3, aI v4, aR (35 + v1.toNat), aI x4] [] M6
        refine s_push 26 rfl ?_
        exact s_iret 27 rfl g9
      · refine s_aload 18 rfl rfl ?_
        refine s_iload 19 rfl rfl ?_
        refine s_callv (o := 0) 20 rfl rfl rfl rfl rfl (am_S.mono ((((h.1 h1).1 h3) x4 ex4).2 h5) ?_)
        rintro r11 M10 ⟨x12, rfl, g13⟩
        show am_R K11_lay q 42 [aR 0, aI v1, aI v2, aI v3, aI v4, aR (35 + v1.toNat), aI x4] [aI x12] M10
        exact s_iret 21 rfl g13
    · refine s_push 9 rfl ?_
      exact s_iret 10 rfl ((h.1 h1).2 h3)
  · show am_R K11_lay q 5 [aR 0, aI v1, aI v2, aI v3, aI v4, aJ, aJ] [aN] M
    refine s_astore [aR 0, aI v1, aI v2, aI v3, aI v4, aN, aJ] 3 rfl rfl ?_
    refine s_aload 4 rfl rfl ?_
    refine s_nulN 5 rfl ?_
    refine s_push 9 rfl ?_
    exact s_iret 10 rfl (h.2 h1)
theorem e4_append {q : am_Q} {M : am_M} {v1 : Int} {v2 : Int} (h : (M 27 2 < 0 → (q aJ M)) ∧ (¬ (M 27 2 < 0) → ((5 ≤ M 27 2 → (q aJ M)) ∧ (¬ (5 ≤ M 27 2) → ((0 ≤ M 27 2 ∧ M 27 2 < 5) ∧ ((-2147483648 ≤ (M 27 2) + 1 ∧ (M 27 2) + 1 < 2147483648) ∧ (∀ x3 : Int, x3 = (M 27 2) + 1 → (q aJ (am_up (am_up (am_up M 28 ((M 27 2).toNat) v1) 29 ((M 27 2).toNat) v2) 27 2 x3))))))))) : S4_append [aR 27, aI v1, aI v2] M q := by
  refine am_S.intro rfl rfl ?_
  refine s_aload 0 rfl rfl ?_
  refine s_getI (v := M 27 2) 1 rfl rfl rfl ?_
  refine s_if 2 rfl (fun h1 => ?_) (fun h1 => ?_)
  · exact s_vret 25 rfl (h.1 h1)
  · refine s_aload 3 rfl rfl ?_
    refine s_getI (v := M 27 2) 4 rfl rfl rfl ?_
    refine s_push 5 rfl ?_
    refine s_ic 6 rfl (fun h2 => ?_) (fun h2 => ?_)
    · exact s_vret 25 rfl ((h.2 h1).1 h2)
    · refine s_aload 7 rfl rfl ?_
      refine s_getR 28 8 rfl rfl ?_
      refine s_aload 9 rfl rfl ?_
      refine s_getI (v := M 27 2) 10 rfl rfl rfl ?_
      refine s_iload 11 rfl rfl ?_
      refine s_iast 12 rfl rfl ((h.2 h1).2 h2).1 ?_
      refine s_aload 13 rfl rfl ?_
      refine s_getR 29 14 rfl rfl ?_
      refine s_aload 15 rfl rfl ?_
      refine s_getI (v := M 27 2) 16 rfl rfl rfl ?_
      refine s_iload 17 rfl rfl ?_
      refine s_iast 18 rfl rfl ((h.2 h1).2 h2).1 ?_
      refine s_aload 19 rfl rfl ?_
      refine s_dupR 20 rfl ?_
      refine s_getI (v := M 27 2) 21 rfl rfl rfl ?_
      refine s_push 22 rfl ?_
      refine s_binX (v := (M 27 2) + 1) 23 rfl ((h.2 h1).2 h2).2.1 rfl ?_
      refine s_nameI (fun x3 ex3 => ?_)
      refine s_putI 24 rfl rfl ?_
      exact s_vret 25 rfl (((h.2 h1).2 h2).2.2 x3 ex3)
theorem e11_look {q : am_Q} {M : am_M} {v1 : Int} {v2 : Int} (h : (¬ (v1 < 0) ∧ ¬ (64 ≤ v1) → ((v2 < 1 → (q (aI (-2)) M)) ∧ (¬ (v2 < 1) → ((v2 ≤ 9 → ((M 27 2 < 5 → (S4_append [aR 27, aI v1, aI v2] M (fun _ M5 => q (aI (M5 27 2)) M5))) ∧ (¬ (M 27 2 < 5) → (q (aI (-4)) M)))) ∧ (¬ (v2 ≤ 9) → (q (aI (-2)) M)))))) ∧ (¬ (¬ (v1 < 0) ∧ ¬ (64 ≤ v1)) → (q (aI (-2)) M))) : S11_look [aR 0, aI v1, aI v2] M q := by
  refine am_S.intro rfl rfl ?_
  refine s_iload 0 rfl rfl ?_
  refine s_call 1 rfl rfl rfl rfl rfl (ct_2_isCell ?_)
  show am_R K11_look q 4 [aR 0, aI v1, aI v2] [aI (if ¬ (v1 < 0) ∧ ¬ (64 ≤ v1) then 1 else 0)] M
  refine s_ifeqB 2 rfl (fun h1 => ?_) (fun h1 => ?_)
  · refine s_push 9 rfl ?_
    exact s_iret 10 rfl (h.2 h1)
  · refine s_iload 3 rfl rfl ?_
    refine s_push 4 rfl ?_
    refine s_ic 5 rfl (fun h2 => ?_) (fun h2 => ?_)
    · refine s_push 9 rfl ?_
      exact s_iret 10 rfl ((h.1 h1).1 h2)
    · refine s_iload 6 rfl rfl ?_
      refine s_push 7 rfl ?_
      refine s_ic 8 rfl (fun h3 => ?_) (fun h3 => ?_)
      · refine s_aload 11 rfl rfl ?_
        refine s_getR 27 12 rfl rfl ?_
        refine s_getI (v := M 27 2) 13 rfl rfl rfl ?_
        refine s_push 14 rfl ?_
        refine s_ic 15 rfl (fun h4 => ?_) (fun h4 => ?_)
        · refine s_aload 18 rfl rfl ?_
          refine s_getR 27 19 rfl rfl ?_
          refine s_iload 20 rfl rfl ?_
          refine s_iload 21 rfl rfl ?_
          refine s_callv (o := 27) 22 rfl rfl rfl rfl rfl (am_S.mono ((((h.1 h1).2 h2).1 h3).1 h4) ?_)
          intro r6 M5 g8
          show am_R K11_look q 44 [aR 0, aI v1, aI v2] [] M5
          refine s_aload 23 rfl rfl ?_
          refine s_getR 27 24 rfl rfl ?_
          refine s_getI (v := M5 27 2) 25 rfl rfl rfl ?_
          exact s_iret 26 rfl g8
        · refine s_push 16 rfl ?_
          exact s_iret 17 rfl ((((h.1 h1).2 h2).1 h3).2 h4)
      · refine s_push 9 rfl ?_
        exact s_iret 10 rfl (((h.1 h1).2 h2).2 h3)
theorem e7_giveUp {q : am_Q} {M : am_M} {o : Nat} (ho : sx o) (h : q aJ (am_up (am_up M o 1 (-1)) o 2 0)) : S7_giveUp [aR o] M q := by
  refine am_S.intro rfl rfl ?_
  refine s_aload 0 rfl rfl ?_
  refine s_push 1 rfl ?_
  refine s_putI 2 rfl (sx_1 ho) ?_
  refine s_aload 3 rfl rfl ?_
  refine s_push 4 rfl ?_
  refine s_putI 5 rfl (sx_2 ho) ?_
  exact s_vret 6 rfl h
theorem e11_lose {q : am_Q} {M : am_M} {v1 : Int} (h : (0 ≤ v1 ∧ v1 < 4 → (((M (35 + v1.toNat)) 1 = (-1) → (S11_found [aR 0, aI 1] M (fun r10 M9 => ∃ x11 : Int, r10 = aI x11 ∧ (q (aI x11) M9)))) ∧ (¬ ((M (35 + v1.toNat)) 1 = (-1)) → (∀ x4 : Int, x4 = M (35 + v1.toNat) 2 → (S7_giveUp [aR (35 + v1.toNat)] M (fun _ M5 => q (aI x4) M5)))))) ∧ (¬ (0 ≤ v1 ∧ v1 < 4) → (q (aI (-2)) M))) : S11_lose [aR 0, aI v1] M q := by
  refine am_S.intro rfl rfl ?_
  refine s_aload 0 rfl rfl ?_
  refine s_iload 1 rfl rfl ?_
  refine s_callv (o := 0) 2 rfl rfl rfl rfl rfl (ct_11_sheetOf (fun h1 => ?_) (fun h1 => ?_))
  · have hs2 : sx (35 + v1.toNat) := sx_of h1
    show am_R K11_lose q 5 [aR 0, aI v1, aJ, aJ] [aR (35 + v1.toNat)] M
    refine s_astore [aR 0, aI v1, aR (35 + v1.toNat), aJ] 3 rfl rfl ?_
    refine s_aload 4 rfl rfl ?_
    refine s_nulR 5 rfl ?_
    refine s_aload 8 rfl rfl ?_
    refine s_callv (o := (35 + v1.toNat)) 9 rfl rfl rfl (sx_c hs2) rfl (ct_7_isLost (ho := hs2) ?_)
    show am_R K11_lose q 17 [aR 0, aI v1, aR (35 + v1.toNat), aJ] [aI (if (M (35 + v1.toNat)) 1 = (-1) then 1 else 0)] M
    refine s_ifeqB 10 rfl (fun h3 => ?_) (fun h3 => ?_)
    · refine s_aload 15 rfl rfl ?_
      refine s_getI (v := M (35 + v1.toNat) 2) 16 rfl (sx_2 hs2) rfl ?_
      refine s_nameI (fun x4 ex4 => ?_)
      refine s_istore [aR 0, aI v1, aR (35 + v1.toNat), aI x4] 17 rfl rfl ?_
      refine s_aload 18 rfl rfl ?_
      refine s_callv (o := (35 + v1.toNat)) 19 rfl rfl rfl (sx_c hs2) rfl (am_S.mono (((h.1 h1).2 h3) x4 ex4) ?_)
      intro r6 M5 g8
      show am_R K11_lose q 35 [aR 0, aI v1, aR (35 + v1.toNat), aI x4] [] M5
      refine s_iload 20 rfl rfl ?_
      exact s_iret 21 rfl g8
    · refine s_aload 11 rfl rfl ?_
      refine s_push 12 rfl ?_
      refine s_callv (o := 0) 13 rfl rfl rfl rfl rfl (am_S.mono ((h.1 h1).1 h3) ?_)
      rintro r10 M9 ⟨x11, rfl, g12⟩
      show am_R K11_lose q 25 [aR 0, aI v1, aR (35 + v1.toNat), aJ] [aI x11] M9
      exact s_iret 14 rfl g12
  · show am_R K11_lose q 5 [aR 0, aI v1, aJ, aJ] [aN] M
    refine s_astore [aR 0, aI v1, aN, aJ] 3 rfl rfl ?_
    refine s_aload 4 rfl rfl ?_
    refine s_nulN 5 rfl ?_
    refine s_push 6 rfl ?_
    exact s_iret 7 rfl (h.2 h1)
theorem e11_person {q : am_Q} {M : am_M} {v1 : Int} {v2 : Int} {v3 : Int} (h : (¬ (v1 < 0) ∧ ¬ (5 ≤ v1) → ((v2 = 0 → ((¬ (v3 < 0) ∧ ¬ (16 < v3) → ((0 ≤ v1 ∧ v1 < 5) ∧ (∀ x10 : Int, x10 = M 17 (v1.toNat) → (q (aI x10) (am_up M 17 (v1.toNat) v3))))) ∧ (¬ (¬ (v3 < 0) ∧ ¬ (16 < v3)) → ((v2 = 1 → ((¬ (v3 < 0) ∧ ¬ (64 ≤ v3) → ((0 ≤ v1 ∧ v1 < 5) ∧ (∀ x9 : Int, x9 = M 18 (v1.toNat) → (q (aI x9) (am_up M 18 (v1.toNat) v3))))) ∧ (¬ (¬ (v3 < 0) ∧ ¬ (64 ≤ v3)) → (q (aI (-2)) M)))) ∧ (¬ (v2 = 1) → (q (aI (-2)) M)))))) ∧ (¬ (v2 = 0) → ((v2 = 1 → ((¬ (v3 < 0) ∧ ¬ (64 ≤ v3) → ((0 ≤ v1 ∧ v1 < 5) ∧ (∀ x5 : Int, x5 = M 18 (v1.toNat) → (q (aI x5) (am_up M 18 (v1.toNat) v3))))) ∧ (¬ (¬ (v3 < 0) ∧ ¬ (64 ≤ v3)) → (q (aI (-2)) M)))) ∧ (¬ (v2 = 1) → (q (aI (-2)) M)))))) ∧ (¬ (¬ (v1 < 0) ∧ ¬ (5 ≤ v1)) → (q (aI (-2)) M))) : S11_person [aR 0, aI v1, aI v2, aI v3] M q := by
  refine am_S.intro rfl rfl ?_
  refine s_iload 0 rfl rfl ?_
  refine s_call 1 rfl rfl rfl rfl rfl (ct_3_isPerson ?_)
  show am_R K11_person q 4 [aR 0, aI v1, aI v2, aI v3, aJ] [aI (if ¬ (v1 < 0) ∧ ¬ (5 ≤ v1) then 1 else 0)] M
  refine s_ifneB 2 rfl (fun h1 => ?_) (fun h1 => ?_)
  · refine s_iload 5 rfl rfl ?_
    refine s_ifne 6 rfl (fun h2 => ?_) (fun h2 => ?_)
    · refine s_iload 24 rfl rfl ?_
      refine s_push 25 rfl ?_
      refine s_icne 26 rfl (fun h3 => ?_) (fun h3 => ?_)
      · refine s_push 44 rfl ?_
        exact s_iret 45 rfl (((h.1 h1).2 h2).2 h3)
      · refine s_iload 27 rfl rfl ?_
        refine s_call 28 rfl rfl rfl rfl rfl (ct_2_isCell ?_)
        show am_R K11_person q 54 [aR 0, aI v1, aI v2, aI v3, aJ] [aI (if ¬ (v3 < 0) ∧ ¬ (64 ≤ v3) then 1 else 0)] M
        refine s_ifeqB 29 rfl (fun h4 => ?_) (fun h4 => ?_)
        · refine s_push 44 rfl ?_
          exact s_iret 45 rfl ((((h.1 h1).2 h2).1 h3).2 h4)
        · refine s_aload 30 rfl rfl ?_
          refine s_getR 15 31 rfl rfl ?_
          refine s_getR 18 32 rfl rfl ?_
          refine s_iload 33 rfl rfl ?_
          refine s_iald (v := M 18 (v1.toNat)) 34 rfl rfl ((((h.1 h1).2 h2).1 h3).1 h4).1 rfl ?_
          refine s_nameI (fun x5 ex5 => ?_)
          refine s_istore [aR 0, aI v1, aI v2, aI v3, aI x5] 35 rfl rfl ?_
          refine s_aload 36 rfl rfl ?_
          refine s_getR 15 37 rfl rfl ?_
          refine s_getR 18 38 rfl rfl ?_
          refine s_iload 39 rfl rfl ?_
          refine s_iload 40 rfl rfl ?_
          refine s_iast 41 rfl rfl ((((h.1 h1).2 h2).1 h3).1 h4).1 ?_
          refine s_iload 42 rfl rfl ?_
          exact s_iret 43 rfl (((((h.1 h1).2 h2).1 h3).1 h4).2 x5 ex5)
    · refine s_iload 7 rfl rfl ?_
      refine s_call 8 rfl rfl rfl rfl rfl (ct_11_isSixteenths ?_)
      show am_R K11_person q 18 [aR 0, aI v1, aI v2, aI v3, aJ] [aI (if ¬ (v3 < 0) ∧ ¬ (16 < v3) then 1 else 0)] M
      refine s_ifeqB 9 rfl (fun h6 => ?_) (fun h6 => ?_)
      · refine s_iload 24 rfl rfl ?_
        refine s_push 25 rfl ?_
        refine s_icne 26 rfl (fun h7 => ?_) (fun h7 => ?_)
        · refine s_push 44 rfl ?_
          exact s_iret 45 rfl ((((h.1 h1).1 h2).2 h6).2 h7)
        · refine s_iload 27 rfl rfl ?_
          refine s_call 28 rfl rfl rfl rfl rfl (ct_2_isCell ?_)
          show am_R K11_person q 54 [aR 0, aI v1, aI v2, aI v3, aJ] [aI (if ¬ (v3 < 0) ∧ ¬ (64 ≤ v3) then 1 else 0)] M
          refine s_ifeqB 29 rfl (fun h8 => ?_) (fun h8 => ?_)
          · refine s_push 44 rfl ?_
            exact s_iret 45 rfl (((((h.1 h1).1 h2).2 h6).1 h7).2 h8)
          · refine s_aload 30 rfl rfl ?_
            refine s_getR 15 31 rfl rfl ?_
            refine s_getR 18 32 rfl rfl ?_
            refine s_iload 33 rfl rfl ?_
            refine s_iald (v := M 18 (v1.toNat)) 34 rfl rfl (((((h.1 h1).1 h2).2 h6).1 h7).1 h8).1 rfl ?_
            refine s_nameI (fun x9 ex9 => ?_)
            refine s_istore [aR 0, aI v1, aI v2, aI v3, aI x9] 35 rfl rfl ?_
            refine s_aload 36 rfl rfl ?_
            refine s_getR 15 37 rfl rfl ?_
            refine s_getR 18 38 rfl rfl ?_
            refine s_iload 39 rfl rfl ?_
            refine s_iload 40 rfl rfl ?_
            refine s_iast 41 rfl rfl (((((h.1 h1).1 h2).2 h6).1 h7).1 h8).1 ?_
            refine s_iload 42 rfl rfl ?_
            exact s_iret 43 rfl ((((((h.1 h1).1 h2).2 h6).1 h7).1 h8).2 x9 ex9)
      · refine s_aload 10 rfl rfl ?_
        refine s_getR 15 11 rfl rfl ?_
        refine s_getR 17 12 rfl rfl ?_
        refine s_iload 13 rfl rfl ?_
        refine s_iald (v := M 17 (v1.toNat)) 14 rfl rfl (((h.1 h1).1 h2).1 h6).1 rfl ?_
        refine s_nameI (fun x10 ex10 => ?_)
        refine s_istore [aR 0, aI v1, aI v2, aI v3, aI x10] 15 rfl rfl ?_
        refine s_aload 16 rfl rfl ?_
        refine s_getR 15 17 rfl rfl ?_
        refine s_getR 17 18 rfl rfl ?_
        refine s_iload 19 rfl rfl ?_
        refine s_iload 20 rfl rfl ?_
        refine s_iast 21 rfl rfl (((h.1 h1).1 h2).1 h6).1 ?_
        refine s_iload 22 rfl rfl ?_
        exact s_iret 23 rfl ((((h.1 h1).1 h2).1 h6).2 x10 ex10)
  · refine s_push 3 rfl ?_
    exact s_iret 4 rfl (h.2 h1)
theorem e11_read {q : am_Q} {M : am_M} {v1 : Int} (h : (0 ≤ v1 ∧ v1 < 4 → (((M (35 + v1.toNat)) 1 = (-1) → (S11_found [aR 0, aI 1] M (fun r5 M4 => ∃ x6 : Int, r5 = aI x6 ∧ (q (aI x6) M4)))) ∧ (¬ ((M (35 + v1.toNat)) 1 = (-1)) → (am_R K11_read q 28 [aR 0, aJ, aR (35 + v1.toNat), aI 0] [] M)))) ∧ (¬ (0 ≤ v1 ∧ v1 < 4) → (q (aI (-2)) M))) : S11_read [aR 0, aI v1] M q := by
  refine am_S.intro rfl rfl ?_
  refine s_aload 0 rfl rfl ?_
  refine s_iload 1 rfl rfl ?_
  refine s_callv (o := 0) 2 rfl rfl rfl rfl rfl (ct_11_sheetOf (fun h1 => ?_) (fun h1 => ?_))
  · have hs2 : sx (35 + v1.toNat) := sx_of h1
    show am_R K11_read q 5 [aR 0, aI v1, aJ, aJ] [aR (35 + v1.toNat)] M
    refine s_astore [aR 0, aI v1, aR (35 + v1.toNat), aJ] 3 rfl rfl ?_
    refine s_aload 4 rfl rfl ?_
    refine s_nulR 5 rfl ?_
    refine s_aload 8 rfl rfl ?_
    refine s_callv (o := (35 + v1.toNat)) 9 rfl rfl rfl (sx_c hs2) rfl (ct_7_isLost (ho := hs2) ?_)
    show am_R K11_read q 17 [aR 0, aI v1, aR (35 + v1.toNat), aJ] [aI (if (M (35 + v1.toNat)) 1 = (-1) then 1 else 0)] M
    refine s_ifeqB 10 rfl (fun h3 => ?_) (fun h3 => ?_)
    · refine s_push 15 rfl ?_
      refine s_istore [aR 0, aI v1, aR (35 + v1.toNat), aI 0] 16 rfl rfl ?_
      exact am_R.jk (ls := [aR 0, aJ, aR (35 + v1.toNat), aI 0]) ⟨Or.inr rfl, Or.inl rfl, Or.inr rfl, Or.inr rfl, trivial⟩ ((h.1 h1).2 h3)
    · refine s_aload 11 rfl rfl ?_
      refine s_push 12 rfl ?_
      refine s_callv (o := 0) 13 rfl rfl rfl rfl rfl (am_S.mono ((h.1 h1).1 h3) ?_)
      rintro r5 M4 ⟨x6, rfl, g7⟩
      show am_R K11_read q 25 [aR 0, aI v1, aR (35 + v1.toNat), aJ] [aI x6] M4
      exact s_iret 14 rfl g7
  · show am_R K11_read q 5 [aR 0, aI v1, aJ, aJ] [aN] M
    refine s_astore [aR 0, aI v1, aN, aJ] 3 rfl rfl ?_
    refine s_aload 4 rfl rfl ?_
    refine s_nulN 5 rfl ?_
    refine s_push 6 rfl ?_
    exact s_iret 7 rfl (h.2 h1)
theorem g11_read_28 {q : am_Q} {M : am_M} {v3 : Int} {o : Nat} (ho : sx o) (h : (5 ≤ v3 → (q (aI v3) M)) ∧ (¬ (5 ≤ v3) → ((¬ (v3 < 0) ∧ (¬ ((M o) 2 ≤ v3) ∧ ¬ (64 ≤ v3)) → ((¬ ((f_7_itemAt (M o) (M (o + 4)) v3) < 0) ∧ ¬ (16 < (f_7_itemAt (M o) (M (o + 4)) v3)) → (∀ x4 : Int, x4 = f_7_itemAt (M o) (M (o + 4)) v3 → ((0 ≤ v3 ∧ v3 < 5) ∧ ((-2147483648 ≤ v3 + 1 ∧ v3 + 1 < 2147483648) ∧ (am_R K11_read q 28 [aR 0, aJ, aR o, aI (v3 + 1)] [] (am_up M 17 (v3.toNat) x4)))))) ∧ (¬ (¬ ((f_7_itemAt (M o) (M (o + 4)) v3) < 0) ∧ ¬ (16 < (f_7_itemAt (M o) (M (o + 4)) v3))) → (q (aI v3) M)))) ∧ (¬ (¬ (v3 < 0) ∧ (¬ ((M o) 2 ≤ v3) ∧ ¬ (64 ≤ v3))) → (q (aI v3) M))))) : am_R K11_read q 28 [aR 0, aJ, aR o, aI v3] [] M := by
  refine s_iload 17 rfl rfl ?_
  refine s_push 18 rfl ?_
  refine s_ic 19 rfl (fun h1 => ?_) (fun h1 => ?_)
  · refine s_iload 39 rfl rfl ?_
    exact s_iret 40 rfl (h.1 h1)
  · refine s_aload 20 rfl rfl ?_
    refine s_iload 21 rfl rfl ?_
    refine s_callv (o := o) 22 rfl rfl rfl (sx_c ho) rfl (ct_7_has (ho := ho) ?_)
    show am_R K11_read q 38 [aR 0, aJ, aR o, aI v3] [aI (if ¬ (v3 < 0) ∧ (¬ ((M o) 2 ≤ v3) ∧ ¬ (64 ≤ v3)) then 1 else 0)] M
    refine s_ifeqB 23 rfl (fun h2 => ?_) (fun h2 => ?_)
    · refine s_iload 39 rfl rfl ?_
      exact s_iret 40 rfl ((h.2 h1).2 h2)
    · refine s_aload 24 rfl rfl ?_
      refine s_iload 25 rfl rfl ?_
      refine s_callv (o := o) 26 rfl rfl rfl (sx_c ho) rfl (ct_7_itemAt (ho := ho) ?_)
      show am_R K11_read q 46 [aR 0, aJ, aR o, aI v3] [aI (f_7_itemAt (M o) (M (o + 4)) v3)] M
      refine s_call 27 rfl rfl rfl rfl rfl (ct_11_isSixteenths ?_)
      show am_R K11_read q 49 [aR 0, aJ, aR o, aI v3] [aI (if ¬ ((f_7_itemAt (M o) (M (o + 4)) v3) < 0) ∧ ¬ (16 < (f_7_itemAt (M o) (M (o + 4)) v3)) then 1 else 0)] M
      refine s_ifeqB 28 rfl (fun h3 => ?_) (fun h3 => ?_)
      · refine s_iload 39 rfl rfl ?_
        exact s_iret 40 rfl (((h.2 h1).1 h2).2 h3)
      · refine s_aload 29 rfl rfl ?_
        refine s_getR 15 30 rfl rfl ?_
        refine s_getR 17 31 rfl rfl ?_
        refine s_iload 32 rfl rfl ?_
        refine s_aload 33 rfl rfl ?_
        refine s_iload 34 rfl rfl ?_
        refine s_callv (o := o) 35 rfl rfl rfl (sx_c ho) rfl (ct_7_itemAt (ho := ho) ?_)
        show am_R K11_read q 65 [aR 0, aJ, aR o, aI v3] [aI (f_7_itemAt (M o) (M (o + 4)) v3), aI v3, aR 17] M
        refine s_nameI (fun x4 ex4 => ?_)
        refine s_iast 36 rfl rfl ((((h.2 h1).1 h2).1 h3) x4 ex4).1 ?_
        refine s_iinc [aR 0, aJ, aR o, aI (v3 + 1)] 37 rfl rfl ((((h.2 h1).1 h2).1 h3) x4 ex4).2.1 rfl ?_
        refine s_goto 38 rfl ?_
        exact ((((h.2 h1).1 h2).1 h3) x4 ex4).2.2
theorem e2_layRows {q : am_Q} {M : am_M}  (h : am_R K2_layRows q 11 [aR 7, aR 1, aI 0, aI 0, aI 8, aI 0, aJ, aJ] [] M) : S2_layRows [aR 7, aR 1] M q := by
  refine am_S.intro rfl rfl ?_
  refine s_push 0 rfl ?_
  refine s_istore [aR 7, aR 1, aI 0, aJ, aJ, aJ, aJ, aJ] 1 rfl rfl ?_
  refine s_push 2 rfl ?_
  refine s_istore [aR 7, aR 1, aI 0, aI 0, aJ, aJ, aJ, aJ] 3 rfl rfl ?_
  refine s_push 4 rfl ?_
  refine s_istore [aR 7, aR 1, aI 0, aI 0, aI 8, aJ, aJ, aJ] 5 rfl rfl ?_
  refine s_push 6 rfl ?_
  refine s_istore [aR 7, aR 1, aI 0, aI 0, aI 8, aI 0, aJ, aJ] 7 rfl rfl ?_
  exact h
theorem g2_layRows_11 {q : am_Q} {M : am_M} {v2 v3 v4 v5 : Int} (h : (M 1 2 ≤ v5 → (∀ x4 : Int, x4 = (if v2 ≤ 0 then (-1) else if v4 ≤ v3 then (-1) else M 1 2) → (q (aI x4) M))) ∧ (¬ (M 1 2 ≤ v5) → (∀ x5 : Int, x5 = f_9_byteAt (M 1) (M 2) v5 → ((v2 < 8 → ((x5 = 59 → ((v3 = 0 → (q (aI v5) M)) ∧ (¬ (v3 = 0) → ((v2 ≤ 0 → ((-2147483648 ≤ v2 + 1 ∧ v2 + 1 < 2147483648) ∧ ((-2147483648 ≤ v5 + 1 ∧ v5 + 1 < 2147483648) ∧ (am_R K2_layRows q 11 [aR 7, aR 1, aI (v2 + 1), aI 0, aI v3, aI (v5 + 1), aJ, aJ] [] M)))) ∧ (¬ (v2 ≤ 0) → ((v4 ≤ v3 → ((-2147483648 ≤ v2 + 1 ∧ v2 + 1 < 2147483648) ∧ ((-2147483648 ≤ v5 + 1 ∧ v5 + 1 < 2147483648) ∧ (am_R K2_layRows q 11 [aR 7, aR 1, aI (v2 + 1), aI 0, aI v3, aI (v5 + 1), aJ, aJ] [] M)))) ∧ (¬ (v4 ≤ v3) → (q (aI v5) M)))))))) ∧ (¬ (x5 = 59) → (∀ x10 : Int, x10 = (if ¬ (x5 < 48) ∧ ¬ (57 < x5) then 1 else 0) → ((v4 ≤ v3 → (q (aI v5) M)) ∧ (¬ (v4 ≤ v3) → ((¬ (x5 < 48) ∧ ¬ (57 < x5) → ((-2147483648 ≤ 8 * v2 ∧ 8 * v2 < 2147483648) ∧ ((-2147483648 ≤ (8 * v2) + v3 ∧ (8 * v2) + v3 < 2147483648) ∧ ((¬ (x5 < 48) ∧ ¬ (57 < x5) → (-2147483648 ≤ x5 - 48 ∧ x5 - 48 < 2147483648)) ∧ (∀ x14 : Int, x14 = (if ¬ (x5 < 48) ∧ ¬ (57 < x5) then x5 - 48 else (-1)) → ((0 ≤ (8 * v2) + v3 ∧ (8 * v2) + v3 < 64) ∧ ((-2147483648 ≤ v3 + 1 ∧ v3 + 1 < 2147483648) ∧ ((-2147483648 ≤ v5 + 1 ∧ v5 + 1 < 2147483648) ∧ (am_R K2_layRows q 11 [aR 7, aR 1, aI v2, aI (v3 + 1), aI v4, aI (v5 + 1), aJ, aJ] [] (am_up M 8 (((8 * v2) + v3).toNat) x14)))))))))) ∧ (¬ (¬ (x5 < 48) ∧ ¬ (57 < x5)) → ((x5 = 35 → ((-2147483648 ≤ 8 * v2 ∧ 8 * v2 < 2147483648) ∧ ((-2147483648 ≤ (8 * v2) + v3 ∧ (8 * v2) + v3 < 2147483648) ∧ ((¬ (x5 < 48) ∧ ¬ (57 < x5) → (-2147483648 ≤ x5 - 48 ∧ x5 - 48 < 2147483648)) ∧ (∀ x17 : Int, x17 = (if ¬ (x5 < 48) ∧ ¬ (57 < x5) then x5 - 48 else (-1)) → ((0 ≤ (8 * v2) + v3 ∧ (8 * v2) + v3 < 64) ∧ ((-2147483648 ≤ v3 + 1 ∧ v3 + 1 < 2147483648) ∧ ((-2147483648 ≤ v5 + 1 ∧ v5 + 1 < 2147483648) ∧ (am_R K2_layRows q 11 [aR 7, aR 1, aI v2, aI (v3 + 1), aI v4, aI (v5 + 1), aJ, aJ] [] (am_up M 8 (((8 * v2) + v3).toNat) x17)))))))))) ∧ (¬ (x5 = 35) → (q (aI v5) M))))))))))) ∧ (¬ (v2 < 8) → (q (aI v5) M)))))) : am_R K2_layRows q 11 [aR 7, aR 1, aI v2, aI v3, aI v4, aI v5, aJ, aJ] [] M := by
  refine s_iload 8 rfl rfl ?_
  refine s_aload 9 rfl rfl ?_
  refine s_getI (v := M 1 2) 10 rfl rfl rfl ?_
  refine s_ic 11 rfl (fun h1 => ?_) (fun h1 => ?_)
  · refine s_iload 77 rfl rfl ?_
    have j21 : ∀ (x4 : Int) (ex4 : x4 = (if v2 ≤ 0 then (-1) else if v4 ≤ v3 then (-1) else M 1 2)), am_R K2_layRows q 166 [aR 7, aR 1, aI v2, aI v3, aI v4, aI v5, aJ, aJ] [aI x4] M := by
      intro x4 ex4
      exact s_iret 86 rfl ((h.1 h1) x4 ex4)
    refine s_if 78 rfl (fun h2 => ?_) (fun h2 => ?_)
    · refine s_push 85 rfl ?_
      exact j21 _ (by rw [if_pos h2])
    · refine s_iload 79 rfl rfl ?_
      refine s_iload 80 rfl rfl ?_
      refine s_ic 81 rfl (fun h3 => ?_) (fun h3 => ?_)
      · refine s_push 85 rfl ?_
        exact j21 _ (by rw [if_neg h2, if_pos h3])
      · refine s_aload 82 rfl rfl ?_
        refine s_getI (v := M 1 2) 83 rfl rfl rfl ?_
        refine s_goto 84 rfl ?_
        exact j21 _ (by rw [if_neg h2, if_neg h3])
  · refine s_aload 12 rfl rfl ?_
    refine s_iload 13 rfl rfl ?_
    refine s_callv (o := 1) 14 rfl rfl rfl rfl rfl (ct_9_byteAt (ho := (Or.inl rfl)) ?_)
    show am_R K2_layRows q 26 [aR 7, aR 1, aI v2, aI v3, aI v4, aI v5, aJ, aJ] [aI (f_9_byteAt (M 1) (M 2) v5)] M
    refine s_nameI (fun x5 ex5 => ?_)
    refine s_istore [aR 7, aR 1, aI v2, aI v3, aI v4, aI v5, aI x5, aJ] 15 rfl rfl ?_
    refine s_iload 16 rfl rfl ?_
    refine s_push 17 rfl ?_
    refine s_ic 18 rfl (fun h6 => ?_) (fun h6 => ?_)
    · refine s_iload 21 rfl rfl ?_
      refine s_push 22 rfl ?_
      refine s_icne 23 rfl (fun h7 => ?_) (fun h7 => ?_)
      · refine s_iload 39 rfl rfl ?_
        refine s_push 40 rfl ?_
        have j22 : ∀ (x10 : Int) (ex10 : x10 = (if ¬ (x5 < 48) ∧ ¬ (57 < x5) then 1 else 0)), am_R K2_layRows q 91 [aR 7, aR 1, aI v2, aI v3, aI v4, aI v5, aI x5, aJ] [aI x10] M := by
          intro x10 ex10
          refine s_istore [aR 7, aR 1, aI v2, aI v3, aI v4, aI v5, aI x5, aI x10] 48 rfl rfl ?_
          refine s_iload 49 rfl rfl ?_
          refine s_iload 50 rfl rfl ?_
          refine s_ic 51 rfl (fun h11 => ?_) (fun h11 => ?_)
          · refine s_iload 57 rfl rfl ?_
            exact s_iret 58 rfl ((((((h.2 h1) x5 ex5).1 h6).2 h7) x10 ex10).1 h11)
          · refine s_iload 52 rfl rfl ?_
            refine s_ifneV (c := ¬ (x5 < 48) ∧ ¬ (57 < x5)) 53 rfl ex10 (fun h12 => ?_) (fun h12 => ?_)
            · refine s_aload 59 rfl rfl ?_
              refine s_getR 8 60 rfl rfl ?_
              refine s_push 61 rfl ?_
              refine s_iload 62 rfl rfl ?_
              refine s_binX (v := 8 * v2) 63 rfl (((((((h.2 h1) x5 ex5).1 h6).2 h7) x10 ex10).2 h11).1 h12).1 rfl ?_
              refine s_iload 64 rfl rfl ?_
              refine s_binX (v := (8 * v2) + v3) 65 rfl (((((((h.2 h1) x5 ex5).1 h6).2 h7) x10 ex10).2 h11).1 h12).2.1 rfl ?_
              refine s_iload 66 rfl rfl ?_
              have j23 : ∀ (x14 : Int) (ex14 : x14 = (if ¬ (x5 < 48) ∧ ¬ (57 < x5) then x5 - 48 else (-1))), am_R K2_layRows q 138 [aR 7, aR 1, aI v2, aI v3, aI v4, aI v5, aI x5, aI x10] [aI x14, aI ((8 * v2) + v3), aR 8] M := by
                intro x14 ex14
                refine s_iast 73 rfl rfl ((((((((h.2 h1) x5 ex5).1 h6).2 h7) x10 ex10).2 h11).1 h12).2.2.2 x14 ex14).1 ?_
                refine s_iinc [aR 7, aR 1, aI v2, aI (v3 + 1), aI v4, aI v5, aI x5, aI x10] 74 rfl rfl ((((((((h.2 h1) x5 ex5).1 h6).2 h7) x10 ex10).2 h11).1 h12).2.2.2 x14 ex14).2.1 rfl ?_
                refine s_iinc [aR 7, aR 1, aI v2, aI (v3 + 1), aI v4, aI (v5 + 1), aI x5, aI x10] 75 rfl rfl ((((((((h.2 h1) x5 ex5).1 h6).2 h7) x10 ex10).2 h11).1 h12).2.2.2 x14 ex14).2.2.1 rfl ?_
                refine s_goto 76 rfl ?_
                exact am_R.jk (ls := [aR 7, aR 1, aI v2, aI (v3 + 1), aI v4, aI (v5 + 1), aJ, aJ]) ⟨Or.inr rfl, Or.inr rfl, Or.inr rfl, Or.inr rfl, Or.inr rfl, Or.inr rfl, Or.inl rfl, Or.inl rfl, trivial⟩ ((((((((h.2 h1) x5 ex5).1 h6).2 h7) x10 ex10).2 h11).1 h12).2.2.2 x14 ex14).2.2.2
              refine s_ifeqV (c := ¬ (x5 < 48) ∧ ¬ (57 < x5)) 67 rfl ex10 (fun h13 => ?_) (fun h13 => ?_)
              · refine s_push 72 rfl ?_
                exact j23 _ (by rw [if_neg h13])
              · refine s_iload 68 rfl rfl ?_
                refine s_push 69 rfl ?_
                refine s_binX (v := x5 - 48) 70 rfl ((((((((h.2 h1) x5 ex5).1 h6).2 h7) x10 ex10).2 h11).1 h12).2.2.1 h13) rfl ?_
                refine s_goto 71 rfl ?_
                exact j23 _ (by rw [if_pos h13])
            · refine s_iload 54 rfl rfl ?_
              refine s_push 55 rfl ?_
              refine s_ic 56 rfl (fun h15 => ?_) (fun h15 => ?_)
              · refine s_aload 59 rfl rfl ?_
                refine s_getR 8 60 rfl rfl ?_
                refine s_push 61 rfl ?_
                refine s_iload 62 rfl rfl ?_
                refine s_binX (v := 8 * v2) 63 rfl ((((((((h.2 h1) x5 ex5).1 h6).2 h7) x10 ex10).2 h11).2 h12).1 h15).1 rfl ?_
                refine s_iload 64 rfl rfl ?_
                refine s_binX (v := (8 * v2) + v3) 65 rfl ((((((((h.2 h1) x5 ex5).1 h6).2 h7) x10 ex10).2 h11).2 h12).1 h15).2.1 rfl ?_
                refine s_iload 66 rfl rfl ?_
                have j24 : ∀ (x17 : Int) (ex17 : x17 = (if ¬ (x5 < 48) ∧ ¬ (57 < x5) then x5 - 48 else (-1))), am_R K2_layRows q 138 [aR 7, aR 1, aI v2, aI v3, aI v4, aI v5, aI x5, aI x10] [aI x17, aI ((8 * v2) + v3), aR 8] M := by
                  intro x17 ex17
                  refine s_iast 73 rfl rfl (((((((((h.2 h1) x5 ex5).1 h6).2 h7) x10 ex10).2 h11).2 h12).1 h15).2.2.2 x17 ex17).1 ?_
                  refine s_iinc [aR 7, aR 1, aI v2, aI (v3 + 1), aI v4, aI v5, aI x5, aI x10] 74 rfl rfl (((((((((h.2 h1) x5 ex5).1 h6).2 h7) x10 ex10).2 h11).2 h12).1 h15).2.2.2 x17 ex17).2.1 rfl ?_
                  refine s_iinc [aR 7, aR 1, aI v2, aI (v3 + 1), aI v4, aI (v5 + 1), aI x5, aI x10] 75 rfl rfl (((((((((h.2 h1) x5 ex5).1 h6).2 h7) x10 ex10).2 h11).2 h12).1 h15).2.2.2 x17 ex17).2.2.1 rfl ?_
                  refine s_goto 76 rfl ?_
                  exact am_R.jk (ls := [aR 7, aR 1, aI v2, aI (v3 + 1), aI v4, aI (v5 + 1), aJ, aJ]) ⟨Or.inr rfl, Or.inr rfl, Or.inr rfl, Or.inr rfl, Or.inr rfl, Or.inr rfl, Or.inl rfl, Or.inl rfl, trivial⟩ (((((((((h.2 h1) x5 ex5).1 h6).2 h7) x10 ex10).2 h11).2 h12).1 h15).2.2.2 x17 ex17).2.2.2
                refine s_ifeqV (c := ¬ (x5 < 48) ∧ ¬ (57 < x5)) 67 rfl ex10 (fun h16 => ?_) (fun h16 => ?_)
                · refine s_push 72 rfl ?_
                  exact j24 _ (by rw [if_neg h16])
                · refine s_iload 68 rfl rfl ?_
                  refine s_push 69 rfl ?_
                  refine s_binX (v := x5 - 48) 70 rfl (((((((((h.2 h1) x5 ex5).1 h6).2 h7) x10 ex10).2 h11).2 h12).1 h15).2.2.1 h16) rfl ?_
                  refine s_goto 71 rfl ?_
                  exact j24 _ (by rw [if_pos h16])
              · refine s_iload 57 rfl rfl ?_
                exact s_iret 58 rfl ((((((((h.2 h1) x5 ex5).1 h6).2 h7) x10 ex10).2 h11).2 h12).2 h15)
        refine s_ic 41 rfl (fun h8 => ?_) (fun h8 => ?_)
        · refine s_push 47 rfl ?_
          exact j22 _ (if_neg (by omega)).symm
        · refine s_iload 42 rfl rfl ?_
          refine s_push 43 rfl ?_
          refine s_ic 44 rfl (fun h9 => ?_) (fun h9 => ?_)
          · refine s_push 47 rfl ?_
            exact j22 _ (if_neg (by omega)).symm
          · refine s_push 45 rfl ?_
            refine s_goto 46 rfl ?_
            exact j22 _ (if_pos (by omega)).symm
      · refine s_iload 24 rfl rfl ?_
        refine s_if 25 rfl (fun h18 => ?_) (fun h18 => ?_)
        · refine s_iload 31 rfl rfl ?_
          exact s_iret 32 rfl (((((h.2 h1) x5 ex5).1 h6).1 h7).1 h18)
        · refine s_iload 26 rfl rfl ?_
          refine s_if 27 rfl (fun h19 => ?_) (fun h19 => ?_)
          · refine s_iload 33 rfl rfl ?_
            refine s_istore [aR 7, aR 1, aI v2, aI v3, aI v3, aI v5, aI x5, aJ] 34 rfl rfl ?_
            refine s_iinc [aR 7, aR 1, aI (v2 + 1), aI v3, aI v3, aI v5, aI x5, aJ] 35 rfl rfl ((((((h.2 h1) x5 ex5).1 h6).1 h7).2 h18).1 h19).1 rfl ?_
            refine s_push 36 rfl ?_
            refine s_istore [aR 7, aR 1, aI (v2 + 1), aI 0, aI v3, aI v5, aI x5, aJ] 37 rfl rfl ?_
            refine s_goto 38 rfl ?_
            refine s_iinc [aR 7, aR 1, aI (v2 + 1), aI 0, aI v3, aI (v5 + 1), aI x5, aJ] 75 rfl rfl ((((((h.2 h1) x5 ex5).1 h6).1 h7).2 h18).1 h19).2.1 rfl ?_
            refine s_goto 76 rfl ?_
            exact am_R.jk (ls := [aR 7, aR 1, aI (v2 + 1), aI 0, aI v3, aI (v5 + 1), aJ, aJ]) ⟨Or.inr rfl, Or.inr rfl, Or.inr rfl, Or.inr rfl, Or.inr rfl, Or.inr rfl, Or.inl rfl, Or.inr rfl, trivial⟩ ((((((h.2 h1) x5 ex5).1 h6).1 h7).2 h18).1 h19).2.2
          · refine s_iload 28 rfl rfl ?_
            refine s_iload 29 rfl rfl ?_
            refine s_ic 30 rfl (fun h20 => ?_) (fun h20 => ?_)
            · refine s_iload 33 rfl rfl ?_
              refine s_istore [aR 7, aR 1, aI v2, aI v3, aI v3, aI v5, aI x5, aJ] 34 rfl rfl ?_
              refine s_iinc [aR 7, aR 1, aI (v2 + 1), aI v3, aI v3, aI v5, aI x5, aJ] 35 rfl rfl (((((((h.2 h1) x5 ex5).1 h6).1 h7).2 h18).2 h19).1 h20).1 rfl ?_
              refine s_push 36 rfl ?_
              refine s_istore [aR 7, aR 1, aI (v2 + 1), aI 0, aI v3, aI v5, aI x5, aJ] 37 rfl rfl ?_
              refine s_goto 38 rfl ?_
              refine s_iinc [aR 7, aR 1, aI (v2 + 1), aI 0, aI v3, aI (v5 + 1), aI x5, aJ] 75 rfl rfl (((((((h.2 h1) x5 ex5).1 h6).1 h7).2 h18).2 h19).1 h20).2.1 rfl ?_
              refine s_goto 76 rfl ?_
              exact am_R.jk (ls := [aR 7, aR 1, aI (v2 + 1), aI 0, aI v3, aI (v5 + 1), aJ, aJ]) ⟨Or.inr rfl, Or.inr rfl, Or.inr rfl, Or.inr rfl, Or.inr rfl, Or.inr rfl, Or.inl rfl, Or.inr rfl, trivial⟩ (((((((h.2 h1) x5 ex5).1 h6).1 h7).2 h18).2 h19).1 h20).2.2
            · refine s_iload 31 rfl rfl ?_
              exact s_iret 32 rfl (((((((h.2 h1) x5 ex5).1 h6).1 h7).2 h18).2 h19).2 h20)
    · refine s_iload 19 rfl rfl ?_
      exact s_iret 20 rfl (((h.2 h1) x5 ex5).2 h6)
theorem e2_link {q : am_Q} {M : am_M}  (h : am_R K2_link q 2 [aR 7, aI 0, aJ] [] M) : S2_link [aR 7] M q := by
  refine am_S.intro rfl rfl ?_
  refine s_push 0 rfl ?_
  refine s_istore [aR 7, aI 0, aJ] 1 rfl rfl ?_
  exact h
theorem g2_link_2 {q : am_Q} {M : am_M} {v1 : Int} (h : (64 ≤ v1 → (q aJ M)) ∧ (¬ (64 ≤ v1) → ((¬ (v1 < 0) ∧ (¬ (64 ≤ v1) ∧ ¬ ((M 8) (v1.toNat) = (-1))) → ((-2147483648 ≤ (M 7 2) + 1 ∧ (M 7 2) + 1 < 2147483648) ∧ (∀ x3 : Int, x3 = (M 7 2) + 1 → ((-2147483648 ≤ v1 * 4 ∧ v1 * 4 < 2147483648) ∧ (∀ x4 : Int, x4 = v1 * 4 → ((-2147483648 ≤ v1 - 8 ∧ v1 - 8 < 2147483648) ∧ (∀ x5 : Int, x5 = f_2_placeOrNone (M 8) (v1 - 8) → ((0 ≤ x4 ∧ x4 < 256) ∧ ((-2147483648 ≤ x4 + 1 ∧ x4 + 1 < 2147483648) ∧ ((0 ≤ v1) ∧ ((¬ (v1 % 8 = 7) → (-2147483648 ≤ v1 + 1 ∧ v1 + 1 < 2147483648)) ∧ (∀ x7 : Int, x7 = (if v1 % 8 = 7 then (-1) else f_2_placeOrNone (M 8) (v1 + 1)) → ((0 ≤ x4 + 1 ∧ x4 + 1 < 256) ∧ ((-2147483648 ≤ x4 + 2 ∧ x4 + 2 < 2147483648) ∧ ((-2147483648 ≤ v1 + 8 ∧ v1 + 8 < 2147483648) ∧ (∀ x8 : Int, x8 = f_2_placeOrNone (M 8) (v1 + 8) → ((0 ≤ x4 + 2 ∧ x4 + 2 < 256) ∧ ((-2147483648 ≤ x4 + 3 ∧ x4 + 3 < 2147483648) ∧ ((¬ (v1 % 8 = 0) → (-2147483648 ≤ v1 - 1 ∧ v1 - 1 < 2147483648)) ∧ (∀ x10 : Int, x10 = (if v1 % 8 = 0 then (-1) else f_2_placeOrNone (M 8) (v1 - 1)) → ((0 ≤ x4 + 3 ∧ x4 + 3 < 256) ∧ ((-2147483648 ≤ v1 + 1 ∧ v1 + 1 < 2147483648) ∧ (am_R K2_link q 2 [aR 7, aI (v1 + 1), aJ] [] (am_up (am_up (am_up (am_up (am_up M 7 2 x3) 9 (x4.toNat) x5) 9 ((x4 + 1).toNat) x7) 9 ((x4 + 2).toNat) x8) 9 ((x4 + 3).toNat) x10)))))))))))))))))))))))) ∧ (¬ (¬ (v1 < 0) ∧ (¬ (64 ≤ v1) ∧ ¬ ((M 8) (v1.toNat) = (-1)))) → ((-2147483648 ≤ v1 + 1 ∧ v1 + 1 < 2147483648) ∧ (am_R K2_link q 2 [aR 7, aI (v1 + 1), aJ] [] M)))))) : am_R K2_link q 2 [aR 7, aI v1, aJ] [] M := by
  refine s_iload 2 rfl rfl ?_
  refine s_push 3 rfl ?_
  refine s_ic 4 rfl (fun h1 => ?_) (fun h1 => ?_)
  · exact s_vret 76 rfl (h.1 h1)
  · refine s_aload 5 rfl rfl ?_
    refine s_iload 6 rfl rfl ?_
    refine s_callv (o := 7) 7 rfl rfl rfl rfl rfl (ct_2_isPlace ?_)
    show am_R K2_link q 13 [aR 7, aI v1, aJ] [aI (if ¬ (v1 < 0) ∧ (¬ (64 ≤ v1) ∧ ¬ ((M 8) (v1.toNat) = (-1))) then 1 else 0)] M
    refine s_ifeqB 8 rfl (fun h2 => ?_) (fun h2 => ?_)
    · refine s_iinc [aR 7, aI (v1 + 1), aJ] 74 rfl rfl ((h.2 h1).2 h2).1 rfl ?_
      refine s_goto 75 rfl ?_
      exact ((h.2 h1).2 h2).2
    · refine s_aload 9 rfl rfl ?_
      refine s_dupR 10 rfl ?_
      refine s_getI (v := M 7 2) 11 rfl rfl rfl ?_
      refine s_push 12 rfl ?_
      refine s_binX (v := (M 7 2) + 1) 13 rfl ((h.2 h1).1 h2).1 rfl ?_
      refine s_nameI (fun x3 ex3 => ?_)
      refine s_putI 14 rfl rfl ?_
      refine s_iload 15 rfl rfl ?_
      refine s_push 16 rfl ?_
      refine s_binX (v := v1 * 4) 17 rfl (((h.2 h1).1 h2).2 x3 ex3).1 rfl ?_
      refine s_nameI (fun x4 ex4 => ?_)
      refine s_istore [aR 7, aI v1, aI x4] 18 rfl rfl ?_
      refine s_aload 19 rfl rfl ?_
      refine s_getR 9 20 rfl rfl ?_
      refine s_iload 21 rfl rfl ?_
      refine s_aload 22 rfl rfl ?_
      refine s_iload 23 rfl rfl ?_
      refine s_push 24 rfl ?_
      refine s_binX (v := v1 - 8) 25 rfl ((((h.2 h1).1 h2).2 x3 ex3).2 x4 ex4).1 rfl ?_
      refine s_callv (o := 7) 26 rfl rfl rfl rfl rfl (ct_2_placeOrNone ?_)
      show am_R K2_link q 43 [aR 7, aI v1, aI x4] [aI (f_2_placeOrNone (M 8) (v1 - 8)), aI x4, aR 9] (am_up M 7 2 x3)
      refine s_nameI (fun x5 ex5 => ?_)
      refine s_iast 27 rfl rfl (((((h.2 h1).1 h2).2 x3 ex3).2 x4 ex4).2 x5 ex5).1 ?_
      refine s_aload 28 rfl rfl ?_
      refine s_getR 9 29 rfl rfl ?_
      refine s_iload 30 rfl rfl ?_
      refine s_push 31 rfl ?_
      refine s_binX (v := x4 + 1) 32 rfl (((((h.2 h1).1 h2).2 x3 ex3).2 x4 ex4).2 x5 ex5).2.1 rfl ?_
      refine s_iload 33 rfl rfl ?_
      refine s_push 34 rfl ?_
      refine s_irem 35 rfl ⟨(((((h.2 h1).1 h2).2 x3 ex3).2 x4 ex4).2 x5 ex5).2.2.1, by decide⟩ ?_
      refine s_push 36 rfl ?_
      have j11 : ∀ (x7 : Int) (ex7 : x7 = (if v1 % 8 = 7 then (-1) else f_2_placeOrNone (M 8) (v1 + 1))), am_R K2_link q 71 [aR 7, aI v1, aI x4] [aI x7, aI (x4 + 1), aR 9] (am_up (am_up M 7 2 x3) 9 (x4.toNat) x5) := by
        intro x7 ex7
        refine s_iast 45 rfl rfl ((((((h.2 h1).1 h2).2 x3 ex3).2 x4 ex4).2 x5 ex5).2.2.2.2 x7 ex7).1 ?_
        refine s_aload 46 rfl rfl ?_
        refine s_getR 9 47 rfl rfl ?_
        refine s_iload 48 rfl rfl ?_
        refine s_push 49 rfl ?_
        refine s_binX (v := x4 + 2) 50 rfl ((((((h.2 h1).1 h2).2 x3 ex3).2 x4 ex4).2 x5 ex5).2.2.2.2 x7 ex7).2.1 rfl ?_
        refine s_aload 51 rfl rfl ?_
        refine s_iload 52 rfl rfl ?_
        refine s_push 53 rfl ?_
        refine s_binX (v := v1 + 8) 54 rfl ((((((h.2 h1).1 h2).2 x3 ex3).2 x4 ex4).2 x5 ex5).2.2.2.2 x7 ex7).2.2.1 rfl ?_
        refine s_callv (o := 7) 55 rfl rfl rfl rfl rfl (ct_2_placeOrNone ?_)
        show am_R K2_link q 87 [aR 7, aI v1, aI x4] [aI (f_2_placeOrNone (M 8) (v1 + 8)), aI (x4 + 2), aR 9] (am_up (am_up (am_up M 7 2 x3) 9 (x4.toNat) x5) 9 ((x4 + 1).toNat) x7)
        refine s_nameI (fun x8 ex8 => ?_)
        refine s_iast 56 rfl rfl (((((((h.2 h1).1 h2).2 x3 ex3).2 x4 ex4).2 x5 ex5).2.2.2.2 x7 ex7).2.2.2 x8 ex8).1 ?_
        refine s_aload 57 rfl rfl ?_
        refine s_getR 9 58 rfl rfl ?_
        refine s_iload 59 rfl rfl ?_
        refine s_push 60 rfl ?_
        refine s_binX (v := x4 + 3) 61 rfl (((((((h.2 h1).1 h2).2 x3 ex3).2 x4 ex4).2 x5 ex5).2.2.2.2 x7 ex7).2.2.2 x8 ex8).2.1 rfl ?_
        refine s_iload 62 rfl rfl ?_
        refine s_push 63 rfl ?_
        refine s_irem 64 rfl ⟨(((((h.2 h1).1 h2).2 x3 ex3).2 x4 ex4).2 x5 ex5).2.2.1, by decide⟩ ?_
        have j12 : ∀ (x10 : Int) (ex10 : x10 = (if v1 % 8 = 0 then (-1) else f_2_placeOrNone (M 8) (v1 - 1))), am_R K2_link q 113 [aR 7, aI v1, aI x4] [aI x10, aI (x4 + 3), aR 9] (am_up (am_up (am_up (am_up M 7 2 x3) 9 (x4.toNat) x5) 9 ((x4 + 1).toNat) x7) 9 ((x4 + 2).toNat) x8) := by
          intro x10 ex10
          refine s_iast 73 rfl rfl ((((((((h.2 h1).1 h2).2 x3 ex3).2 x4 ex4).2 x5 ex5).2.2.2.2 x7 ex7).2.2.2 x8 ex8).2.2.2 x10 ex10).1 ?_
          refine s_iinc [aR 7, aI (v1 + 1), aI x4] 74 rfl rfl ((((((((h.2 h1).1 h2).2 x3 ex3).2 x4 ex4).2 x5 ex5).2.2.2.2 x7 ex7).2.2.2 x8 ex8).2.2.2 x10 ex10).2.1 rfl ?_
          refine s_goto 75 rfl ?_
          exact am_R.jk (ls := [aR 7, aI (v1 + 1), aJ]) ⟨Or.inr rfl, Or.inr rfl, Or.inl rfl, trivial⟩ ((((((((h.2 h1).1 h2).2 x3 ex3).2 x4 ex4).2 x5 ex5).2.2.2.2 x7 ex7).2.2.2 x8 ex8).2.2.2 x10 ex10).2.2
        refine s_ifne 65 rfl (fun h9 => ?_) (fun h9 => ?_)
        · refine s_aload 68 rfl rfl ?_
          refine s_iload 69 rfl rfl ?_
          refine s_push 70 rfl ?_
          refine s_binX (v := v1 - 1) 71 rfl ((((((((h.2 h1).1 h2).2 x3 ex3).2 x4 ex4).2 x5 ex5).2.2.2.2 x7 ex7).2.2.2 x8 ex8).2.2.1 h9) rfl ?_
          refine s_callv (o := 7) 72 rfl rfl rfl rfl rfl (ct_2_placeOrNone ?_)
          show am_R K2_link q 113 [aR 7, aI v1, aI x4] [aI (f_2_placeOrNone (M 8) (v1 - 1)), aI (x4 + 3), aR 9] (am_up (am_up (am_up (am_up M 7 2 x3) 9 (x4.toNat) x5) 9 ((x4 + 1).toNat) x7) 9 ((x4 + 2).toNat) x8)
          exact j12 _ (by rw [if_neg h9])
        · refine s_push 66 rfl ?_
          refine s_goto 67 rfl ?_
          exact j12 _ (by rw [if_pos h9])
      refine s_icne 37 rfl (fun h6 => ?_) (fun h6 => ?_)
      · refine s_aload 40 rfl rfl ?_
        refine s_iload 41 rfl rfl ?_
        refine s_push 42 rfl ?_
        refine s_binX (v := v1 + 1) 43 rfl ((((((h.2 h1).1 h2).2 x3 ex3).2 x4 ex4).2 x5 ex5).2.2.2.1 h6) rfl ?_
        refine s_callv (o := 7) 44 rfl rfl rfl rfl rfl (ct_2_placeOrNone ?_)
        show am_R K2_link q 71 [aR 7, aI v1, aI x4] [aI (f_2_placeOrNone (M 8) (v1 + 1)), aI (x4 + 1), aR 9] (am_up (am_up M 7 2 x3) 9 (x4.toNat) x5)
        exact j11 _ (by rw [if_neg h6])
      · refine s_push 38 rfl ?_
        refine s_goto 39 rfl ?_
        exact j11 _ (by rw [if_pos h6])
