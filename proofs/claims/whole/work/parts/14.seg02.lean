theorem e2_takeText {q : am_Q} {M : am_M}  (h : SJ_fillI [aR 8, aI (-1)] M (fun _ M1 => SJ_fillI [aR 9, aI (-1)] M1 (fun _ M5 => S2_layRows [aR 7, aR 1] (am_up M5 7 2 0) (fun r10 M9 => ∃ x11 : Int, r10 = aI x11 ∧ ((x11 = (-1) → (S2_link [aR 7] M9 (fun _ M18 => q (aI x11) M18))) ∧ (¬ (x11 = (-1)) → (SJ_fillI [aR 8, aI (-1)] M9 (fun _ M14 => q (aI x11) M14)))))))) : S2_takeText [aR 7, aR 1] M q := by
  refine am_S.intro rfl rfl ?_
  refine s_aload 0 rfl rfl ?_
  refine s_getR 8 1 rfl rfl ?_
  refine s_push 2 rfl ?_
  refine s_call 3 rfl rfl rfl rfl rfl (am_S.mono h ?_)
  intro r2 M1 g4
  show am_R K2_takeText q 8 [aR 7, aR 1, aJ] [] M1
  refine s_aload 4 rfl rfl ?_
  refine s_getR 9 5 rfl rfl ?_
  refine s_push 6 rfl ?_
  refine s_call 7 rfl rfl rfl rfl rfl (am_S.mono g4 ?_)
  intro r6 M5 g8
  show am_R K2_takeText q 16 [aR 7, aR 1, aJ] [] M5
  refine s_aload 8 rfl rfl ?_
  refine s_push 9 rfl ?_
  refine s_putI 10 rfl rfl ?_
  refine s_aload 11 rfl rfl ?_
  refine s_aload 12 rfl rfl ?_
  refine s_callv (o := 7) 13 rfl rfl rfl rfl rfl (am_S.mono g8 ?_)
  rintro r10 M9 ⟨x11, rfl, g12⟩
  show am_R K2_takeText q 26 [aR 7, aR 1, aJ] [aI x11] M9
  refine s_istore [aR 7, aR 1, aI x11] 14 rfl rfl ?_
  refine s_iload 15 rfl rfl ?_
  refine s_push 16 rfl ?_
  refine s_icne 17 rfl (fun h13 => ?_) (fun h13 => ?_)
  · refine s_aload 21 rfl rfl ?_
    refine s_getR 8 22 rfl rfl ?_
    refine s_push 23 rfl ?_
    refine s_call 24 rfl rfl rfl rfl rfl (am_S.mono (g12.2 h13) ?_)
    intro r15 M14 g17
    show am_R K2_takeText q 47 [aR 7, aR 1, aI x11] [] M14
    refine s_iload 25 rfl rfl ?_
    exact s_iret 26 rfl g17
  · refine s_aload 18 rfl rfl ?_
    refine s_callv (o := 7) 19 rfl rfl rfl rfl rfl (am_S.mono (g12.1 h13) ?_)
    intro r19 M18 g21
    show am_R K2_takeText q 36 [aR 7, aR 1, aI x11] [] M18
    refine s_goto 20 rfl ?_
    refine s_iload 25 rfl rfl ?_
    exact s_iret 26 rfl g21
theorem e3_takeText {q : am_Q} {M : am_M}  (h : am_R K3_takeText q 9 [aR 15, aR 3, aI 0, aI 0, aJ] [] (am_up M 15 4 0)) : S3_takeText [aR 15, aR 3] M q := by
  refine am_S.intro rfl rfl ?_
  refine s_push 0 rfl ?_
  refine s_istore [aR 15, aR 3, aI 0, aJ, aJ] 1 rfl rfl ?_
  refine s_aload 2 rfl rfl ?_
  refine s_push 3 rfl ?_
  refine s_putI 4 rfl rfl ?_
  refine s_push 5 rfl ?_
  refine s_istore [aR 15, aR 3, aI 0, aI 0, aJ] 6 rfl rfl ?_
  exact h
theorem g3_takeText_9 {q : am_Q} {M : am_M} {v2 v3 : Int} (h : (M 3 2 ≤ v3 → (∀ x2 : Int, x2 = M 3 2 → (q (aI (-1)) (am_up M 15 4 x2)))) ∧ (¬ (M 3 2 ≤ v3) → ((-2147483648 ≤ (f_9_byteAt (M 3) (M 4) v3) - 97 ∧ (f_9_byteAt (M 3) (M 4) v3) - 97 < 2147483648) ∧ (∀ x3 : Int, x3 = (f_9_byteAt (M 3) (M 4) v3) - 97 → ((¬ (x3 < 0) ∧ ¬ (5 ≤ x3) → ((0 ≤ x3 ∧ x3 < 32) ∧ ((am_and (am_shr v2 x3) 1 = 0 → ((v3 < 5 → (∀ x7 : Int, x7 = am_or v2 (am_shl 1 x3) → ((0 ≤ v3 ∧ v3 < 5) ∧ ((-2147483648 ≤ v3 + 1 ∧ v3 + 1 < 2147483648) ∧ (am_R K3_takeText q 9 [aR 15, aR 3, aI x7, aI (v3 + 1), aJ] [] (am_up M 19 (v3.toNat) x3)))))) ∧ (¬ (v3 < 5) → (q (aI v3) M)))) ∧ (¬ (am_and (am_shr v2 x3) 1 = 0) → (q (aI v3) M))))) ∧ (¬ (¬ (x3 < 0) ∧ ¬ (5 ≤ x3)) → (q (aI v3) M))))))) : am_R K3_takeText q 9 [aR 15, aR 3, aI v2, aI v3, aJ] [] M := by
  refine s_iload 7 rfl rfl ?_
  refine s_aload 8 rfl rfl ?_
  refine s_getI (v := M 3 2) 9 rfl rfl rfl ?_
  refine s_ic 10 rfl (fun h1 => ?_) (fun h1 => ?_)
  · refine s_aload 44 rfl rfl ?_
    refine s_aload 45 rfl rfl ?_
    refine s_getI (v := M 3 2) 46 rfl rfl rfl ?_
    refine s_nameI (fun x2 ex2 => ?_)
    refine s_putI 47 rfl rfl ?_
    refine s_push 48 rfl ?_
    exact s_iret 49 rfl ((h.1 h1) x2 ex2)
  · refine s_aload 11 rfl rfl ?_
    refine s_iload 12 rfl rfl ?_
    refine s_callv (o := 3) 13 rfl rfl rfl rfl rfl (ct_9_byteAt (ho := (Or.inr (Or.inl rfl))) ?_)
    show am_R K3_takeText q 22 [aR 15, aR 3, aI v2, aI v3, aJ] [aI (f_9_byteAt (M 3) (M 4) v3)] M
    refine s_push 14 rfl ?_
    refine s_binX (v := (f_9_byteAt (M 3) (M 4) v3) - 97) 15 rfl (h.2 h1).1 rfl ?_
    refine s_nameI (fun x3 ex3 => ?_)
    refine s_istore [aR 15, aR 3, aI v2, aI v3, aI x3] 16 rfl rfl ?_
    refine s_iload 17 rfl rfl ?_
    refine s_call 18 rfl rfl rfl rfl rfl (ct_3_isPerson ?_)
    show am_R K3_takeText q 32 [aR 15, aR 3, aI v2, aI v3, aI x3] [aI (if ¬ (x3 < 0) ∧ ¬ (5 ≤ x3) then 1 else 0)] M
    refine s_ifeqB 19 rfl (fun h4 => ?_) (fun h4 => ?_)
    · refine s_iload 29 rfl rfl ?_
      exact s_iret 30 rfl (((h.2 h1).2 x3 ex3).2 h4)
    · refine s_iload 20 rfl rfl ?_
      refine s_iload 21 rfl rfl ?_
      refine s_sh 22 rfl (((h.2 h1).2 x3 ex3).1 h4).1 ?_
      refine s_push 23 rfl ?_
      refine s_bin 24 rfl ?_
      refine s_ifne 25 rfl (fun h5 => ?_) (fun h5 => ?_)
      · refine s_iload 29 rfl rfl ?_
        exact s_iret 30 rfl ((((h.2 h1).2 x3 ex3).1 h4).2.2 h5)
      · refine s_iload 26 rfl rfl ?_
        refine s_push 27 rfl ?_
        refine s_ic 28 rfl (fun h6 => ?_) (fun h6 => ?_)
        · refine s_iload 31 rfl rfl ?_
          refine s_push 32 rfl ?_
          refine s_iload 33 rfl rfl ?_
          refine s_sh 34 rfl (((h.2 h1).2 x3 ex3).1 h4).1 ?_
          refine s_bin 35 rfl ?_
          refine s_nameI (fun x7 ex7 => ?_)
          refine s_istore [aR 15, aR 3, aI x7, aI v3, aI x3] 36 rfl rfl ?_
          refine s_aload 37 rfl rfl ?_
          refine s_getR 19 38 rfl rfl ?_
          refine s_iload 39 rfl rfl ?_
          refine s_iload 40 rfl rfl ?_
          refine s_iast 41 rfl rfl ((((((h.2 h1).2 x3 ex3).1 h4).2.1 h5).1 h6) x7 ex7).1 ?_
          refine s_iinc [aR 15, aR 3, aI x7, aI (v3 + 1), aI x3] 42 rfl rfl ((((((h.2 h1).2 x3 ex3).1 h4).2.1 h5).1 h6) x7 ex7).2.1 rfl ?_
          refine s_goto 43 rfl ?_
          exact am_R.jk (ls := [aR 15, aR 3, aI x7, aI (v3 + 1), aJ]) ⟨Or.inr rfl, Or.inr rfl, Or.inr rfl, Or.inr rfl, Or.inl rfl, trivial⟩ ((((((h.2 h1).2 x3 ex3).1 h4).2.1 h5).1 h6) x7 ex7).2.2
        · refine s_iload 29 rfl rfl ?_
          exact s_iret 30 rfl (((((h.2 h1).2 x3 ex3).1 h4).2.1 h5).2 h6)
theorem e11_reread {q : am_Q} {M : am_M} {v1 : Int} (h : (v1 = 0 → (S2_takeText [aR 7, aR 1] M (fun r16 M15 => ∃ x17 : Int, r16 = aI x17 ∧ (S10_retrace [aR 20, aR 7] (am_up M15 1 3 x17) (fun _ M19 => q aJ M19))))) ∧ (¬ (v1 = 0) → ((v1 = 1 → (S3_takeText [aR 15, aR 3] M (fun r12 M11 => ∃ x13 : Int, r12 = aI x13 ∧ (q aJ (am_up M11 3 3 x13))))) ∧ (¬ (v1 = 1) → (S10_takeText [aR 20, aR 5] M (fun r4 M3 => ∃ x5 : Int, r4 = aI x5 ∧ (S10_retrace [aR 20, aR 7] (am_up M3 5 3 x5) (fun _ M7 => q aJ M7)))))))) : S11_reread [aR 0, aI v1] M q := by
  refine am_S.intro rfl rfl ?_
  refine s_iload 0 rfl rfl ?_
  refine s_ifne 1 rfl (fun h1 => ?_) (fun h1 => ?_)
  · refine s_iload 16 rfl rfl ?_
    refine s_push 17 rfl ?_
    refine s_icne 18 rfl (fun h2 => ?_) (fun h2 => ?_)
    · refine s_aload 28 rfl rfl ?_
      refine s_getR 5 29 rfl rfl ?_
      refine s_aload 30 rfl rfl ?_
      refine s_getR 20 31 rfl rfl ?_
      refine s_aload 32 rfl rfl ?_
      refine s_getR 5 33 rfl rfl ?_
      refine s_callv (o := 20) 34 rfl rfl rfl rfl rfl (am_S.mono ((h.2 h1).2 h2) ?_)
      rintro r4 M3 ⟨x5, rfl, g6⟩
      show am_R K11_reread q 77 [aR 0, aI v1] [aI x5, aR 5] M3
      refine s_putI 35 rfl rfl ?_
      refine s_aload 36 rfl rfl ?_
      refine s_getR 20 37 rfl rfl ?_
      refine s_aload 38 rfl rfl ?_
      refine s_getR 7 39 rfl rfl ?_
      refine s_callv (o := 20) 40 rfl rfl rfl rfl rfl (am_S.mono g6 ?_)
      intro r8 M7 g10
      show am_R K11_reread q 91 [aR 0, aI v1] [] M7
      exact s_vret 41 rfl g10
    · refine s_aload 19 rfl rfl ?_
      refine s_getR 3 20 rfl rfl ?_
      refine s_aload 21 rfl rfl ?_
      refine s_getR 15 22 rfl rfl ?_
      refine s_aload 23 rfl rfl ?_
      refine s_getR 3 24 rfl rfl ?_
      refine s_callv (o := 15) 25 rfl rfl rfl rfl rfl (am_S.mono ((h.2 h1).1 h2) ?_)
      rintro r12 M11 ⟨x13, rfl, g14⟩
      show am_R K11_reread q 56 [aR 0, aI v1] [aI x13, aR 3] M11
      refine s_putI 26 rfl rfl ?_
      refine s_goto 27 rfl ?_
      exact s_vret 41 rfl g14
  · refine s_aload 2 rfl rfl ?_
    refine s_getR 1 3 rfl rfl ?_
    refine s_aload 4 rfl rfl ?_
    refine s_getR 7 5 rfl rfl ?_
    refine s_aload 6 rfl rfl ?_
    refine s_getR 1 7 rfl rfl ?_
    refine s_callv (o := 7) 8 rfl rfl rfl rfl rfl (am_S.mono (h.1 h1) ?_)
    rintro r16 M15 ⟨x17, rfl, g18⟩
    show am_R K11_reread q 19 [aR 0, aI v1] [aI x17, aR 1] M15
    refine s_putI 9 rfl rfl ?_
    refine s_aload 10 rfl rfl ?_
    refine s_getR 20 11 rfl rfl ?_
    refine s_aload 12 rfl rfl ?_
    refine s_getR 7 13 rfl rfl ?_
    refine s_callv (o := 20) 14 rfl rfl rfl rfl rfl (am_S.mono g18 ?_)
    intro r20 M19 g22
    show am_R K11_reread q 33 [aR 0, aI v1] [] M19
    refine s_goto 15 rfl ?_
    exact s_vret 41 rfl g22
theorem e11_set {q : am_Q} {M : am_M} {v1 : Int} {v2 : Int} (h : (v1 < 0 → (q (aI (-2)) M)) ∧ (¬ (v1 < 0) → ((2 < v1 → (q (aI (-2)) M)) ∧ (¬ (2 < v1) → ((v2 < 0 → (q (aI (-2)) M)) ∧ (¬ (v2 < 0) → (∀ x5 : Int, x5 = (if v1 = 2 then 2 else 63) → ((v2 ≤ x5 → ((v1 = 0 → (∀ x11 : Int, x11 = M 20 2 → (S10_retrace [aR 20, aR 7] (am_up M 20 2 v2) (fun _ M12 => q (aI x11) M12)))) ∧ (¬ (v1 = 0) → ((v1 = 1 → (∀ x10 : Int, x10 = M 0 14 → (q (aI x10) (am_up M 0 14 v2)))) ∧ (¬ (v1 = 1) → (∀ x9 : Int, x9 = M 0 15 → (q (aI x9) (am_up M 0 15 v2)))))))) ∧ (¬ (v2 ≤ x5) → (q (aI (-2)) M)))))))))) : S11_set [aR 0, aI v1, aI v2] M q := by
  refine am_S.intro rfl rfl ?_
  refine s_iload 0 rfl rfl ?_
  refine s_if 1 rfl (fun h1 => ?_) (fun h1 => ?_)
  · refine s_push 15 rfl ?_
    exact s_iret 16 rfl (h.1 h1)
  · refine s_iload 2 rfl rfl ?_
    refine s_push 3 rfl ?_
    refine s_ic 4 rfl (fun h2 => ?_) (fun h2 => ?_)
    · refine s_push 15 rfl ?_
      exact s_iret 16 rfl ((h.2 h1).1 h2)
    · refine s_iload 5 rfl rfl ?_
      refine s_if 6 rfl (fun h3 => ?_) (fun h3 => ?_)
      · refine s_push 15 rfl ?_
        exact s_iret 16 rfl (((h.2 h1).2 h2).1 h3)
      · refine s_iload 7 rfl rfl ?_
        refine s_iload 8 rfl rfl ?_
        refine s_push 9 rfl ?_
        have j16 : ∀ (x5 : Int) (ex5 : x5 = (if v1 = 2 then 2 else 63)), am_R K11_set q 25 [aR 0, aI v1, aI v2, aJ] [aI x5, aI v2] M := by
          intro x5 ex5
          refine s_ic 14 rfl (fun h6 => ?_) (fun h6 => ?_)
          · refine s_iload 17 rfl rfl ?_
            refine s_ifne 18 rfl (fun h7 => ?_) (fun h7 => ?_)
            · refine s_iload 33 rfl rfl ?_
              refine s_push 34 rfl ?_
              refine s_icne 35 rfl (fun h8 => ?_) (fun h8 => ?_)
              · refine s_aload 43 rfl rfl ?_
                refine s_getI (v := M 0 15) 44 rfl rfl rfl ?_
                refine s_nameI (fun x9 ex9 => ?_)
                refine s_istore [aR 0, aI v1, aI v2, aI x9] 45 rfl rfl ?_
                refine s_aload 46 rfl rfl ?_
                refine s_iload 47 rfl rfl ?_
                refine s_putI 48 rfl rfl ?_
                refine s_iload 49 rfl rfl ?_
                exact s_iret 50 rfl ((((((((h.2 h1).2 h2).2 h3) x5 ex5).1 h6).2 h7).2 h8) x9 ex9)
              · refine s_aload 36 rfl rfl ?_
                refine s_getI (v := M 0 14) 37 rfl rfl rfl ?_
                refine s_nameI (fun x10 ex10 => ?_)
                refine s_istore [aR 0, aI v1, aI v2, aI x10] 38 rfl rfl ?_
                refine s_aload 39 rfl rfl ?_
                refine s_iload 40 rfl rfl ?_
                refine s_putI 41 rfl rfl ?_
                refine s_goto 42 rfl ?_
                refine s_iload 49 rfl rfl ?_
                exact s_iret 50 rfl ((((((((h.2 h1).2 h2).2 h3) x5 ex5).1 h6).2 h7).1 h8) x10 ex10)
            · refine s_aload 19 rfl rfl ?_
              refine s_getR 20 20 rfl rfl ?_
              refine s_getI (v := M 20 2) 21 rfl rfl rfl ?_
              refine s_nameI (fun x11 ex11 => ?_)
              refine s_istore [aR 0, aI v1, aI v2, aI x11] 22 rfl rfl ?_
              refine s_aload 23 rfl rfl ?_
              refine s_getR 20 24 rfl rfl ?_
              refine s_iload 25 rfl rfl ?_
              refine s_putI 26 rfl rfl ?_
              refine s_aload 27 rfl rfl ?_
              refine s_getR 20 28 rfl rfl ?_
              refine s_aload 29 rfl rfl ?_
              refine s_getR 7 30 rfl rfl ?_
              refine s_callv (o := 20) 31 rfl rfl rfl rfl rfl (am_S.mono (((((((h.2 h1).2 h2).2 h3) x5 ex5).1 h6).1 h7) x11 ex11) ?_)
              intro r13 M12 g15
              show am_R K11_set q 62 [aR 0, aI v1, aI v2, aI x11] [] M12
              refine s_goto 32 rfl ?_
              refine s_iload 49 rfl rfl ?_
              exact s_iret 50 rfl g15
          · refine s_push 15 rfl ?_
            exact s_iret 16 rfl (((((h.2 h1).2 h2).2 h3) x5 ex5).2 h6)
        refine s_icne 10 rfl (fun h4 => ?_) (fun h4 => ?_)
        · refine s_push 13 rfl ?_
          exact j16 _ (by rw [if_neg h4])
        · refine s_push 11 rfl ?_
          refine s_goto 12 rfl ?_
          exact j16 _ (by rw [if_pos h4])
theorem e7_renew {q : am_Q} {M : am_M} {o : Nat} (ho : sx o) {v1 : Int} {v2 : Int} (h : SJ_fillI [aR (o + 4), aI 0] M (fun _ M1 => ∀ x5 : Int, x5 = (if 64 < v2 then 64 else v2) → (q aJ (am_up (am_up M1 o 1 v1) o 2 x5)))) : S7_renew [aR o, aI v1, aI v2] M q := by
  refine am_S.intro rfl rfl ?_
  refine s_aload 0 rfl rfl ?_
  refine s_getR (o + 4) 1 rfl (sx_0 ho) ?_
  refine s_push 2 rfl ?_
  refine s_call 3 rfl rfl rfl rfl rfl (am_S.mono h ?_)
  intro r2 M1 g4
  show am_R K7_renew q 8 [aR o, aI v1, aI v2] [] M1
  refine s_aload 4 rfl rfl ?_
  refine s_iload 5 rfl rfl ?_
  refine s_putI 6 rfl (sx_1 ho) ?_
  refine s_aload 7 rfl rfl ?_
  refine s_iload 8 rfl rfl ?_
  refine s_push 9 rfl ?_
  refine s_min 10 rfl rfl ?_
  refine s_nameI (fun x5 ex5 => ?_)
  refine s_putI 11 rfl (sx_2 ho) ?_
  exact s_vret 12 rfl (g4 x5 ex5)
theorem e11_sheet {q : am_Q} {M : am_M} {v1 : Int} {v2 : Int} {v3 : Int} (h : (0 ≤ v1 ∧ v1 < 4 → ((¬ (v2 < 0) ∧ ¬ (3 ≤ v2) → ((v3 ≤ 64 → ((0 ≤ v3 → (S7_renew [aR (35 + v1.toNat), aI v2, aI v3] M (fun _ M6 => q (aI v3) M6))) ∧ (¬ (0 ≤ v3) → (S11_found [aR 0, aI 5] M (fun r11 M10 => ∃ x12 : Int, r11 = aI x12 ∧ (q (aI x12) M10)))))) ∧ (¬ (v3 ≤ 64) → (q (aI (-2)) M)))) ∧ (¬ (¬ (v2 < 0) ∧ ¬ (3 ≤ v2)) → (q (aI (-2)) M)))) ∧ (¬ (0 ≤ v1 ∧ v1 < 4) → (q (aI (-2)) M))) : S11_sheet [aR 0, aI v1, aI v2, aI v3] M q := by
  refine am_S.intro rfl rfl ?_
  refine s_aload 0 rfl rfl ?_
  refine s_iload 1 rfl rfl ?_
  refine s_callv (o := 0) 2 rfl rfl rfl rfl rfl (ct_11_sheetOf (fun h1 => ?_) (fun h1 => ?_))
  · have hs2 : sx (35 + v1.toNat) := sx_of h1
    show am_R K11_sheet q 5 [aR 0, aI v1, aI v2, aI v3, aJ] [aR (35 + v1.toNat)] M
    refine s_astore [aR 0, aI v1, aI v2, aI v3, aR (35 + v1.toNat)] 3 rfl rfl ?_
    refine s_aload 4 rfl rfl ?_
    refine s_nulR 5 rfl ?_
    refine s_iload 6 rfl rfl ?_
    refine s_call 7 rfl rfl rfl rfl rfl (ct_11_isForm ?_)
    show am_R K11_sheet q 16 [aR 0, aI v1, aI v2, aI v3, aR (35 + v1.toNat)] [aI (if ¬ (v2 < 0) ∧ ¬ (3 ≤ v2) then 1 else 0)] M
    refine s_ifeqB 8 rfl (fun h3 => ?_) (fun h3 => ?_)
    · refine s_push 12 rfl ?_
      exact s_iret 13 rfl ((h.1 h1).2 h3)
    · refine s_iload 9 rfl rfl ?_
      refine s_push 10 rfl ?_
      refine s_ic 11 rfl (fun h4 => ?_) (fun h4 => ?_)
      · refine s_iload 14 rfl rfl ?_
        refine s_if 15 rfl (fun h5 => ?_) (fun h5 => ?_)
        · refine s_aload 20 rfl rfl ?_
          refine s_iload 21 rfl rfl ?_
          refine s_iload 22 rfl rfl ?_
          refine s_callv (o := (35 + v1.toNat)) 23 rfl rfl rfl (sx_c hs2) rfl (am_S.mono ((((h.1 h1).1 h3).1 h4).1 h5) ?_)
          intro r7 M6 g9
          show am_R K11_sheet q 45 [aR 0, aI v1, aI v2, aI v3, aR (35 + v1.toNat)] [] M6
          refine s_iload 24 rfl rfl ?_
          exact s_iret 25 rfl g9
        · refine s_aload 16 rfl rfl ?_
          refine s_push 17 rfl ?_
          refine s_callv (o := 0) 18 rfl rfl rfl rfl rfl (am_S.mono ((((h.1 h1).1 h3).1 h4).2 h5) ?_)
          rintro r11 M10 ⟨x12, rfl, g13⟩
          show am_R K11_sheet q 37 [aR 0, aI v1, aI v2, aI v3, aR (35 + v1.toNat)] [aI x12] M10
          exact s_iret 19 rfl g13
      · refine s_push 12 rfl ?_
        exact s_iret 13 rfl (((h.1 h1).1 h3).2 h4)
  · show am_R K11_sheet q 5 [aR 0, aI v1, aI v2, aI v3, aJ] [aN] M
    refine s_astore [aR 0, aI v1, aI v2, aI v3, aN] 3 rfl rfl ?_
    refine s_aload 4 rfl rfl ?_
    refine s_nulN 5 rfl ?_
    refine s_push 12 rfl ?_
    exact s_iret 13 rfl (h.2 h1)
theorem e9_append {q : am_Q} {M : am_M} {o : Nat} (ho : tx o) {v1 : Int} (h : (M o 2 < 0 → (q aJ M)) ∧ (¬ (M o 2 < 0) → ((71 ≤ M o 2 → (q aJ M)) ∧ (¬ (71 ≤ M o 2) → ((0 ≤ M o 2 ∧ M o 2 < 71) ∧ ((-2147483648 ≤ ((am_up M (o + 1) ((M o 2).toNat) v1) o 2) + 1 ∧ ((am_up M (o + 1) ((M o 2).toNat) v1) o 2) + 1 < 2147483648) ∧ (∀ x3 : Int, x3 = ((am_up M (o + 1) ((M o 2).toNat) v1) o 2) + 1 → (q aJ (am_up (am_up M (o + 1) ((M o 2).toNat) v1) o 2 x3))))))))) : S9_append [aR o, aI v1] M q := by
  refine am_S.intro rfl rfl ?_
  refine s_aload 0 rfl rfl ?_
  refine s_getI (v := M o 2) 1 rfl (tx_2 ho) rfl ?_
  refine s_if 2 rfl (fun h1 => ?_) (fun h1 => ?_)
  · exact s_vret 19 rfl (h.1 h1)
  · refine s_aload 3 rfl rfl ?_
    refine s_getI (v := M o 2) 4 rfl (tx_2 ho) rfl ?_
    refine s_push 5 rfl ?_
    refine s_ic 6 rfl (fun h2 => ?_) (fun h2 => ?_)
    · exact s_vret 19 rfl ((h.2 h1).1 h2)
    · refine s_aload 7 rfl rfl ?_
      refine s_getR (o + 1) 8 rfl (tx_1 ho) ?_
      refine s_aload 9 rfl rfl ?_
      refine s_getI (v := M o 2) 10 rfl (tx_2 ho) rfl ?_
      refine s_iload 11 rfl rfl ?_
      refine s_iast 12 rfl (tx_a ho) ((h.2 h1).2 h2).1 ?_
      refine s_aload 13 rfl rfl ?_
      refine s_dupR 14 rfl ?_
      refine s_getI (v := (am_up M (o + 1) ((M o 2).toNat) v1) o 2) 15 rfl (tx_2 ho) rfl ?_
      refine s_push 16 rfl ?_
      refine s_binX (v := ((am_up M (o + 1) ((M o 2).toNat) v1) o 2) + 1) 17 rfl ((h.2 h1).2 h2).2.1 rfl ?_
      refine s_nameI (fun x3 ex3 => ?_)
      refine s_putI 18 rfl (tx_2 ho) ?_
      exact s_vret 19 rfl (((h.2 h1).2 h2).2.2 x3 ex3)
theorem e11_type {q : am_Q} {M : am_M} {v1 : Int} {v2 : Int} (h : (0 ≤ v1 ∧ v1 < 3 → ((v2 < 0 → (q (aI (-2)) M)) ∧ (¬ (v2 < 0) → ((v2 ≤ 255 → (((M (1 + 2 * v1.toNat)) 0 ≤ (M (1 + 2 * v1.toNat)) 2 ∨ ¬ ((M (1 + 2 * v1.toNat)) 2 < 71) → (q (aI (-4)) M)) ∧ (¬ ((M (1 + 2 * v1.toNat)) 0 ≤ (M (1 + 2 * v1.toNat)) 2 ∨ ¬ ((M (1 + 2 * v1.toNat)) 2 < 71)) → (S9_append [aR (1 + 2 * v1.toNat), aI v2] M (fun _ M6 => S11_reread [aR 0, aI v1] M6 (fun _ M10 => q (aI (M10 (1 + 2 * v1.toNat) 2)) M10)))))) ∧ (¬ (v2 ≤ 255) → (q (aI (-2)) M)))))) ∧ (¬ (0 ≤ v1 ∧ v1 < 3) → (q (aI (-2)) M))) : S11_type [aR 0, aI v1, aI v2] M q := by
  refine am_S.intro rfl rfl ?_
  refine s_aload 0 rfl rfl ?_
  refine s_iload 1 rfl rfl ?_
  refine s_callv (o := 0) 2 rfl rfl rfl rfl rfl (ct_11_textOf (fun h1 => ?_) (fun h1 => ?_))
  · have hs2 : tx (1 + 2 * v1.toNat) := tx_of h1
    show am_R K11_type q 5 [aR 0, aI v1, aI v2, aJ] [aR (1 + 2 * v1.toNat)] M
    refine s_astore [aR 0, aI v1, aI v2, aR (1 + 2 * v1.toNat)] 3 rfl rfl ?_
    refine s_aload 4 rfl rfl ?_
    refine s_nulR 5 rfl ?_
    refine s_iload 6 rfl rfl ?_
    refine s_if 7 rfl (fun h3 => ?_) (fun h3 => ?_)
    · refine s_push 11 rfl ?_
      exact s_iret 12 rfl ((h.1 h1).1 h3)
    · refine s_iload 8 rfl rfl ?_
      refine s_push 9 rfl ?_
      refine s_ic 10 rfl (fun h4 => ?_) (fun h4 => ?_)
      · refine s_aload 13 rfl rfl ?_
        refine s_callv (o := (1 + 2 * v1.toNat)) 14 rfl rfl rfl (tx_c hs2) rfl (ct_9_isFull (ho := hs2) ?_)
        show am_R K11_type q 28 [aR 0, aI v1, aI v2, aR (1 + 2 * v1.toNat)] [aI (if (M (1 + 2 * v1.toNat)) 0 ≤ (M (1 + 2 * v1.toNat)) 2 ∨ ¬ ((M (1 + 2 * v1.toNat)) 2 < 71) then 1 else 0)] M
        refine s_ifeqB 15 rfl (fun h5 => ?_) (fun h5 => ?_)
        · refine s_aload 18 rfl rfl ?_
          refine s_iload 19 rfl rfl ?_
          refine s_callv (o := (1 + 2 * v1.toNat)) 20 rfl rfl rfl (tx_c hs2) rfl (am_S.mono ((((h.1 h1).2 h3).1 h4).2 h5) ?_)
          intro r7 M6 g9
          show am_R K11_type q 39 [aR 0, aI v1, aI v2, aR (1 + 2 * v1.toNat)] [] M6
          refine s_aload 21 rfl rfl ?_
          refine s_iload 22 rfl rfl ?_
          refine s_callv (o := 0) 23 rfl rfl rfl rfl rfl (am_S.mono g9 ?_)
          intro r11 M10 g13
          show am_R K11_type q 44 [aR 0, aI v1, aI v2, aR (1 + 2 * v1.toNat)] [] M10
          refine s_aload 24 rfl rfl ?_
          refine s_getI (v := M10 (1 + 2 * v1.toNat) 2) 25 rfl (tx_2 hs2) rfl ?_
          exact s_iret 26 rfl g13
        · refine s_push 16 rfl ?_
          exact s_iret 17 rfl ((((h.1 h1).2 h3).1 h4).1 h5)
      · refine s_push 11 rfl ?_
        exact s_iret 12 rfl (((h.1 h1).2 h3).2 h4)
  · show am_R K11_type q 5 [aR 0, aI v1, aI v2, aJ] [aN] M
    refine s_astore [aR 0, aI v1, aI v2, aN] 3 rfl rfl ?_
    refine s_aload 4 rfl rfl ?_
    refine s_nulN 5 rfl ?_
    refine s_push 11 rfl ?_
    exact s_iret 12 rfl (h.2 h1)
theorem e11_undo {q : am_Q} {M : am_M} {v1 : Int} (h : (0 ≤ v1 ∧ v1 < 3 → ((0 < M (1 + 2 * v1.toNat) 2 → ((-2147483648 ≤ (M (1 + 2 * v1.toNat) 2) - 1 ∧ (M (1 + 2 * v1.toNat) 2) - 1 < 2147483648) ∧ (∀ x4 : Int, x4 = (M (1 + 2 * v1.toNat) 2) - 1 → (S11_reread [aR 0, aI v1] (am_up M (1 + 2 * v1.toNat) 2 x4) (fun _ M5 => q (aI (M5 (1 + 2 * v1.toNat) 2)) M5))))) ∧ (¬ (0 < M (1 + 2 * v1.toNat) 2) → (q (aI (-3)) M)))) ∧ (¬ (0 ≤ v1 ∧ v1 < 3) → (q (aI (-2)) M))) : S11_undo [aR 0, aI v1] M q := by
  refine am_S.intro rfl rfl ?_
  refine s_aload 0 rfl rfl ?_
  refine s_iload 1 rfl rfl ?_
  refine s_callv (o := 0) 2 rfl rfl rfl rfl rfl (ct_11_textOf (fun h1 => ?_) (fun h1 => ?_))
  · have hs2 : tx (1 + 2 * v1.toNat) := tx_of h1
    show am_R K11_undo q 5 [aR 0, aI v1, aJ] [aR (1 + 2 * v1.toNat)] M
    refine s_astore [aR 0, aI v1, aR (1 + 2 * v1.toNat)] 3 rfl rfl ?_
    refine s_aload 4 rfl rfl ?_
    refine s_nulR 5 rfl ?_
    refine s_aload 8 rfl rfl ?_
    refine s_getI (v := M (1 + 2 * v1.toNat) 2) 9 rfl (tx_2 hs2) rfl ?_
    refine s_if 10 rfl (fun h3 => ?_) (fun h3 => ?_)
    · refine s_aload 13 rfl rfl ?_
      refine s_dupR 14 rfl ?_
      refine s_getI (v := M (1 + 2 * v1.toNat) 2) 15 rfl (tx_2 hs2) rfl ?_
      refine s_push 16 rfl ?_
      refine s_binX (v := (M (1 + 2 * v1.toNat) 2) - 1) 17 rfl ((h.1 h1).1 h3).1 rfl ?_
      refine s_nameI (fun x4 ex4 => ?_)
      refine s_putI 18 rfl (tx_2 hs2) ?_
      refine s_aload 19 rfl rfl ?_
      refine s_iload 20 rfl rfl ?_
      refine s_callv (o := 0) 21 rfl rfl rfl rfl rfl (am_S.mono (((h.1 h1).1 h3).2 x4 ex4) ?_)
      intro r6 M5 g8
      show am_R K11_undo q 38 [aR 0, aI v1, aR (1 + 2 * v1.toNat)] [] M5
      refine s_aload 22 rfl rfl ?_
      refine s_getI (v := M5 (1 + 2 * v1.toNat) 2) 23 rfl (tx_2 hs2) rfl ?_
      exact s_iret 24 rfl g8
    · refine s_push 11 rfl ?_
      exact s_iret 12 rfl ((h.1 h1).2 h3)
  · show am_R K11_undo q 5 [aR 0, aI v1, aJ] [aN] M
    refine s_astore [aR 0, aI v1, aN] 3 rfl rfl ?_
    refine s_aload 4 rfl rfl ?_
    refine s_nulN 5 rfl ?_
    refine s_push 6 rfl ?_
    exact s_iret 7 rfl (h.2 h1)
theorem e11_wipe {q : am_Q} {M : am_M} {v1 : Int} (h : (0 ≤ v1 ∧ v1 < 3 → (∀ x3 : Int, x3 = M (1 + 2 * v1.toNat) 2 → (S11_reread [aR 0, aI v1] (am_up M (1 + 2 * v1.toNat) 2 0) (fun _ M4 => q (aI x3) M4)))) ∧ (¬ (0 ≤ v1 ∧ v1 < 3) → (q (aI (-2)) M))) : S11_wipe [aR 0, aI v1] M q := by
  refine am_S.intro rfl rfl ?_
  refine s_aload 0 rfl rfl ?_
  refine s_iload 1 rfl rfl ?_
  refine s_callv (o := 0) 2 rfl rfl rfl rfl rfl (ct_11_textOf (fun h1 => ?_) (fun h1 => ?_))
  · have hs2 : tx (1 + 2 * v1.toNat) := tx_of h1
    show am_R K11_wipe q 5 [aR 0, aI v1, aJ, aJ] [aR (1 + 2 * v1.toNat)] M
    refine s_astore [aR 0, aI v1, aR (1 + 2 * v1.toNat), aJ] 3 rfl rfl ?_
    refine s_aload 4 rfl rfl ?_
    refine s_nulR 5 rfl ?_
    refine s_aload 8 rfl rfl ?_
    refine s_getI (v := M (1 + 2 * v1.toNat) 2) 9 rfl (tx_2 hs2) rfl ?_
    refine s_nameI (fun x3 ex3 => ?_)
    refine s_istore [aR 0, aI v1, aR (1 + 2 * v1.toNat), aI x3] 10 rfl rfl ?_
    refine s_aload 11 rfl rfl ?_
    refine s_push 12 rfl ?_
    refine s_putI 13 rfl (tx_2 hs2) ?_
    refine s_aload 14 rfl rfl ?_
    refine s_iload 15 rfl rfl ?_
    refine s_callv (o := 0) 16 rfl rfl rfl rfl rfl (am_S.mono ((h.1 h1) x3 ex3) ?_)
    intro r5 M4 g7
    show am_R K11_wipe q 28 [aR 0, aI v1, aR (1 + 2 * v1.toNat), aI x3] [] M4
    refine s_iload 17 rfl rfl ?_
    exact s_iret 18 rfl g7
  · show am_R K11_wipe q 5 [aR 0, aI v1, aJ, aJ] [aN] M
    refine s_astore [aR 0, aI v1, aN, aJ] 3 rfl rfl ?_
    refine s_aload 4 rfl rfl ?_
    refine s_nulN 5 rfl ?_
    refine s_push 6 rfl ?_
    exact s_iret 7 rfl (h.2 h1)
theorem e11_write {q : am_Q} {M : am_M} {v1 : Int} {v2 : Int} (h : (0 ≤ v2 ∧ v2 < 4 → ((¬ (v1 < 0) ∧ (¬ (64 ≤ v1) ∧ ¬ ((M 8) (v1.toNat) = (-1))) → (((M (35 + v2.toNat)) 1 = (-1) → (S11_found [aR 0, aI 1] M (fun r10 M9 => ∃ x11 : Int, r10 = aI x11 ∧ (q (aI x11) M9)))) ∧ (¬ ((M (35 + v2.toNat)) 1 = (-1)) → (S0_measureFrom [aR 10, aI v1] M (fun _ M5 => am_R K11_write q 48 [aR 0, aJ, aJ, aR (35 + v2.toNat), aI 0] [] M5))))) ∧ (¬ (¬ (v1 < 0) ∧ (¬ (64 ≤ v1) ∧ ¬ ((M 8) (v1.toNat) = (-1)))) → (q (aI (-2)) M)))) ∧ (¬ (0 ≤ v2 ∧ v2 < 4) → ((¬ (v1 < 0) ∧ (¬ (64 ≤ v1) ∧ ¬ ((M 8) (v1.toNat) = (-1))) → (q (aI (-2)) M)) ∧ (¬ (¬ (v1 < 0) ∧ (¬ (64 ≤ v1) ∧ ¬ ((M 8) (v1.toNat) = (-1)))) → (q (aI (-2)) M))))) : S11_write [aR 0, aI v1, aI v2] M q := by
  refine am_S.intro rfl rfl ?_
  refine s_aload 0 rfl rfl ?_
  refine s_iload 1 rfl rfl ?_
  refine s_callv (o := 0) 2 rfl rfl rfl rfl rfl (ct_11_sheetOf (fun h1 => ?_) (fun h1 => ?_))
  · have hs2 : sx (35 + v2.toNat) := sx_of h1
    show am_R K11_write q 5 [aR 0, aI v1, aI v2, aJ, aJ] [aR (35 + v2.toNat)] M
    refine s_astore [aR 0, aI v1, aI v2, aR (35 + v2.toNat), aJ] 3 rfl rfl ?_
    refine s_aload 4 rfl rfl ?_
    refine s_getR 7 5 rfl rfl ?_
    refine s_iload 6 rfl rfl ?_
    refine s_callv (o := 7) 7 rfl rfl rfl rfl rfl (ct_2_isPlace ?_)
    show am_R K11_write q 14 [aR 0, aI v1, aI v2, aR (35 + v2.toNat), aJ] [aI (if ¬ (v1 < 0) ∧ (¬ (64 ≤ v1) ∧ ¬ ((M 8) (v1.toNat) = (-1))) then 1 else 0)] M
    refine s_ifeqB 8 rfl (fun h3 => ?_) (fun h3 => ?_)
    · refine s_push 11 rfl ?_
      exact s_iret 12 rfl ((h.1 h1).2 h3)
    · refine s_aload 9 rfl rfl ?_
      refine s_nulR 10 rfl ?_
      refine s_aload 13 rfl rfl ?_
      refine s_callv (o := (35 + v2.toNat)) 14 rfl rfl rfl (sx_c hs2) rfl (ct_7_isLost (ho := hs2) ?_)
      show am_R K11_write q 28 [aR 0, aI v1, aI v2, aR (35 + v2.toNat), aJ] [aI (if (M (35 + v2.toNat)) 1 = (-1) then 1 else 0)] M
      refine s_ifeqB 15 rfl (fun h4 => ?_) (fun h4 => ?_)
      · refine s_aload 20 rfl rfl ?_
        refine s_getR 10 21 rfl rfl ?_
        refine s_iload 22 rfl rfl ?_
        refine s_callv (o := 10) 23 rfl rfl rfl rfl rfl (am_S.mono (((h.1 h1).1 h3).2 h4) ?_)
        intro r6 M5 g8
        show am_R K11_write q 45 [aR 0, aI v1, aI v2, aR (35 + v2.toNat), aJ] [] M5
        refine s_push 24 rfl ?_
        refine s_istore [aR 0, aI v1, aI v2, aR (35 + v2.toNat), aI 0] 25 rfl rfl ?_
        exact am_R.jk (ls := [aR 0, aJ, aJ, aR (35 + v2.toNat), aI 0]) ⟨Or.inr rfl, Or.inl rfl, Or.inl rfl, Or.inr rfl, Or.inr rfl, trivial⟩ g8
      · refine s_aload 16 rfl rfl ?_
        refine s_push 17 rfl ?_
        refine s_callv (o := 0) 18 rfl rfl rfl rfl rfl (am_S.mono (((h.1 h1).1 h3).1 h4) ?_)
        rintro r10 M9 ⟨x11, rfl, g12⟩
        show am_R K11_write q 36 [aR 0, aI v1, aI v2, aR (35 + v2.toNat), aJ] [aI x11] M9
        exact s_iret 19 rfl g12
  · show am_R K11_write q 5 [aR 0, aI v1, aI v2, aJ, aJ] [aN] M
    refine s_astore [aR 0, aI v1, aI v2, aN, aJ] 3 rfl rfl ?_
    refine s_aload 4 rfl rfl ?_
    refine s_getR 7 5 rfl rfl ?_
    refine s_iload 6 rfl rfl ?_
    refine s_callv (o := 7) 7 rfl rfl rfl rfl rfl (ct_2_isPlace ?_)
    show am_R K11_write q 14 [aR 0, aI v1, aI v2, aN, aJ] [aI (if ¬ (v1 < 0) ∧ (¬ (64 ≤ v1) ∧ ¬ ((M 8) (v1.toNat) = (-1))) then 1 else 0)] M
    refine s_ifeqB 8 rfl (fun h13 => ?_) (fun h13 => ?_)
    · refine s_push 11 rfl ?_
      exact s_iret 12 rfl ((h.2 h1).2 h13)
    · refine s_aload 9 rfl rfl ?_
      refine s_nulN 10 rfl ?_
      refine s_push 11 rfl ?_
      exact s_iret 12 rfl ((h.2 h1).1 h13)
theorem g11_write_48 {q : am_Q} {M : am_M} {v4 : Int} {o : Nat} (ho : sx o) (h : (M o 2 ≤ v4 → (q (aI (M o 2)) M)) ∧ (¬ (M o 2 ≤ v4) → (S7_putItem [aR o, aI v4, aI (f_0_stepsTo (M 11) v4)] M (fun _ M2 => (-2147483648 ≤ v4 + 1 ∧ v4 + 1 < 2147483648) ∧ (am_R K11_write q 48 [aR 0, aJ, aJ, aR o, aI (v4 + 1)] [] M2))))) : am_R K11_write q 48 [aR 0, aJ, aJ, aR o, aI v4] [] M := by
  refine s_iload 26 rfl rfl ?_
  refine s_aload 27 rfl rfl ?_
  refine s_getI (v := M o 2) 28 rfl (sx_2 ho) rfl ?_
  refine s_ic 29 rfl (fun h1 => ?_) (fun h1 => ?_)
  · refine s_aload 39 rfl rfl ?_
    refine s_getI (v := M o 2) 40 rfl (sx_2 ho) rfl ?_
    exact s_iret 41 rfl (h.1 h1)
  · refine s_aload 30 rfl rfl ?_
    refine s_iload 31 rfl rfl ?_
    refine s_aload 32 rfl rfl ?_
    refine s_getR 10 33 rfl rfl ?_
    refine s_iload 34 rfl rfl ?_
    refine s_callv (o := 10) 35 rfl rfl rfl rfl rfl (ct_0_stepsTo ?_)
    show am_R K11_write q 69 [aR 0, aJ, aJ, aR o, aI v4] [aI (f_0_stepsTo (M 11) v4), aI v4, aR o] M
    refine s_callv (o := o) 36 rfl rfl rfl (sx_c ho) rfl (am_S.mono (h.2 h1) ?_)
    intro r3 M2 g5
    show am_R K11_write q 72 [aR 0, aJ, aJ, aR o, aI v4] [] M2
    refine s_iinc [aR 0, aJ, aJ, aR o, aI (v4 + 1)] 37 rfl rfl g5.1 rfl ?_
    refine s_goto 38 rfl ?_
    exact g5.2
theorem e12_clears {q : am_Q} {M : am_M}  (h : am_R K12_clears q 2 [aR 44, aI 0] [] M) : S12_clears [aR 44] M q := by
  refine am_S.intro rfl rfl ?_
  refine s_push 0 rfl ?_
  refine s_istore [aR 44, aI 0] 1 rfl rfl ?_
  exact h
theorem g12_clears_2 {q : am_Q} {M : am_M} {v1 : Int} (h : (64 ≤ v1 → (q aJ M)) ∧ (¬ (64 ≤ v1) → ((0 ≤ v1 ∧ v1 < 64) ∧ ((-2147483648 ≤ v1 + 1 ∧ v1 + 1 < 2147483648) ∧ (am_R K12_clears q 2 [aR 44, aI (v1 + 1)] [] (am_up M 51 (v1.toNat) 99)))))) : am_R K12_clears q 2 [aR 44, aI v1] [] M := by
  refine s_iload 2 rfl rfl ?_
  refine s_push 3 rfl ?_
  refine s_ic 4 rfl (fun h1 => ?_) (fun h1 => ?_)
  · exact s_vret 12 rfl (h.1 h1)
  · refine s_aload 5 rfl rfl ?_
    refine s_getR 51 6 rfl rfl ?_
    refine s_iload 7 rfl rfl ?_
    refine s_push 8 rfl ?_
    refine s_iast 9 rfl rfl (h.2 h1).1 ?_
    refine s_iinc [aR 44, aI (v1 + 1)] 10 rfl rfl (h.2 h1).2.1 rfl ?_
    refine s_goto 11 rfl ?_
    exact (h.2 h1).2.2
theorem e12_readsRow {q : am_Q} {M : am_M} {v1 : Int} {v2 : Int} (h : am_R K12_readsRow q 2 [aR 44, aI v1, aI v2, aI 0, aJ, aJ] [] M) : S12_readsRow [aR 44, aI v1, aI v2] M q := by
  refine am_S.intro rfl rfl ?_
  refine s_push 0 rfl ?_
  refine s_istore [aR 44, aI v1, aI v2, aI 0, aJ, aJ] 1 rfl rfl ?_
  exact h
theorem g12_readsRow_2 {q : am_Q} {M : am_M} {v1 v2 v3 : Int} (h : (M 50 0 ≤ M 44 7 → (∀ x5 : Int, x5 = (if v3 = 0 then (-1) else if v2 ≤ 0 then v3 else if v2 ≤ v3 then v3 else (-1)) → (q (aI x5) M))) ∧ (¬ (M 50 0 ≤ M 44 7) → ((ob_12_here (M 50) (M 44) (M 49) 0) ∧ ((f_12_here (M 50) (M 44) (M 49) 0 = 59 → (∀ x10 : Int, x10 = (if v3 = 0 then (-1) else if v2 ≤ 0 then v3 else if v2 ≤ v3 then v3 else (-1)) → (q (aI x10) M))) ∧ (¬ (f_12_here (M 50) (M 44) (M 49) 0 = 59) → (∀ x11 : Int, x11 = f_12_here (M 50) (M 44) (M 49) 0 → (∀ x13 : Int, x13 = (if v2 = 0 then 8 else v2) → ((v3 = x13 → (q (aI (-1)) M)) ∧ (¬ (v3 = x13) → ((x11 = 35 → ((-2147483648 ≤ 8 * v1 ∧ 8 * v1 < 2147483648) ∧ ((-2147483648 ≤ (8 * v1) + v3 ∧ (8 * v1) + v3 < 2147483648) ∧ ((¬ (x11 = 35) → (-2147483648 ≤ x11 - 48 ∧ x11 - 48 < 2147483648)) ∧ (∀ x17 : Int, x17 = (if x11 = 35 then 99 else x11 - 48) → ((0 ≤ (8 * v1) + v3 ∧ (8 * v1) + v3 < 64) ∧ ((-2147483648 ≤ v3 + 1 ∧ v3 + 1 < 2147483648) ∧ ((-2147483648 ≤ (M 44 7) + 1 ∧ (M 44 7) + 1 < 2147483648) ∧ (∀ x18 : Int, x18 = (M 44 7) + 1 → (am_R K12_readsRow q 2 [aR 44, aI v1, aI v2, aI (v3 + 1), aJ, aJ] [] (am_up (am_up M 51 (((8 * v1) + v3).toNat) x17) 44 7 x18))))))))))) ∧ (¬ (x11 = 35) → ((¬ (x11 < 48) ∧ ¬ (57 < x11) → ((-2147483648 ≤ 8 * v1 ∧ 8 * v1 < 2147483648) ∧ ((-2147483648 ≤ (8 * v1) + v3 ∧ (8 * v1) + v3 < 2147483648) ∧ ((¬ (x11 = 35) → (-2147483648 ≤ x11 - 48 ∧ x11 - 48 < 2147483648)) ∧ (∀ x21 : Int, x21 = (if x11 = 35 then 99 else x11 - 48) → ((0 ≤ (8 * v1) + v3 ∧ (8 * v1) + v3 < 64) ∧ ((-2147483648 ≤ v3 + 1 ∧ v3 + 1 < 2147483648) ∧ ((-2147483648 ≤ (M 44 7) + 1 ∧ (M 44 7) + 1 < 2147483648) ∧ (∀ x22 : Int, x22 = (M 44 7) + 1 → (am_R K12_readsRow q 2 [aR 44, aI v1, aI v2, aI (v3 + 1), aJ, aJ] [] (am_up (am_up M 51 (((8 * v1) + v3).toNat) x21) 44 7 x22))))))))))) ∧ (¬ (¬ (x11 < 48) ∧ ¬ (57 < x11)) → (q (aI (-1)) M)))))))))))))) : am_R K12_readsRow q 2 [aR 44, aI v1, aI v2, aI v3, aJ, aJ] [] M := by
  refine s_aload 2 rfl rfl ?_
  refine s_getI (v := M 44 7) 3 rfl rfl rfl ?_
  refine s_aload 4 rfl rfl ?_
  refine s_getR 50 5 rfl rfl ?_
  refine s_push 6 rfl ?_
  refine s_iald (v := M 50 0) 7 rfl rfl (by decide) rfl ?_
  refine s_ic 8 rfl (fun h1 => ?_) (fun h1 => ?_)
  · refine s_iload 62 rfl rfl ?_
    have j23 : ∀ (x5 : Int) (ex5 : x5 = (if v3 = 0 then (-1) else if v2 ≤ 0 then v3 else if v2 ≤ v3 then v3 else (-1))), am_R K12_readsRow q 136 [aR 44, aI v1, aI v2, aI v3, aJ, aJ] [aI x5] M := by
      intro x5 ex5
      exact s_iret 72 rfl ((h.1 h1) x5 ex5)
    refine s_if 63 rfl (fun h2 => ?_) (fun h2 => ?_)
    · refine s_push 69 rfl ?_
      refine s_goto 70 rfl ?_
      exact j23 _ (by rw [if_pos h2])
    · refine s_iload 64 rfl rfl ?_
      refine s_if 65 rfl (fun h3 => ?_) (fun h3 => ?_)
      · refine s_iload 71 rfl rfl ?_
        exact j23 _ (by rw [if_neg h2, if_pos h3])
      · refine s_iload 66 rfl rfl ?_
        refine s_iload 67 rfl rfl ?_
        refine s_ic 68 rfl (fun h4 => ?_) (fun h4 => ?_)
        · refine s_iload 71 rfl rfl ?_
          exact j23 _ (by rw [if_neg h2, if_neg h3, if_pos h4])
        · refine s_push 69 rfl ?_
          refine s_goto 70 rfl ?_
          exact j23 _ (by rw [if_neg h2, if_neg h3, if_neg h4])
  · refine s_aload 9 rfl rfl ?_
    refine s_push 10 rfl ?_
    refine s_callv (o := 44) 11 rfl rfl rfl rfl rfl (ct_12_here (h.2 h1).1 ?_)
    show am_R K12_readsRow q 20 [aR 44, aI v1, aI v2, aI v3, aJ, aJ] [aI (f_12_here (M 50) (M 44) (M 49) 0)] M
    refine s_push 12 rfl ?_
    refine s_ic 13 rfl (fun h6 => ?_) (fun h6 => ?_)
    · refine s_iload 62 rfl rfl ?_
      have j24 : ∀ (x10 : Int) (ex10 : x10 = (if v3 = 0 then (-1) else if v2 ≤ 0 then v3 else if v2 ≤ v3 then v3 else (-1))), am_R K12_readsRow q 136 [aR 44, aI v1, aI v2, aI v3, aJ, aJ] [aI x10] M := by
        intro x10 ex10
        exact s_iret 72 rfl (((h.2 h1).2.1 h6) x10 ex10)
      refine s_if 63 rfl (fun h7 => ?_) (fun h7 => ?_)
      · refine s_push 69 rfl ?_
        refine s_goto 70 rfl ?_
        exact j24 _ (by rw [if_pos h7])
      · refine s_iload 64 rfl rfl ?_
        refine s_if 65 rfl (fun h8 => ?_) (fun h8 => ?_)
        · refine s_iload 71 rfl rfl ?_
          exact j24 _ (by rw [if_neg h7, if_pos h8])
        · refine s_iload 66 rfl rfl ?_
          refine s_iload 67 rfl rfl ?_
          refine s_ic 68 rfl (fun h9 => ?_) (fun h9 => ?_)
          · refine s_iload 71 rfl rfl ?_
            exact j24 _ (by rw [if_neg h7, if_neg h8, if_pos h9])
          · refine s_push 69 rfl ?_
            refine s_goto 70 rfl ?_
            exact j24 _ (by rw [if_neg h7, if_neg h8, if_neg h9])
    · refine s_aload 14 rfl rfl ?_
      refine s_push 15 rfl ?_
      refine s_callv (o := 44) 16 rfl rfl rfl rfl rfl (ct_12_here (h.2 h1).1 ?_)
      show am_R K12_readsRow q 30 [aR 44, aI v1, aI v2, aI v3, aJ, aJ] [aI (f_12_here (M 50) (M 44) (M 49) 0)] M
      refine s_nameI (fun x11 ex11 => ?_)
      refine s_istore [aR 44, aI v1, aI v2, aI v3, aI x11, aJ] 17 rfl rfl ?_
      refine s_iload 18 rfl rfl ?_
      have j25 : ∀ (x13 : Int) (ex13 : x13 = (if v2 = 0 then 8 else v2)), am_R K12_readsRow q 42 [aR 44, aI v1, aI v2, aI v3, aI x11, aJ] [aI x13] M := by
        intro x13 ex13
        refine s_istore [aR 44, aI v1, aI v2, aI v3, aI x11, aI x13] 23 rfl rfl ?_
        refine s_iload 24 rfl rfl ?_
        refine s_iload 25 rfl rfl ?_
        refine s_ic 26 rfl (fun h14 => ?_) (fun h14 => ?_)
        · refine s_push 36 rfl ?_
          exact s_iret 37 rfl (((((h.2 h1).2.2 h6) x11 ex11) x13 ex13).1 h14)
        · refine s_iload 27 rfl rfl ?_
          refine s_push 28 rfl ?_
          refine s_ic 29 rfl (fun h15 => ?_) (fun h15 => ?_)
          · refine s_aload 38 rfl rfl ?_
            refine s_getR 51 39 rfl rfl ?_
            refine s_push 40 rfl ?_
            refine s_iload 41 rfl rfl ?_
            refine s_binX (v := 8 * v1) 42 rfl ((((((h.2 h1).2.2 h6) x11 ex11) x13 ex13).2 h14).1 h15).1 rfl ?_
            refine s_iload 43 rfl rfl ?_
            refine s_binX (v := (8 * v1) + v3) 44 rfl ((((((h.2 h1).2.2 h6) x11 ex11) x13 ex13).2 h14).1 h15).2.1 rfl ?_
            refine s_iload 45 rfl rfl ?_
            refine s_push 46 rfl ?_
            have j26 : ∀ (x17 : Int) (ex17 : x17 = (if x11 = 35 then 99 else x11 - 48)), am_R K12_readsRow q 101 [aR 44, aI v1, aI v2, aI v3, aI x11, aI x13] [aI x17, aI ((8 * v1) + v3), aR 51] M := by
              intro x17 ex17
              refine s_iast 53 rfl rfl (((((((h.2 h1).2.2 h6) x11 ex11) x13 ex13).2 h14).1 h15).2.2.2 x17 ex17).1 ?_
              refine s_iinc [aR 44, aI v1, aI v2, aI (v3 + 1), aI x11, aI x13] 54 rfl rfl (((((((h.2 h1).2.2 h6) x11 ex11) x13 ex13).2 h14).1 h15).2.2.2 x17 ex17).2.1 rfl ?_
              refine s_aload 55 rfl rfl ?_
              refine s_dupR 56 rfl ?_
              refine s_getI (v := M 44 7) 57 rfl rfl rfl ?_
              refine s_push 58 rfl ?_
              refine s_binX (v := (M 44 7) + 1) 59 rfl (((((((h.2 h1).2.2 h6) x11 ex11) x13 ex13).2 h14).1 h15).2.2.2 x17 ex17).2.2.1 rfl ?_
              refine s_nameI (fun x18 ex18 => ?_)
              refine s_putI 60 rfl rfl ?_
              refine s_goto 61 rfl ?_
              exact am_R.jk (ls := [aR 44, aI v1, aI v2, aI (v3 + 1), aJ, aJ]) ⟨Or.inr rfl, Or.inr rfl, Or.inr rfl, Or.inr rfl, Or.inl rfl, Or.inl rfl, trivial⟩ ((((((((h.2 h1).2.2 h6) x11 ex11) x13 ex13).2 h14).1 h15).2.2.2 x17 ex17).2.2.2 x18 ex18)
            refine s_icne 47 rfl (fun h16 => ?_) (fun h16 => ?_)
            · refine s_iload 50 rfl rfl ?_
              refine s_push 51 rfl ?_
              refine s_binX (v := x11 - 48) 52 rfl (((((((h.2 h1).2.2 h6) x11 ex11) x13 ex13).2 h14).1 h15).2.2.1 h16) rfl ?_
              exact j26 _ (by rw [if_neg h16])
            · refine s_push 48 rfl ?_
              refine s_goto 49 rfl ?_
              exact j26 _ (by rw [if_pos h16])
          · refine s_iload 30 rfl rfl ?_
            refine s_i2l 31 rfl ?_
            refine s_push 32 rfl ?_
            refine s_push 33 rfl ?_
            refine s_call 34 rfl rfl rfl rfl rfl (ct_12_in ?_)
            show am_R K12_readsRow q 69 [aR 44, aI v1, aI v2, aI v3, aI x11, aI x13] [aI (if ¬ (x11 < 48) ∧ ¬ (57 < x11) then 1 else 0)] M
            refine s_ifneB 35 rfl (fun h19 => ?_) (fun h19 => ?_)
            · refine s_aload 38 rfl rfl ?_
              refine s_getR 51 39 rfl rfl ?_
              refine s_push 40 rfl ?_
              refine s_iload 41 rfl rfl ?_
              refine s_binX (v := 8 * v1) 42 rfl (((((((h.2 h1).2.2 h6) x11 ex11) x13 ex13).2 h14).2 h15).1 h19).1 rfl ?_
              refine s_iload 43 rfl rfl ?_
              refine s_binX (v := (8 * v1) + v3) 44 rfl (((((((h.2 h1).2.2 h6) x11 ex11) x13 ex13).2 h14).2 h15).1 h19).2.1 rfl ?_
              refine s_iload 45 rfl rfl ?_
              refine s_push 46 rfl ?_
              have j27 : ∀ (x21 : Int) (ex21 : x21 = (if x11 = 35 then 99 else x11 - 48)), am_R K12_readsRow q 101 [aR 44, aI v1, aI v2, aI v3, aI x11, aI x13] [aI x21, aI ((8 * v1) + v3), aR 51] M := by
                intro x21 ex21
                refine s_iast 53 rfl rfl ((((((((h.2 h1).2.2 h6) x11 ex11) x13 ex13).2 h14).2 h15).1 h19).2.2.2 x21 ex21).1 ?_
                refine s_iinc [aR 44, aI v1, aI v2, aI (v3 + 1), aI x11, aI x13] 54 rfl rfl ((((((((h.2 h1).2.2 h6) x11 ex11) x13 ex13).2 h14).2 h15).1 h19).2.2.2 x21 ex21).2.1 rfl ?_
                refine s_aload 55 rfl rfl ?_
                refine s_dupR 56 rfl ?_
                refine s_getI (v := M 44 7) 57 rfl rfl rfl ?_
                refine s_push 58 rfl ?_
                refine s_binX (v := (M 44 7) + 1) 59 rfl ((((((((h.2 h1).2.2 h6) x11 ex11) x13 ex13).2 h14).2 h15).1 h19).2.2.2 x21 ex21).2.2.1 rfl ?_
                refine s_nameI (fun x22 ex22 => ?_)
                refine s_putI 60 rfl rfl ?_
                refine s_goto 61 rfl ?_
                exact am_R.jk (ls := [aR 44, aI v1, aI v2, aI (v3 + 1), aJ, aJ]) ⟨Or.inr rfl, Or.inr rfl, Or.inr rfl, Or.inr rfl, Or.inl rfl, Or.inl rfl, trivial⟩ (((((((((h.2 h1).2.2 h6) x11 ex11) x13 ex13).2 h14).2 h15).1 h19).2.2.2 x21 ex21).2.2.2 x22 ex22)
              refine s_icne 47 rfl (fun h20 => ?_) (fun h20 => ?_)
              · refine s_iload 50 rfl rfl ?_
                refine s_push 51 rfl ?_
                refine s_binX (v := x11 - 48) 52 rfl ((((((((h.2 h1).2.2 h6) x11 ex11) x13 ex13).2 h14).2 h15).1 h19).2.2.1 h20) rfl ?_
                exact j27 _ (by rw [if_neg h20])
              · refine s_push 48 rfl ?_
                refine s_goto 49 rfl ?_
                exact j27 _ (by rw [if_pos h20])
            · refine s_push 36 rfl ?_
              exact s_iret 37 rfl (((((((h.2 h1).2.2 h6) x11 ex11) x13 ex13).2 h14).2 h15).2 h19)
      refine s_ifne 19 rfl (fun h12 => ?_) (fun h12 => ?_)
      · refine s_iload 22 rfl rfl ?_
        exact j25 _ (by rw [if_neg h12])
      · refine s_push 20 rfl ?_
        refine s_goto 21 rfl ?_
        exact j25 _ (by rw [if_pos h12])
theorem e12_readsFair {q : am_Q} {M : am_M}  (h : S12_clears [aR 44] M (fun _ M1 => ∀ x6 : Int, x6 = (if ¬ (M1 50 0 ≤ 0) then 1 else 0) → (am_R K12_readsFair q 28 [aR 44, aI 0, aI 0, aI x6, aJ] [] (am_up M1 44 7 0)))) : S12_readsFair [aR 44] M q := by
  refine am_S.intro rfl rfl ?_
  refine s_aload 0 rfl rfl ?_
  refine s_callv (o := 44) 1 rfl rfl rfl rfl rfl (am_S.mono h ?_)
  intro r2 M1 g4
  show am_R K12_readsFair q 4 [aR 44, aJ, aJ, aJ, aJ] [] M1
  refine s_aload 2 rfl rfl ?_
  refine s_push 3 rfl ?_
  refine s_putI 4 rfl rfl ?_
  refine s_push 5 rfl ?_
  refine s_istore [aR 44, aI 0, aJ, aJ, aJ] 6 rfl rfl ?_
  refine s_push 7 rfl ?_
  refine s_istore [aR 44, aI 0, aI 0, aJ, aJ] 8 rfl rfl ?_
  refine s_aload 9 rfl rfl ?_
  refine s_getR 50 10 rfl rfl ?_
  refine s_push 11 rfl ?_
  refine s_iald (v := M1 50 0) 12 rfl rfl (by decide) rfl ?_
  have j7 : ∀ (x6 : Int) (ex6 : x6 = (if ¬ (M1 50 0 ≤ 0) then 1 else 0)), am_R K12_readsFair q 27 [aR 44, aI 0, aI 0, aJ, aJ] [aI x6] (am_up M1 44 7 0) := by
    intro x6 ex6
    refine s_istore [aR 44, aI 0, aI 0, aI x6, aJ] 17 rfl rfl ?_
    exact (g4 x6 ex6)
  refine s_if 13 rfl (fun h5 => ?_) (fun h5 => ?_)
  · refine s_push 16 rfl ?_
    exact j7 _ (if_neg (by omega)).symm
  · refine s_push 14 rfl ?_
    refine s_goto 15 rfl ?_
    exact j7 _ (if_pos (by omega)).symm
theorem g12_readsFair_28 {q : am_Q} {M : am_M} {v1 v2 v3 : Int} (h : (v3 = 0 → (q (aI (-1)) M)) ∧ (¬ (v3 = 0) → ((v1 = 8 → (S12_clears [aR 44] M (fun _ M17 => q (aI (M17 44 7)) M17))) ∧ (¬ (v1 = 8) → (S12_readsRow [aR 44, aI v1, aI v2] M (fun r4 M3 => ∃ x5 : Int, r4 = aI x5 ∧ ((x5 = (-1) → (S12_clears [aR 44] M3 (fun _ M13 => q (aI (M13 44 7)) M13))) ∧ (¬ (x5 = (-1)) → ((-2147483648 ≤ v1 + 1 ∧ v1 + 1 < 2147483648) ∧ (∀ x9 : Int, x9 = (if ¬ (M3 50 0 ≤ M3 44 7) then 1 else 0) → (∀ x11 : Int, x11 = (if ¬ (M3 50 0 ≤ M3 44 7) then 1 else 0) → ((-2147483648 ≤ (M3 44 7) + x11 ∧ (M3 44 7) + x11 < 2147483648) ∧ (∀ x12 : Int, x12 = (M3 44 7) + x11 → (am_R K12_readsFair q 28 [aR 44, aI (v1 + 1), aI x5, aI x9, aJ] [] (am_up M3 44 7 x12))))))))))))))) : am_R K12_readsFair q 28 [aR 44, aI v1, aI v2, aI v3, aJ] [] M := by
  refine s_iload 18 rfl rfl ?_
  refine s_if 19 rfl (fun h1 => ?_) (fun h1 => ?_)
  · refine s_push 63 rfl ?_
    exact s_iret 64 rfl (h.1 h1)
  · refine s_iload 20 rfl rfl ?_
    refine s_push 21 rfl ?_
    refine s_icne 22 rfl (fun h2 => ?_) (fun h2 => ?_)
    · refine s_aload 25 rfl rfl ?_
      refine s_iload 26 rfl rfl ?_
      refine s_iload 27 rfl rfl ?_
      refine s_callv (o := 44) 28 rfl rfl rfl rfl rfl (am_S.mono ((h.2 h1).2 h2) ?_)
      rintro r4 M3 ⟨x5, rfl, g6⟩
      show am_R K12_readsFair q 48 [aR 44, aI v1, aI v2, aI v3, aJ] [aI x5] M3
      refine s_istore [aR 44, aI v1, aI v2, aI v3, aI x5] 29 rfl rfl ?_
      refine s_iload 30 rfl rfl ?_
      refine s_push 31 rfl ?_
      refine s_icne 32 rfl (fun h7 => ?_) (fun h7 => ?_)
      · refine s_iload 38 rfl rfl ?_
        refine s_istore [aR 44, aI v1, aI x5, aI v3, aI x5] 39 rfl rfl ?_
        refine s_iinc [aR 44, aI (v1 + 1), aI x5, aI v3, aI x5] 40 rfl rfl (g6.2 h7).1 rfl ?_
        refine s_aload 41 rfl rfl ?_
        refine s_getI (v := M3 44 7) 42 rfl rfl rfl ?_
        refine s_aload 43 rfl rfl ?_
        refine s_getR 50 44 rfl rfl ?_
        refine s_push 45 rfl ?_
        refine s_iald (v := M3 50 0) 46 rfl rfl (by decide) rfl ?_
        have j21 : ∀ (x9 : Int) (ex9 : x9 = (if ¬ (M3 50 0 ≤ M3 44 7) then 1 else 0)), am_R K12_readsFair q 89 [aR 44, aI (v1 + 1), aI x5, aI v3, aI x5] [aI x9] M3 := by
          intro x9 ex9
          refine s_istore [aR 44, aI (v1 + 1), aI x5, aI x9, aI x5] 51 rfl rfl ?_
          refine s_aload 52 rfl rfl ?_
          refine s_dupR 53 rfl ?_
          refine s_getI (v := M3 44 7) 54 rfl rfl rfl ?_
          refine s_iload 55 rfl rfl ?_
          have j22 : ∀ (x11 : Int) (ex11 : x11 = (if ¬ (M3 50 0 ≤ M3 44 7) then 1 else 0)), am_R K12_readsFair q 104 [aR 44, aI (v1 + 1), aI x5, aI x9, aI x5] [aI x11, aI (M3 44 7), aR 44] M3 := by
            intro x11 ex11
            refine s_binX (v := (M3 44 7) + x11) 60 rfl (((g6.2 h7).2 x9 ex9) x11 ex11).1 rfl ?_
            refine s_nameI (fun x12 ex12 => ?_)
            refine s_putI 61 rfl rfl ?_
            refine s_goto 62 rfl ?_
            exact am_R.jk (ls := [aR 44, aI (v1 + 1), aI x5, aI x9, aJ]) ⟨Or.inr rfl, Or.inr rfl, Or.inr rfl, Or.inr rfl, Or.inl rfl, trivial⟩ ((((g6.2 h7).2 x9 ex9) x11 ex11).2 x12 ex12)
          refine s_ifeqV (c := ¬ (M3 50 0 ≤ M3 44 7)) 56 rfl ex9 (fun h10 => ?_) (fun h10 => ?_)
          · refine s_push 59 rfl ?_
            exact j22 _ (if_neg (by omega)).symm
          · refine s_push 57 rfl ?_
            refine s_goto 58 rfl ?_
            exact j22 _ (if_pos (by omega)).symm
        refine s_ic 47 rfl (fun h8 => ?_) (fun h8 => ?_)
        · refine s_push 50 rfl ?_
          exact j21 _ (if_neg (by omega)).symm
        · refine s_push 48 rfl ?_
          refine s_goto 49 rfl ?_
          exact j21 _ (if_pos (by omega)).symm
      · refine s_aload 33 rfl rfl ?_
        refine s_callv (o := 44) 34 rfl rfl rfl rfl rfl (am_S.mono (g6.1 h7) ?_)
        intro r14 M13 g16
        show am_R K12_readsFair q 60 [aR 44, aI v1, aI v2, aI v3, aI x5] [] M13
        refine s_aload 35 rfl rfl ?_
        refine s_getI (v := M13 44 7) 36 rfl rfl rfl ?_
        exact s_iret 37 rfl g16
    · refine s_push 23 rfl ?_
      refine s_goto 24 rfl ?_
      refine s_istore [aR 44, aI v1, aI v2, aI v3, aI (-1)] 29 rfl rfl ?_
      refine s_iload 30 rfl rfl ?_
      refine s_push 31 rfl ?_
      refine s_icne 32 rfl (fun h => absurd (by decide) h) (fun _ => ?_)
      refine s_aload 33 rfl rfl ?_
      refine s_callv (o := 44) 34 rfl rfl rfl rfl rfl (am_S.mono ((h.2 h1).1 h2) ?_)
      intro r18 M17 g20
      show am_R K12_readsFair q 60 [aR 44, aI v1, aI v2, aI v3, aI (-1)] [] M17
      refine s_aload 35 rfl rfl ?_
      refine s_getI (v := M17 44 7) 36 rfl rfl rfl ?_
      exact s_iret 37 rfl g20
theorem e12_readsOrder {q : am_Q} {M : am_M}  (h : am_R K12_readsOrder q 9 [aR 44, aI 0, aI 0, aJ] [] (am_up M 44 9 0)) : S12_readsOrder [aR 44] M q := by
  refine am_S.intro rfl rfl ?_
  refine s_aload 0 rfl rfl ?_
  refine s_push 1 rfl ?_
  refine s_putI 2 rfl rfl ?_
  refine s_push 3 rfl ?_
  refine s_istore [aR 44, aI 0, aJ, aJ] 4 rfl rfl ?_
  refine s_push 5 rfl ?_
  refine s_istore [aR 44, aI 0, aI 0, aJ] 6 rfl rfl ?_
  exact h
theorem g12_readsOrder_9 {q : am_Q} {M : am_M} {v1 v2 : Int} (h : (M 50 1 ≤ v2 → (q (aI (-1)) M)) ∧ (¬ (M 50 1 ≤ v2) → ((-2147483648 ≤ 80 + v2 ∧ 80 + v2 < 2147483648) ∧ ((0 ≤ 80 + v2 ∧ 80 + v2 < 240) ∧ ((-2147483648 ≤ (M 49 ((80 + v2).toNat)) - 97 ∧ (M 49 ((80 + v2).toNat)) - 97 < 2147483648) ∧ (∀ x2 : Int, x2 = (M 49 ((80 + v2).toNat)) - 97 → ((¬ (x2 < 0) ∧ ¬ (4 < x2) → ((ob_12_isIn v1 x2) ∧ ((am_and (am_shr v1 x2) 1 = 1 → (q (aI v2) (am_up M 44 9 0))) ∧ (¬ (am_and (am_shr v1 x2) 1 = 1) → ((0 ≤ x2 ∧ x2 < 32) ∧ (∀ x5 : Int, x5 = am_or v1 (am_shl 1 x2) → ((0 ≤ M 44 9 ∧ M 44 9 < 5) ∧ ((-2147483648 ≤ (M 44 9) + 1 ∧ (M 44 9) + 1 < 2147483648) ∧ (∀ x6 : Int, x6 = (M 44 9) + 1 → ((-2147483648 ≤ v2 + 1 ∧ v2 + 1 < 2147483648) ∧ (am_R K12_readsOrder q 9 [aR 44, aI x5, aI (v2 + 1), aJ] [] (am_up (am_up M 52 ((M 44 9).toNat) x2) 44 9 x6)))))))))))) ∧ (¬ (¬ (x2 < 0) ∧ ¬ (4 < x2)) → (q (aI v2) (am_up M 44 9 0)))))))))) : am_R K12_readsOrder q 9 [aR 44, aI v1, aI v2, aJ] [] M := by
  refine s_iload 7 rfl rfl ?_
  refine s_aload 8 rfl rfl ?_
  refine s_getR 50 9 rfl rfl ?_
  refine s_push 10 rfl ?_
  refine s_iald (v := M 50 1) 11 rfl rfl (by decide) rfl ?_
  refine s_ic 12 rfl (fun h1 => ?_) (fun h1 => ?_)
  · refine s_push 57 rfl ?_
    exact s_iret 58 rfl (h.1 h1)
  · refine s_aload 13 rfl rfl ?_
    refine s_getR 49 14 rfl rfl ?_
    refine s_push 15 rfl ?_
    refine s_iload 16 rfl rfl ?_
    refine s_binX (v := 80 + v2) 17 rfl (h.2 h1).1 rfl ?_
    refine s_iald (v := M 49 ((80 + v2).toNat)) 18 rfl rfl (h.2 h1).2.1 rfl ?_
    refine s_push 19 rfl ?_
    refine s_binX (v := (M 49 ((80 + v2).toNat)) - 97) 20 rfl (h.2 h1).2.2.1 rfl ?_
    refine s_nameI (fun x2 ex2 => ?_)
    refine s_istore [aR 44, aI v1, aI v2, aI x2] 21 rfl rfl ?_
    refine s_iload 22 rfl rfl ?_
    refine s_i2l 23 rfl ?_
    refine s_push 24 rfl ?_
    refine s_push 25 rfl ?_
    refine s_call 26 rfl rfl rfl rfl rfl (ct_12_in ?_)
    show am_R K12_readsOrder q 41 [aR 44, aI v1, aI v2, aI x2] [aI (if ¬ (x2 < 0) ∧ ¬ (4 < x2) then 1 else 0)] M
    refine s_ifeqB 27 rfl (fun h3 => ?_) (fun h3 => ?_)
    · refine s_aload 32 rfl rfl ?_
      refine s_push 33 rfl ?_
      refine s_putI 34 rfl rfl ?_
      refine s_iload 35 rfl rfl ?_
      exact s_iret 36 rfl (((h.2 h1).2.2.2 x2 ex2).2 h3)
    · refine s_iload 28 rfl rfl ?_
      refine s_iload 29 rfl rfl ?_
      refine s_call 30 rfl rfl rfl rfl rfl (ct_12_isIn (((h.2 h1).2.2.2 x2 ex2).1 h3).1 ?_)
      show am_R K12_readsOrder q 49 [aR 44, aI v1, aI v2, aI x2] [aI (if am_and (am_shr v1 x2) 1 = 1 then 1 else 0)] M
      refine s_ifeqB 31 rfl (fun h4 => ?_) (fun h4 => ?_)
      · refine s_iload 37 rfl rfl ?_
        refine s_push 38 rfl ?_
        refine s_iload 39 rfl rfl ?_
        refine s_sh 40 rfl ((((h.2 h1).2.2.2 x2 ex2).1 h3).2.2 h4).1 ?_
        refine s_bin 41 rfl ?_
        refine s_nameI (fun x5 ex5 => ?_)
        refine s_istore [aR 44, aI x5, aI v2, aI x2] 42 rfl rfl ?_
        refine s_aload 43 rfl rfl ?_
        refine s_getR 52 44 rfl rfl ?_
        refine s_aload 45 rfl rfl ?_
        refine s_getI (v := M 44 9) 46 rfl rfl rfl ?_
        refine s_iload 47 rfl rfl ?_
        refine s_iast 48 rfl rfl (((((h.2 h1).2.2.2 x2 ex2).1 h3).2.2 h4).2 x5 ex5).1 ?_
        refine s_aload 49 rfl rfl ?_
        refine s_dupR 50 rfl ?_
        refine s_getI (v := M 44 9) 51 rfl rfl rfl ?_
        refine s_push 52 rfl ?_
        refine s_binX (v := (M 44 9) + 1) 53 rfl (((((h.2 h1).2.2.2 x2 ex2).1 h3).2.2 h4).2 x5 ex5).2.1 rfl ?_
        refine s_nameI (fun x6 ex6 => ?_)
        refine s_putI 54 rfl rfl ?_
        refine s_iinc [aR 44, aI x5, aI (v2 + 1), aI x2] 55 rfl rfl ((((((h.2 h1).2.2.2 x2 ex2).1 h3).2.2 h4).2 x5 ex5).2.2 x6 ex6).1 rfl ?_
        refine s_goto 56 rfl ?_
        exact am_R.jk (ls := [aR 44, aI x5, aI (v2 + 1), aJ]) ⟨Or.inr rfl, Or.inr rfl, Or.inr rfl, Or.inl rfl, trivial⟩ ((((((h.2 h1).2.2.2 x2 ex2).1 h3).2.2 h4).2 x5 ex5).2.2 x6 ex6).2
      · refine s_aload 32 rfl rfl ?_
        refine s_push 33 rfl ?_
        refine s_putI 34 rfl rfl ?_
        refine s_iload 35 rfl rfl ?_
        exact s_iret 36 rfl ((((h.2 h1).2.2.2 x2 ex2).1 h3).2.1 h4)
theorem e12_readsWay {q : am_Q} {M : am_M}  (h : am_R K12_readsWay q 7 [aR 44, aI 0, aJ] [] (am_up M 44 11 0)) : S12_readsWay [aR 44] M q := by
  refine am_S.intro rfl rfl ?_
  refine s_aload 0 rfl rfl ?_
  refine s_push 1 rfl ?_
  refine s_putI 2 rfl rfl ?_
  refine s_push 3 rfl ?_
  refine s_istore [aR 44, aI 0, aJ] 4 rfl rfl ?_
  exact h
theorem g12_readsWay_7 {q : am_Q} {M : am_M} {v1 : Int} (h : (M 50 2 ≤ v1 → (q (aI (-1)) M)) ∧ (¬ (M 50 2 ≤ v1) → ((-2147483648 ≤ 160 + v1 ∧ 160 + v1 < 2147483648) ∧ ((0 ≤ 160 + v1 ∧ 160 + v1 < 240) ∧ (∀ x2 : Int, x2 = f_12_letterOf (M 49 ((160 + v1).toNat)) → ((x2 = (-1) → (q (aI v1) (am_up M 44 11 0))) ∧ (¬ (x2 = (-1)) → ((0 ≤ M 44 11 ∧ M 44 11 < 40) ∧ ((-2147483648 ≤ (M 44 11) + 1 ∧ (M 44 11) + 1 < 2147483648) ∧ (∀ x4 : Int, x4 = (M 44 11) + 1 → ((-2147483648 ≤ v1 + 1 ∧ v1 + 1 < 2147483648) ∧ (am_R K12_readsWay q 7 [aR 44, aI (v1 + 1), aJ] [] (am_up (am_up M 53 ((M 44 11).toNat) x2) 44 11 x4))))))))))))) : am_R K12_readsWay q 7 [aR 44, aI v1, aJ] [] M := by
  refine s_iload 5 rfl rfl ?_
  refine s_aload 6 rfl rfl ?_
  refine s_getR 50 7 rfl rfl ?_
  refine s_push 8 rfl ?_
  refine s_iald (v := M 50 2) 9 rfl rfl (by decide) rfl ?_
  refine s_ic 10 rfl (fun h1 => ?_) (fun h1 => ?_)
  · refine s_push 41 rfl ?_
    exact s_iret 42 rfl (h.1 h1)
  · refine s_aload 11 rfl rfl ?_
    refine s_getR 49 12 rfl rfl ?_
    refine s_push 13 rfl ?_
    refine s_iload 14 rfl rfl ?_
    refine s_binX (v := 160 + v1) 15 rfl (h.2 h1).1 rfl ?_
    refine s_iald (v := M 49 ((160 + v1).toNat)) 16 rfl rfl (h.2 h1).2.1 rfl ?_
    refine s_call 17 rfl rfl rfl rfl rfl (ct_12_letterOf ?_)
    show am_R K12_readsWay q 30 [aR 44, aI v1, aJ] [aI (f_12_letterOf (M 49 ((160 + v1).toNat)))] M
    refine s_nameI (fun x2 ex2 => ?_)
    refine s_istore [aR 44, aI v1, aI x2] 18 rfl rfl ?_
    refine s_iload 19 rfl rfl ?_
    refine s_push 20 rfl ?_
    refine s_icne 21 rfl (fun h3 => ?_) (fun h3 => ?_)
    · refine s_aload 27 rfl rfl ?_
      refine s_getR 53 28 rfl rfl ?_
      refine s_aload 29 rfl rfl ?_
      refine s_getI (v := M 44 11) 30 rfl rfl rfl ?_
      refine s_iload 31 rfl rfl ?_
      refine s_iast 32 rfl rfl (((h.2 h1).2.2 x2 ex2).2 h3).1 ?_
      refine s_aload 33 rfl rfl ?_
      refine s_dupR 34 rfl ?_
      refine s_getI (v := M 44 11) 35 rfl rfl rfl ?_
      refine s_push 36 rfl ?_
      refine s_binX (v := (M 44 11) + 1) 37 rfl (((h.2 h1).2.2 x2 ex2).2 h3).2.1 rfl ?_
      refine s_nameI (fun x4 ex4 => ?_)
      refine s_putI 38 rfl rfl ?_
      refine s_iinc [aR 44, aI (v1 + 1), aI x2] 39 rfl rfl ((((h.2 h1).2.2 x2 ex2).2 h3).2.2 x4 ex4).1 rfl ?_
      refine s_goto 40 rfl ?_
      exact am_R.jk (ls := [aR 44, aI (v1 + 1), aJ]) ⟨Or.inr rfl, Or.inr rfl, Or.inl rfl, trivial⟩ ((((h.2 h1).2.2 x2 ex2).2 h3).2.2 x4 ex4).2
    · refine s_aload 22 rfl rfl ?_
      refine s_push 23 rfl ?_
      refine s_putI 24 rfl rfl ?_
      refine s_iload 25 rfl rfl ?_
      exact s_iret 26 rfl (((h.2 h1).2.2 x2 ex2).1 h3)
theorem e12_walks {q : am_Q} {M : am_M}  (h : ∀ x1 : Int, x1 = M 54 0 → (∀ x2 : Int, x2 = (if (¬ ((M 54 0) < 0) ∧ ¬ (63 < (M 54 0))) ∧ ¬ ((M 51) ((M 54 0).toNat) = 99) then 1 else 0) → (am_R K12_walks q 28 [aR 44, aI x2, aJ] [] (am_up (am_up M 44 17 0) 58 0 x1)))) : S12_walks [aR 44] M q := by
  refine am_S.intro rfl rfl ?_
  refine s_aload 0 rfl rfl ?_
  refine s_push 1 rfl ?_
  refine s_putI 2 rfl rfl ?_
  refine s_aload 3 rfl rfl ?_
  refine s_getR 58 4 rfl rfl ?_
  refine s_push 5 rfl ?_
  refine s_aload 6 rfl rfl ?_
  refine s_getR 54 7 rfl rfl ?_
  refine s_push 8 rfl ?_
  refine s_iald (v := M 54 0) 9 rfl rfl (by decide) rfl ?_
  refine s_nameI (fun x1 ex1 => ?_)
  refine s_iast 10 rfl rfl (by decide) ?_
  refine s_aload 11 rfl rfl ?_
  refine s_aload 12 rfl rfl ?_
  refine s_getR 54 13 rfl rfl ?_
  refine s_push 14 rfl ?_
  refine s_iald (v := M 54 0) 15 rfl rfl (by decide) rfl ?_
  refine s_callv (o := 44) 16 rfl rfl rfl rfl rfl (ct_12_isPlace ?_)
  show am_R K12_walks q 27 [aR 44, aJ, aJ] [aI (if (¬ ((M 54 0) < 0) ∧ ¬ (63 < (M 54 0))) ∧ ¬ ((M 51) ((M 54 0).toNat) = 99) then 1 else 0)] (am_up (am_up M 44 17 0) 58 0 x1)
  refine s_nameI (fun x2 ex2 => ?_)
  refine s_istore [aR 44, aI x2, aJ] 17 rfl rfl ?_
  exact ((h x1 ex1) x2 ex2)
theorem g12_walks_28 {q : am_Q} {M : am_M} {v1 : Int} (h : (v1 = 0 → (q aJ M)) ∧ (¬ (v1 = 0) → ((M 44 11 ≤ M 44 17 → (q aJ M)) ∧ (¬ (M 44 11 ≤ M 44 17) → ((0 ≤ M 44 17 ∧ M 44 17 < 41) ∧ ((0 ≤ M 44 17 ∧ M 44 17 < 40) ∧ ((ob_12_beside (M 51) (M 58 ((M 44 17).toNat)) (M 53 ((M 44 17).toNat))) ∧ (∀ x3 : Int, x3 = f_12_beside (M 51) (M 58 ((M 44 17).toNat)) (M 53 ((M 44 17).toNat)) → (∀ x5 : Int, x5 = (if ¬ (x3 = (-1)) then 1 else 0) → ((¬ (x3 = (-1)) → ((-2147483648 ≤ (M 44 17) + 1 ∧ (M 44 17) + 1 < 2147483648) ∧ (∀ x7 : Int, x7 = (M 44 17) + 1 → ((0 ≤ x7 ∧ x7 < 41) ∧ (am_R K12_walks q 28 [aR 44, aI x5, aJ] [] (am_up (am_up M 44 17 x7) 58 (x7.toNat) x3)))))) ∧ (¬ (¬ (x3 = (-1))) → (am_R K12_walks q 28 [aR 44, aI x5, aJ] [] M)))))))))))) : am_R K12_walks q 28 [aR 44, aI v1, aJ] [] M := by
  refine s_iload 18 rfl rfl ?_
  refine s_if 19 rfl (fun h1 => ?_) (fun h1 => ?_)
  · exact s_vret 60 rfl (h.1 h1)
  · refine s_aload 20 rfl rfl ?_
    refine s_getI (v := M 44 17) 21 rfl rfl rfl ?_
    refine s_aload 22 rfl rfl ?_
    refine s_getI (v := M 44 11) 23 rfl rfl rfl ?_
    refine s_ic 24 rfl (fun h2 => ?_) (fun h2 => ?_)
    · exact s_vret 60 rfl ((h.2 h1).1 h2)
    · refine s_aload 25 rfl rfl ?_
      refine s_aload 26 rfl rfl ?_
      refine s_getR 58 27 rfl rfl ?_
      refine s_aload 28 rfl rfl ?_
      refine s_getI (v := M 44 17) 29 rfl rfl rfl ?_
      refine s_iald (v := M 58 ((M 44 17).toNat)) 30 rfl rfl ((h.2 h1).2 h2).1 rfl ?_
      refine s_aload 31 rfl rfl ?_
      refine s_getR 53 32 rfl rfl ?_
      refine s_aload 33 rfl rfl ?_
      refine s_getI (v := M 44 17) 34 rfl rfl rfl ?_
      refine s_iald (v := M 53 ((M 44 17).toNat)) 35 rfl rfl ((h.2 h1).2 h2).2.1 rfl ?_
      refine s_callv (o := 44) 36 rfl rfl rfl rfl rfl (ct_12_beside ((h.2 h1).2 h2).2.2.1 ?_)
      show am_R K12_walks q 65 [aR 44, aI v1, aJ] [aI (f_12_beside (M 51) (M 58 ((M 44 17).toNat)) (M 53 ((M 44 17).toNat)))] M
      refine s_nameI (fun x3 ex3 => ?_)
      refine s_istore [aR 44, aI v1, aI x3] 37 rfl rfl ?_
      refine s_iload 38 rfl rfl ?_
      refine s_push 39 rfl ?_
      have j8 : ∀ (x5 : Int) (ex5 : x5 = (if ¬ (x3 = (-1)) then 1 else 0)), am_R K12_walks q 76 [aR 44, aI v1, aI x3] [aI x5] M := by
        intro x5 ex5
        refine s_istore [aR 44, aI x5, aI x3] 44 rfl rfl ?_
        refine s_iload 45 rfl rfl ?_
        refine s_ifeqV (c := ¬ (x3 = (-1))) 46 rfl ex5 (fun h6 => ?_) (fun h6 => ?_)
        · refine s_goto 59 rfl ?_
          exact am_R.jk (ls := [aR 44, aI x5, aJ]) ⟨Or.inr rfl, Or.inr rfl, Or.inl rfl, trivial⟩ (((((h.2 h1).2 h2).2.2.2 x3 ex3) x5 ex5).2 h6)
        · refine s_aload 47 rfl rfl ?_
          refine s_dupR 48 rfl ?_
          refine s_getI (v := M 44 17) 49 rfl rfl rfl ?_
          refine s_push 50 rfl ?_
          refine s_binX (v := (M 44 17) + 1) 51 rfl (((((h.2 h1).2 h2).2.2.2 x3 ex3) x5 ex5).1 h6).1 rfl ?_
          refine s_nameI (fun x7 ex7 => ?_)
          refine s_putI 52 rfl rfl ?_
          refine s_aload 53 rfl rfl ?_
          refine s_getR 58 54 rfl rfl ?_
          refine s_aload 55 rfl rfl ?_
          refine s_getI (v := x7) 56 rfl rfl (by simp [am_up, am_set]) ?_
          refine s_iload 57 rfl rfl ?_
          refine s_iast 58 rfl rfl ((((((h.2 h1).2 h2).2.2.2 x3 ex3) x5 ex5).1 h6).2 x7 ex7).1 ?_
          refine s_goto 59 rfl ?_
          exact am_R.jk (ls := [aR 44, aI x5, aJ]) ⟨Or.inr rfl, Or.inr rfl, Or.inl rfl, trivial⟩ ((((((h.2 h1).2 h2).2.2.2 x3 ex3) x5 ex5).1 h6).2 x7 ex7).2
      refine s_ic 40 rfl (fun h4 => ?_) (fun h4 => ?_)
      · refine s_push 43 rfl ?_
        exact j8 _ (if_neg (by omega)).symm
      · refine s_push 41 rfl ?_
        refine s_goto 42 rfl ?_
        exact j8 _ (if_pos (by omega)).symm
theorem e12_reads {q : am_Q} {M : am_M}  (h : S12_readsFair [aR 44] M (fun r2 M1 => ∃ x3 : Int, r2 = aI x3 ∧ (S12_readsOrder [aR 44] M1 (fun r6 M5 => ∃ x7 : Int, r6 = aI x7 ∧ (S12_readsWay [aR 44] M5 (fun r10 M9 => ∃ x11 : Int, r10 = aI x11 ∧ (S12_walks [aR 44] M9 (fun _ M13 => q aJ M13)))))))) : S12_reads [aR 44] M q := by
  refine am_S.intro rfl rfl ?_
  refine s_aload 0 rfl rfl ?_
  refine s_callv (o := 44) 1 rfl rfl rfl rfl rfl (am_S.mono h ?_)
  rintro r2 M1 ⟨x3, rfl, g4⟩
  show am_R K12_reads q 4 [aR 44] [aI x3] M1
  refine s_pop 2 rfl ?_
  refine s_aload 3 rfl rfl ?_
  refine s_callv (o := 44) 4 rfl rfl rfl rfl rfl (am_S.mono g4 ?_)
  rintro r6 M5 ⟨x7, rfl, g8⟩
  show am_R K12_reads q 9 [aR 44] [aI x7] M5
  refine s_pop 5 rfl ?_
  refine s_aload 6 rfl rfl ?_
  refine s_callv (o := 44) 7 rfl rfl rfl rfl rfl (am_S.mono g8 ?_)
  rintro r10 M9 ⟨x11, rfl, g12⟩
  show am_R K12_reads q 14 [aR 44] [aI x11] M9
  refine s_pop 8 rfl ?_
  refine s_aload 9 rfl rfl ?_
  refine s_callv (o := 44) 10 rfl rfl rfl rfl rfl (am_S.mono g12 ?_)
  intro r14 M13 g16
  show am_R K12_reads q 19 [aR 44] [] M13
  exact s_vret 11 rfl g16
theorem e12_part {q : am_Q} {M : am_M} {v0 : Int} {v2 : Int} {v4 : Int} (h : am_R K12_part q 6 [aL v0, aJ, aL v2, aJ, aI v4, aL v0, aJ, aL v2, aJ, aJ, aJ] [] M) : S12_part [aL v0, aL v2, aI v4] M q := by
  refine am_S.intro rfl rfl ?_
  refine s_lload 0 rfl rfl ?_
  refine s_lstore [aL v0, aJ, aL v2, aJ, aI v4, aL v0, aJ, aJ, aJ, aJ, aJ] 1 rfl rfl ?_
  refine s_lload 2 rfl rfl ?_
  refine s_lstore [aL v0, aJ, aL v2, aJ, aI v4, aL v0, aJ, aL v2, aJ, aJ, aJ] 3 rfl rfl ?_
  exact h
theorem g12_part_6 {q : am_Q} {M : am_M} {v0 v2 v4 v5 v7 : Int} (h : (v7 = 0 → (∀ x3 : Int, x3 = (if v4 = 0 then v0 else v2) → ((0 ≤ x3 ∧ 0 < v5) ∧ (q (aL (x3 / v5)) M)))) ∧ (¬ (v7 = 0) → ((0 ≤ v5 ∧ 0 < v7) ∧ (∀ x4 : Int, x4 = v5 % v7 → (am_R K12_part q 6 [aL v0, aJ, aL v2, aJ, aI v4, aL v7, aJ, aL x4, aJ, aJ, aJ] [] M))))) : am_R K12_part q 6 [aL v0, aJ, aL v2, aJ, aI v4, aL v5, aJ, aL v7, aJ, aJ, aJ] [] M := by
  refine s_lload 4 rfl rfl ?_
  refine s_push 5 rfl ?_
  refine s_lcmp 6 rfl ?_
  refine s_ifX (d := v7 = 0) 7 rfl (cq_eq _ _) (fun h1 => ?_) (fun h1 => ?_)
  · refine s_iload 17 rfl rfl ?_
    have j5 : ∀ (x3 : Int) (ex3 : x3 = (if v4 = 0 then v0 else v2)), am_R K12_part q 41 [aL v0, aJ, aL v2, aJ, aI v4, aL v5, aJ, aL v7, aJ, aJ, aJ] [aL x3] M := by
      intro x3 ex3
      refine s_lload 22 rfl rfl ?_
      refine s_ldiv 23 rfl ((h.1 h1) x3 ex3).1 ?_
      exact s_lret 24 rfl ((h.1 h1) x3 ex3).2
    refine s_ifne 18 rfl (fun h2 => ?_) (fun h2 => ?_)
    · refine s_lload 21 rfl rfl ?_
      exact j5 _ (by rw [if_neg h2])
    · refine s_lload 19 rfl rfl ?_
      refine s_goto 20 rfl ?_
      exact j5 _ (by rw [if_pos h2])
  · refine s_lload 8 rfl rfl ?_
    refine s_lload 9 rfl rfl ?_
    refine s_lrem 10 rfl (h.2 h1).1 ?_
    refine s_nameL (fun x4 ex4 => ?_)
    refine s_lstore [aL v0, aJ, aL v2, aJ, aI v4, aL v5, aJ, aL v7, aJ, aL x4, aJ] 11 rfl rfl ?_
    refine s_lload 12 rfl rfl ?_
    refine s_lstore [aL v0, aJ, aL v2, aJ, aI v4, aL v7, aJ, aL v7, aJ, aL x4, aJ] 13 rfl rfl ?_
    refine s_lload 14 rfl rfl ?_
    refine s_lstore [aL v0, aJ, aL v2, aJ, aI v4, aL v7, aJ, aL x4, aJ, aL x4, aJ] 15 rfl rfl ?_
    refine s_goto 16 rfl ?_
    exact am_R.jk (ls := [aL v0, aJ, aL v2, aJ, aI v4, aL v7, aJ, aL x4, aJ, aJ, aJ]) ⟨Or.inr rfl, Or.inr rfl, Or.inr rfl, Or.inr rfl, Or.inr rfl, Or.inr rfl, Or.inr rfl, Or.inr rfl, Or.inr rfl, Or.inl rfl, Or.inr rfl, trivial⟩ ((h.2 h1).2 x4 ex4)
theorem e12_alikeOf {q : am_Q} {M : am_M} {v1 : Int} (h : am_R K12_alikeOf q 11 [aR 44, aI v1, aL 1, aJ, aL 1, aJ, aL 1, aJ, aI 0] [] M) : S12_alikeOf [aR 44, aI v1] M q := by
  refine am_S.intro rfl rfl ?_
  refine s_push 0 rfl ?_
  refine s_lstore [aR 44, aI v1, aL 1, aJ, aJ, aJ, aJ, aJ, aJ] 1 rfl rfl ?_
  refine s_push 2 rfl ?_
  refine s_lstore [aR 44, aI v1, aL 1, aJ, aL 1, aJ, aJ, aJ, aJ] 3 rfl rfl ?_
  refine s_push 4 rfl ?_
  refine s_lstore [aR 44, aI v1, aL 1, aJ, aL 1, aJ, aL 1, aJ, aJ] 5 rfl rfl ?_
  refine s_push 6 rfl ?_
  refine s_istore [aR 44, aI v1, aL 1, aJ, aL 1, aJ, aL 1, aJ, aI 0] 7 rfl rfl ?_
  exact h
theorem g12_alikeOf_11 {q : am_Q} {M : am_M} {v1 v2 v4 v6 v8 : Int} (h : (M 44 9 ≤ v8 → ((M 44 9 = 0 → (q (aL 1) M)) ∧ (¬ (M 44 9 = 0) → ((-9223372036854775808 ≤ v2 + v4 ∧ v2 + v4 < 9223372036854775808) ∧ (S12_part [aL (v2 + v4), aL v6, aI v1] M (fun r4 M3 => ∃ x5 : Int, r4 = aL x5 ∧ (q (aL x5) M3))))))) ∧ (¬ (M 44 9 ≤ v8) → ((0 ≤ v8 ∧ v8 < 5) ∧ ((0 ≤ M 52 (v8.toNat) ∧ M 52 (v8.toNat) < 5) ∧ ((-9223372036854775808 ≤ v2 * (M 56 ((M 52 (v8.toNat)).toNat)) ∧ v2 * (M 56 ((M 52 (v8.toNat)).toNat)) < 9223372036854775808) ∧ (∀ x7 : Int, x7 = v2 * (M 56 ((M 52 (v8.toNat)).toNat)) → ((-2147483648 ≤ 16 - (M 56 ((M 52 (v8.toNat)).toNat)) ∧ 16 - (M 56 ((M 52 (v8.toNat)).toNat)) < 2147483648) ∧ ((-9223372036854775808 ≤ v4 * (16 - (M 56 ((M 52 (v8.toNat)).toNat))) ∧ v4 * (16 - (M 56 ((M 52 (v8.toNat)).toNat))) < 9223372036854775808) ∧ (∀ x8 : Int, x8 = v4 * (16 - (M 56 ((M 52 (v8.toNat)).toNat))) → ((-9223372036854775808 ≤ v6 * 16 ∧ v6 * 16 < 9223372036854775808) ∧ (∀ x9 : Int, x9 = v6 * 16 → ((-2147483648 ≤ v8 + 1 ∧ v8 + 1 < 2147483648) ∧ (am_R K12_alikeOf q 11 [aR 44, aI v1, aL x7, aJ, aL x8, aJ, aL x9, aJ, aI (v8 + 1)] [] M))))))))))))) : am_R K12_alikeOf q 11 [aR 44, aI v1, aL v2, aJ, aL v4, aJ, aL v6, aJ, aI v8] [] M := by
  refine s_iload 8 rfl rfl ?_
  refine s_aload 9 rfl rfl ?_
  refine s_getI (v := M 44 9) 10 rfl rfl rfl ?_
  refine s_ic 11 rfl (fun h1 => ?_) (fun h1 => ?_)
  · refine s_aload 42 rfl rfl ?_
    refine s_getI (v := M 44 9) 43 rfl rfl rfl ?_
    refine s_ifne 44 rfl (fun h2 => ?_) (fun h2 => ?_)
    · refine s_lload 47 rfl rfl ?_
      refine s_lload 48 rfl rfl ?_
      refine s_binLX (v := v2 + v4) 49 rfl ((h.1 h1).2 h2).1 rfl ?_
      refine s_lload 50 rfl rfl ?_
      refine s_iload 51 rfl rfl ?_
      refine s_call 52 rfl rfl rfl rfl rfl (am_S.mono ((h.1 h1).2 h2).2 ?_)
      rintro r4 M3 ⟨x5, rfl, g6⟩
      show am_R K12_alikeOf q 92 [aR 44, aI v1, aL v2, aJ, aL v4, aJ, aL v6, aJ, aI v8] [aL x5] M3
      exact s_lret 53 rfl g6
    · refine s_push 45 rfl ?_
      refine s_goto 46 rfl ?_
      exact s_lret 53 rfl ((h.1 h1).1 h2)
  · refine s_lload 12 rfl rfl ?_
    refine s_aload 13 rfl rfl ?_
    refine s_getR 56 14 rfl rfl ?_
    refine s_aload 15 rfl rfl ?_
    refine s_getR 52 16 rfl rfl ?_
    refine s_iload 17 rfl rfl ?_
    refine s_iald (v := M 52 (v8.toNat)) 18 rfl rfl (h.2 h1).1 rfl ?_
    refine s_iald (v := M 56 ((M 52 (v8.toNat)).toNat)) 19 rfl rfl (h.2 h1).2.1 rfl ?_
    refine s_i2l 20 rfl ?_
    refine s_binLX (v := v2 * (M 56 ((M 52 (v8.toNat)).toNat))) 21 rfl (h.2 h1).2.2.1 rfl ?_
    refine s_nameL (fun x7 ex7 => ?_)
    refine s_lstore [aR 44, aI v1, aL x7, aJ, aL v4, aJ, aL v6, aJ, aI v8] 22 rfl rfl ?_
    refine s_lload 23 rfl rfl ?_
    refine s_push 24 rfl ?_
    refine s_aload 25 rfl rfl ?_
    refine s_getR 56 26 rfl rfl ?_
    refine s_aload 27 rfl rfl ?_
    refine s_getR 52 28 rfl rfl ?_
    refine s_iload 29 rfl rfl ?_
    refine s_iald (v := M 52 (v8.toNat)) 30 rfl rfl (h.2 h1).1 rfl ?_
    refine s_iald (v := M 56 ((M 52 (v8.toNat)).toNat)) 31 rfl rfl (h.2 h1).2.1 rfl ?_
    refine s_binX (v := 16 - (M 56 ((M 52 (v8.toNat)).toNat))) 32 rfl ((h.2 h1).2.2.2 x7 ex7).1 rfl ?_
    refine s_i2l 33 rfl ?_
    refine s_binLX (v := v4 * (16 - (M 56 ((M 52 (v8.toNat)).toNat)))) 34 rfl ((h.2 h1).2.2.2 x7 ex7).2.1 rfl ?_
    refine s_nameL (fun x8 ex8 => ?_)
    refine s_lstore [aR 44, aI v1, aL x7, aJ, aL x8, aJ, aL v6, aJ, aI v8] 35 rfl rfl ?_
    refine s_lload 36 rfl rfl ?_
    refine s_push 37 rfl ?_
    refine s_binLX (v := v6 * 16) 38 rfl (((h.2 h1).2.2.2 x7 ex7).2.2 x8 ex8).1 rfl ?_
    refine s_nameL (fun x9 ex9 => ?_)
    refine s_lstore [aR 44, aI v1, aL x7, aJ, aL x8, aJ, aL x9, aJ, aI v8] 39 rfl rfl ?_
    refine s_iinc [aR 44, aI v1, aL x7, aJ, aL x8, aJ, aL x9, aJ, aI (v8 + 1)] 40 rfl rfl ((((h.2 h1).2.2.2 x7 ex7).2.2 x8 ex8).2 x9 ex9).1 rfl ?_
    refine s_goto 41 rfl ?_
    exact ((((h.2 h1).2.2.2 x7 ex7).2.2 x8 ex8).2 x9 ex9).2
theorem e12_alike {q : am_Q} {M : am_M} {v1 : Int} (h : S12_reads [aR 44] M (fun _ M1 => (¬ (v1 < 0) ∧ ¬ (1 < v1) → (S12_alikeOf [aR 44, aI v1] M1 (fun r7 M6 => ∃ x8 : Int, r7 = aL x8 ∧ (q (aL x8) M6)))) ∧ (¬ (¬ (v1 < 0) ∧ ¬ (1 < v1)) → (q (aL (f_12_no (-2))) M1)))) : S12_alike [aR 44, aI v1] M q := by
  refine am_S.intro rfl rfl ?_
  refine s_aload 0 rfl rfl ?_
  refine s_callv (o := 44) 1 rfl rfl rfl rfl rfl (am_S.mono h ?_)
  intro r2 M1 g4
  show am_R K12_alike q 4 [aR 44, aI v1] [] M1
  refine s_iload 2 rfl rfl ?_
  refine s_call 3 rfl rfl rfl rfl rfl (ct_12_isTwo ?_)
  show am_R K12_alike q 8 [aR 44, aI v1] [aI (if ¬ (v1 < 0) ∧ ¬ (1 < v1) then 1 else 0)] M1
  refine s_ifeqB 4 rfl (fun h5 => ?_) (fun h5 => ?_)
  · refine s_push 9 rfl ?_
    refine s_call 10 rfl rfl rfl rfl rfl (ct_12_no ?_)
    show am_R K12_alike q 24 [aR 44, aI v1] [aL (f_12_no (-2))] M1
    exact s_lret 11 rfl (g4.2 h5)
  · refine s_aload 5 rfl rfl ?_
    refine s_iload 6 rfl rfl ?_
    refine s_callv (o := 44) 7 rfl rfl rfl rfl rfl (am_S.mono (g4.1 h5) ?_)
    rintro r7 M6 ⟨x8, rfl, g9⟩
    show am_R K12_alike q 16 [aR 44, aI v1] [aL x8] M6
    refine s_goto 8 rfl ?_
    exact s_lret 11 rfl g9
theorem e12_at {q : am_Q} {M : am_M} {v1 : Int} (h : S12_reads [aR 44] M (fun _ M1 => (¬ (v1 < 0) ∧ ¬ ((M1 44 17) < v1) → ((¬ ((M1 54 0) < 0) ∧ ¬ (63 < (M1 54 0))) ∧ ¬ ((M1 51) ((M1 54 0).toNat) = 99) → (0 ≤ v1 ∧ v1 < 41))) ∧ (∀ x7 : Int, x7 = (if ¬ (v1 < 0) ∧ ¬ ((M1 44 17) < v1) then (if (¬ ((M1 54 0) < 0) ∧ ¬ (63 < (M1 54 0))) ∧ ¬ ((M1 51) ((M1 54 0).toNat) = 99) then M1 58 (v1.toNat) else (-3)) else (-2)) → (q (aI x7) M1)))) : S12_at [aR 44, aI v1] M q := by
  refine am_S.intro rfl rfl ?_
  refine s_aload 0 rfl rfl ?_
  refine s_callv (o := 44) 1 rfl rfl rfl rfl rfl (am_S.mono h ?_)
  intro r2 M1 g4
  show am_R K12_at q 4 [aR 44, aI v1] [] M1
  refine s_iload 2 rfl rfl ?_
  refine s_i2l 3 rfl ?_
  refine s_push 4 rfl ?_
  refine s_aload 5 rfl rfl ?_
  refine s_getI (v := M1 44 17) 6 rfl rfl rfl ?_
  refine s_i2l 7 rfl ?_
  refine s_call 8 rfl rfl rfl rfl rfl (ct_12_in ?_)
  show am_R K12_at q 15 [aR 44, aI v1] [aI (if ¬ (v1 < 0) ∧ ¬ ((M1 44 17) < v1) then 1 else 0)] M1
  have j8 : ∀ (x7 : Int) (ex7 : x7 = (if ¬ (v1 < 0) ∧ ¬ ((M1 44 17) < v1) then (if (¬ ((M1 54 0) < 0) ∧ ¬ (63 < (M1 54 0))) ∧ ¬ ((M1 51) ((M1 54 0).toNat) = 99) then M1 58 (v1.toNat) else (-3)) else (-2))), am_R K12_at q 47 [aR 44, aI v1] [aI x7] M1 := by
    intro x7 ex7
    exact s_iret 25 rfl (g4.2 x7 ex7)
  refine s_ifneB 9 rfl (fun h5 => ?_) (fun h5 => ?_)
  · refine s_aload 12 rfl rfl ?_
    refine s_aload 13 rfl rfl ?_
    refine s_getR 54 14 rfl rfl ?_
    refine s_push 15 rfl ?_
    refine s_iald (v := M1 54 0) 16 rfl rfl (by decide) rfl ?_
    refine s_callv (o := 44) 17 rfl rfl rfl rfl rfl (ct_12_isPlace ?_)
    show am_R K12_at q 33 [aR 44, aI v1] [aI (if (¬ ((M1 54 0) < 0) ∧ ¬ (63 < (M1 54 0))) ∧ ¬ ((M1 51) ((M1 54 0).toNat) = 99) then 1 else 0)] M1
    refine s_ifeqB 18 rfl (fun h6 => ?_) (fun h6 => ?_)
    · refine s_push 24 rfl ?_
      exact j8 _ (by rw [if_pos h5, if_neg h6])
    · refine s_aload 19 rfl rfl ?_
      refine s_getR 58 20 rfl rfl ?_
      refine s_iload 21 rfl rfl ?_
      refine s_iald (v := M1 58 (v1.toNat)) 22 rfl rfl ((g4.1 h5) h6) rfl ?_
      refine s_goto 23 rfl ?_
      exact j8 _ (by rw [if_pos h5, if_pos h6])
  · refine s_push 10 rfl ?_
    refine s_goto 11 rfl ?_
    exact j8 _ (by rw [if_neg h5])
theorem e12_ones {q : am_Q} {M : am_M} {v0 : Int} (h : am_R K12_ones q 4 [aJ, aI 0, aI v0] [] M) : S12_ones [aI v0] M q := by
  refine am_S.intro rfl rfl ?_
  refine s_push 0 rfl ?_
  refine s_istore [aI v0, aI 0, aJ] 1 rfl rfl ?_
  refine s_iload 2 rfl rfl ?_
  refine s_istore [aI v0, aI 0, aI v0] 3 rfl rfl ?_
  exact am_R.jk (ls := [aJ, aI 0, aI v0]) ⟨Or.inl rfl, Or.inr rfl, Or.inr rfl, trivial⟩ h
theorem g12_ones_4 {q : am_Q} {M : am_M} {v1 v2 : Int} (h : (v2 = 0 → (q (aI v1) M)) ∧ (¬ (v2 = 0) → ((-2147483648 ≤ v1 + 1 ∧ v1 + 1 < 2147483648) ∧ ((-2147483648 ≤ v2 - 1 ∧ v2 - 1 < 2147483648) ∧ (∀ x2 : Int, x2 = am_and v2 (v2 - 1) → (am_R K12_ones q 4 [aJ, aI (v1 + 1), aI x2] [] M)))))) : am_R K12_ones q 4 [aJ, aI v1, aI v2] [] M := by
  refine s_iload 4 rfl rfl ?_
  refine s_if 5 rfl (fun h1 => ?_) (fun h1 => ?_)
  · refine s_iload 14 rfl rfl ?_
    exact s_iret 15 rfl (h.1 h1)
  · refine s_iinc [aJ, aI (v1 + 1), aI v2] 6 rfl rfl (h.2 h1).1 rfl ?_
    refine s_iload 7 rfl rfl ?_
    refine s_iload 8 rfl rfl ?_
    refine s_push 9 rfl ?_
    refine s_binX (v := v2 - 1) 10 rfl (h.2 h1).2.1 rfl ?_
    refine s_bin 11 rfl ?_
    refine s_nameI (fun x2 ex2 => ?_)
    refine s_istore [aJ, aI (v1 + 1), aI x2] 12 rfl rfl ?_
    refine s_goto 13 rfl ?_
    exact ((h.2 h1).2.2 x2 ex2)
theorem e12_bestOf {q : am_Q} {M : am_M} {v1 : Int} {v2 : Int} (h : S12_ones [aI v1] M (fun r2 M1 => ∃ x3 : Int, r2 = aI x3 ∧ (am_R K12_bestOf q 11 [aR 44, aI v1, aI v2, aI x3, aI 1, aI 0, aJ, aJ, aJ, aJ, aJ] [] M1))) : S12_bestOf [aR 44, aI v1, aI v2] M q := by
  refine am_S.intro rfl rfl ?_
  refine s_iload 0 rfl rfl ?_
  refine s_call 1 rfl rfl rfl rfl rfl (am_S.mono h ?_)
  rintro r2 M1 ⟨x3, rfl, g4⟩
  show am_R K12_bestOf q 4 [aR 44, aI v1, aI v2, aJ, aJ, aJ, aJ, aJ, aJ, aJ, aJ] [aI x3] M1
  refine s_istore [aR 44, aI v1, aI v2, aI x3, aJ, aJ, aJ, aJ, aJ, aJ, aJ] 2 rfl rfl ?_
  refine s_push 3 rfl ?_
  refine s_istore [aR 44, aI v1, aI v2, aI x3, aI 1, aJ, aJ, aJ, aJ, aJ, aJ] 4 rfl rfl ?_
  refine s_push 5 rfl ?_
  refine s_istore [aR 44, aI v1, aI v2, aI x3, aI 1, aI 0, aJ, aJ, aJ, aJ, aJ] 6 rfl rfl ?_
  exact g4
theorem g12_bestOf_11 {q : am_Q} {M : am_M} {v1 v2 v3 v4 v5 : Int} (h : (v3 ≤ v5 → (am_R K12_bestOf q 35 [aR 44, aI v1, aI v2, aI v3, aI v4, aI (-1), aI 0, aJ, aJ, aJ, aJ] [] M)) ∧ (¬ (v3 ≤ v5) → ((-2147483648 ≤ v4 * 5 ∧ v4 * 5 < 2147483648) ∧ (∀ x2 : Int, x2 = v4 * 5 → ((-2147483648 ≤ v5 + 1 ∧ v5 + 1 < 2147483648) ∧ (am_R K12_bestOf q 11 [aR 44, aI v1, aI v2, aI v3, aI x2, aI (v5 + 1), aJ, aJ, aJ, aJ, aJ] [] M)))))) : am_R K12_bestOf q 11 [aR 44, aI v1, aI v2, aI v3, aI v4, aI v5, aJ, aJ, aJ, aJ, aJ] [] M := by
  refine s_iload 7 rfl rfl ?_
  refine s_iload 8 rfl rfl ?_
  refine s_ic 9 rfl (fun h1 => ?_) (fun h1 => ?_)
  · refine s_push 16 rfl ?_
    refine s_istore [aR 44, aI v1, aI v2, aI v3, aI v4, aI (-1), aJ, aJ, aJ, aJ, aJ] 17 rfl rfl ?_
    refine s_push 18 rfl ?_
    refine s_istore [aR 44, aI v1, aI v2, aI v3, aI v4, aI (-1), aI 0, aJ, aJ, aJ, aJ] 19 rfl rfl ?_
    exact (h.1 h1)
  · refine s_iload 10 rfl rfl ?_
    refine s_push 11 rfl ?_
    refine s_binX (v := v4 * 5) 12 rfl (h.2 h1).1 rfl ?_
    refine s_nameI (fun x2 ex2 => ?_)
    refine s_istore [aR 44, aI v1, aI v2, aI v3, aI x2, aI v5, aJ, aJ, aJ, aJ, aJ] 13 rfl rfl ?_
    refine s_iinc [aR 44, aI v1, aI v2, aI v3, aI x2, aI (v5 + 1), aJ, aJ, aJ, aJ, aJ] 14 rfl rfl ((h.2 h1).2 x2 ex2).1 rfl ?_
    refine s_goto 15 rfl ?_
    exact ((h.2 h1).2 x2 ex2).2
theorem g12_bestOf_35 {q : am_Q} {M : am_M} {v1 v2 v3 v4 v5 v6 : Int} (h : (v4 ≤ v6 → ((¬ (v2 = (-1)) → (0 ≤ v2 ∧ v2 < 5)) ∧ (∀ x3 : Int, x3 = (if v2 = (-1) then v5 else M 60 (v2.toNat)) → (q (aI x3) M)))) ∧ (¬ (v4 ≤ v6) → ((-2147483648 ≤ v3 - 1 ∧ v3 - 1 < 2147483648) ∧ (∀ x4 : Int, x4 = v3 - 1 → (am_R K12_bestOf q 57 [aR 44, aI v1, aI v2, aI v3, aI v4, aI v5, aI v6, aI v6, aI 0, aI 0, aI x4] [] M))))) : am_R K12_bestOf q 35 [aR 44, aI v1, aI v2, aI v3, aI v4, aI v5, aI v6, aJ, aJ, aJ, aJ] [] M := by
  refine s_iload 20 rfl rfl ?_
  refine s_iload 21 rfl rfl ?_
  refine s_ic 22 rfl (fun h1 => ?_) (fun h1 => ?_)
  · refine s_iload 118 rfl rfl ?_
    refine s_push 119 rfl ?_
    have j5 : ∀ (x3 : Int) (ex3 : x3 = (if v2 = (-1) then v5 else M 60 (v2.toNat))), am_R K12_bestOf q 227 [aR 44, aI v1, aI v2, aI v3, aI v4, aI v5, aI v6, aJ, aJ, aJ, aJ] [aI x3] M := by
      intro x3 ex3
      exact s_iret 127 rfl ((h.1 h1).2 x3 ex3)
    refine s_icne 120 rfl (fun h2 => ?_) (fun h2 => ?_)
    · refine s_aload 123 rfl rfl ?_
      refine s_getR 60 124 rfl rfl ?_
      refine s_iload 125 rfl rfl ?_
      refine s_iald (v := M 60 (v2.toNat)) 126 rfl rfl ((h.1 h1).1 h2) rfl ?_
      exact j5 _ (by rw [if_neg h2])
    · refine s_iload 121 rfl rfl ?_
      refine s_goto 122 rfl ?_
      exact j5 _ (by rw [if_pos h2])
  · refine s_iload 23 rfl rfl ?_
    refine s_istore [aR 44, aI v1, aI v2, aI v3, aI v4, aI v5, aI v6, aI v6, aJ, aJ, aJ] 24 rfl rfl ?_
    refine s_push 25 rfl ?_
    refine s_istore [aR 44, aI v1, aI v2, aI v3, aI v4, aI v5, aI v6, aI v6, aI 0, aJ, aJ] 26 rfl rfl ?_
    refine s_push 27 rfl ?_
    refine s_istore [aR 44, aI v1, aI v2, aI v3, aI v4, aI v5, aI v6, aI v6, aI 0, aI 0, aJ] 28 rfl rfl ?_
    refine s_iload 29 rfl rfl ?_
    refine s_push 30 rfl ?_
    refine s_binX (v := v3 - 1) 31 rfl (h.2 h1).1 rfl ?_
    refine s_nameI (fun x4 ex4 => ?_)
    refine s_istore [aR 44, aI v1, aI v2, aI v3, aI v4, aI v5, aI v6, aI v6, aI 0, aI 0, aI x4] 32 rfl rfl ?_
    exact ((h.2 h1).2 x4 ex4)
theorem g12_bestOf_57 {q : am_Q} {M : am_M} {v1 v2 v3 v4 v5 v6 v7 v8 v9 v10 : Int} (h : (v10 < 0 → ((v8 = v1 → ((v5 = (-1) → (am_R K12_bestOf q 169 [aR 44, aI v1, aI v2, aI v3, aI v4, aI v9, aI v6, aJ, aJ, aJ, aI 0] [] M)) ∧ (¬ (v5 = (-1)) → ((v5 ≤ v9 → ((-2147483648 ≤ v6 + 1 ∧ v6 + 1 < 2147483648) ∧ (am_R K12_bestOf q 35 [aR 44, aI v1, aI v2, aI v3, aI v4, aI v5, aI (v6 + 1), aJ, aJ, aJ, aJ] [] M))) ∧ (¬ (v5 ≤ v9) → (am_R K12_bestOf q 169 [aR 44, aI v1, aI v2, aI v3, aI v4, aI v9, aI v6, aJ, aJ, aJ, aI 0] [] M)))))) ∧ (¬ (v8 = v1) → ((-2147483648 ≤ v6 + 1 ∧ v6 + 1 < 2147483648) ∧ (am_R K12_bestOf q 35 [aR 44, aI v1, aI v2, aI v3, aI v4, aI v5, aI (v6 + 1), aJ, aJ, aJ, aJ] [] M))))) ∧ (¬ (v10 < 0) → ((0 ≤ v7) ∧ (∀ x5 : Int, x5 = v7 % 5 → ((0 ≤ v10 ∧ v10 < 5) ∧ (∀ x6 : Int, x6 = v7 / 5 → ((0 ≤ x5 ∧ x5 < 32) ∧ (∀ x7 : Int, x7 = am_or v8 (am_shl 1 x5) → ((-2147483648 ≤ v3 - 1 ∧ v3 - 1 < 2147483648) ∧ ((¬ (v3 - 1 ≤ v10) → ((-2147483648 ≤ 5 * x5 ∧ 5 * x5 < 2147483648) ∧ ((-2147483648 ≤ v10 + 1 ∧ v10 + 1 < 2147483648) ∧ ((0 ≤ v10 + 1 ∧ v10 + 1 < 5) ∧ ((-2147483648 ≤ (5 * x5) + ((am_up M 61 (v10.toNat) x5) 61 ((v10 + 1).toNat)) ∧ (5 * x5) + ((am_up M 61 (v10.toNat) x5) 61 ((v10 + 1).toNat)) < 2147483648) ∧ ((0 ≤ (5 * x5) + ((am_up M 61 (v10.toNat) x5) 61 ((v10 + 1).toNat)) ∧ (5 * x5) + ((am_up M 61 (v10.toNat) x5) 61 ((v10 + 1).toNat)) < 25) ∧ (-2147483648 ≤ 16 - (M 55 (((5 * x5) + ((am_up M 61 (v10.toNat) x5) 61 ((v10 + 1).toNat))).toNat)) ∧ 16 - (M 55 (((5 * x5) + ((am_up M 61 (v10.toNat) x5) 61 ((v10 + 1).toNat))).toNat)) < 2147483648))))))) ∧ (∀ x9 : Int, x9 = (if v3 - 1 ≤ v10 then 0 else 16 - (M 55 (((5 * x5) + ((am_up M 61 (v10.toNat) x5) 61 ((v10 + 1).toNat))).toNat))) → ((-2147483648 ≤ v9 + x9 ∧ v9 + x9 < 2147483648) ∧ (∀ x10 : Int, x10 = v9 + x9 → ((-2147483648 ≤ v10 + (-1) ∧ v10 + (-1) < 2147483648) ∧ (am_R K12_bestOf q 57 [aR 44, aI v1, aI v2, aI v3, aI v4, aI v5, aI v6, aI x6, aI x7, aI x10, aI (v10 + (-1))] [] (am_up M 61 (v10.toNat) x5)))))))))))))))) : am_R K12_bestOf q 57 [aR 44, aI v1, aI v2, aI v3, aI v4, aI v5, aI v6, aI v7, aI v8, aI v9, aI v10] [] M := by
  refine s_iload 33 rfl rfl ?_
  refine s_if 34 rfl (fun h1 => ?_) (fun h1 => ?_)
  · refine s_iload 85 rfl rfl ?_
    refine s_iload 86 rfl rfl ?_
    refine s_icne 87 rfl (fun h2 => ?_) (fun h2 => ?_)
    · refine s_iinc [aR 44, aI v1, aI v2, aI v3, aI v4, aI v5, aI (v6 + 1), aI v7, aI v8, aI v9, aI v10] 116 rfl rfl ((h.1 h1).2 h2).1 rfl ?_
      refine s_goto 117 rfl ?_
      exact am_R.jk (ls := [aR 44, aI v1, aI v2, aI v3, aI v4, aI v5, aI (v6 + 1), aJ, aJ, aJ, aJ]) ⟨Or.inr rfl, Or.inr rfl, Or.inr rfl, Or.inr rfl, Or.inr rfl, Or.inr rfl, Or.inr rfl, Or.inl rfl, Or.inl rfl, Or.inl rfl, Or.inl rfl, trivial⟩ ((h.1 h1).2 h2).2
    · refine s_iload 88 rfl rfl ?_
      refine s_push 89 rfl ?_
      refine s_ic 90 rfl (fun h3 => ?_) (fun h3 => ?_)
      · refine s_iload 94 rfl rfl ?_
        refine s_istore [aR 44, aI v1, aI v2, aI v3, aI v4, aI v9, aI v6, aI v7, aI v8, aI v9, aI v10] 95 rfl rfl ?_
        refine s_push 96 rfl ?_
        refine s_istore [aR 44, aI v1, aI v2, aI v3, aI v4, aI v9, aI v6, aI v7, aI v8, aI v9, aI 0] 97 rfl rfl ?_
        exact am_R.jk (ls := [aR 44, aI v1, aI v2, aI v3, aI v4, aI v9, aI v6, aJ, aJ, aJ, aI 0]) ⟨Or.inr rfl, Or.inr rfl, Or.inr rfl, Or.inr rfl, Or.inr rfl, Or.inr rfl, Or.inr rfl, Or.inl rfl, Or.inl rfl, Or.inl rfl, Or.inr rfl, trivial⟩ (((h.1 h1).1 h2).1 h3)
      · refine s_iload 91 rfl rfl ?_
        refine s_iload 92 rfl rfl ?_
        refine s_ic 93 rfl (fun h4 => ?_) (fun h4 => ?_)
        · refine s_iinc [aR 44, aI v1, aI v2, aI v3, aI v4, aI v5, aI (v6 + 1), aI v7, aI v8, aI v9, aI v10] 116 rfl rfl ((((h.1 h1).1 h2).2 h3).1 h4).1 rfl ?_
          refine s_goto 117 rfl ?_
          exact am_R.jk (ls := [aR 44, aI v1, aI v2, aI v3, aI v4, aI v5, aI (v6 + 1), aJ, aJ, aJ, aJ]) ⟨Or.inr rfl, Or.inr rfl, Or.inr rfl, Or.inr rfl, Or.inr rfl, Or.inr rfl, Or.inr rfl, Or.inl rfl, Or.inl rfl, Or.inl rfl, Or.inl rfl, trivial⟩ ((((h.1 h1).1 h2).2 h3).1 h4).2
        · refine s_iload 94 rfl rfl ?_
          refine s_istore [aR 44, aI v1, aI v2, aI v3, aI v4, aI v9, aI v6, aI v7, aI v8, aI v9, aI v10] 95 rfl rfl ?_
          refine s_push 96 rfl ?_
          refine s_istore [aR 44, aI v1, aI v2, aI v3, aI v4, aI v9, aI v6, aI v7, aI v8, aI v9, aI 0] 97 rfl rfl ?_
          exact am_R.jk (ls := [aR 44, aI v1, aI v2, aI v3, aI v4, aI v9, aI v6, aJ, aJ, aJ, aI 0]) ⟨Or.inr rfl, Or.inr rfl, Or.inr rfl, Or.inr rfl, Or.inr rfl, Or.inr rfl, Or.inr rfl, Or.inl rfl, Or.inl rfl, Or.inl rfl, Or.inr rfl, trivial⟩ ((((h.1 h1).1 h2).2 h3).2 h4)
  · refine s_aload 35 rfl rfl ?_
    refine s_getR 61 36 rfl rfl ?_
    refine s_iload 37 rfl rfl ?_
    refine s_iload 38 rfl rfl ?_
    refine s_push 39 rfl ?_
    refine s_irem 40 rfl ⟨(h.2 h1).1, by decide⟩ ?_
    refine s_nameI (fun x5 ex5 => ?_)
    refine s_iast 41 rfl rfl ((h.2 h1).2 x5 ex5).1 ?_
    refine s_iload 42 rfl rfl ?_
    refine s_push 43 rfl ?_
    refine s_idiv 44 rfl ⟨(h.2 h1).1, by decide⟩ ?_
    refine s_nameI (fun x6 ex6 => ?_)
    refine s_istore [aR 44, aI v1, aI v2, aI v3, aI v4, aI v5, aI v6, aI x6, aI v8, aI v9, aI v10] 45 rfl rfl ?_
    refine s_iload 46 rfl rfl ?_
    refine s_push 47 rfl ?_
    refine s_aload 48 rfl rfl ?_
    refine s_getR 61 49 rfl rfl ?_
    refine s_iload 50 rfl rfl ?_
    refine s_iald (v := x5) 51 rfl rfl ((h.2 h1).2 x5 ex5).1 (by simp [am_up, am_set]) ?_
    refine s_sh 52 rfl (((h.2 h1).2 x5 ex5).2 x6 ex6).1 ?_
    refine s_bin 53 rfl ?_
    refine s_nameI (fun x7 ex7 => ?_)
    refine s_istore [aR 44, aI v1, aI v2, aI v3, aI v4, aI v5, aI v6, aI x6, aI x7, aI v9, aI v10] 54 rfl rfl ?_
    refine s_iload 55 rfl rfl ?_
    refine s_iload 56 rfl rfl ?_
    refine s_iload 57 rfl rfl ?_
    refine s_push 58 rfl ?_
    refine s_binX (v := v3 - 1) 59 rfl ((((h.2 h1).2 x5 ex5).2 x6 ex6).2 x7 ex7).1 rfl ?_
    have j11 : ∀ (x9 : Int) (ex9 : x9 = (if v3 - 1 ≤ v10 then 0 else 16 - (M 55 (((5 * x5) + ((am_up M 61 (v10.toNat) x5) 61 ((v10 + 1).toNat))).toNat)))), am_R K12_bestOf q 134 [aR 44, aI v1, aI v2, aI v3, aI v4, aI v5, aI v6, aI x6, aI x7, aI v9, aI v10] [aI x9, aI v9] (am_up M 61 (v10.toNat) x5) := by
      intro x9 ex9
      refine s_binX (v := v9 + x9) 81 rfl (((((h.2 h1).2 x5 ex5).2 x6 ex6).2 x7 ex7).2.2 x9 ex9).1 rfl ?_
      refine s_nameI (fun x10 ex10 => ?_)
      refine s_istore [aR 44, aI v1, aI v2, aI v3, aI v4, aI v5, aI v6, aI x6, aI x7, aI x10, aI v10] 82 rfl rfl ?_
      refine s_iinc [aR 44, aI v1, aI v2, aI v3, aI v4, aI v5, aI v6, aI x6, aI x7, aI x10, aI (v10 + (-1))] 83 rfl rfl ((((((h.2 h1).2 x5 ex5).2 x6 ex6).2 x7 ex7).2.2 x9 ex9).2 x10 ex10).1 rfl ?_
      refine s_goto 84 rfl ?_
      exact ((((((h.2 h1).2 x5 ex5).2 x6 ex6).2 x7 ex7).2.2 x9 ex9).2 x10 ex10).2
    refine s_ic 60 rfl (fun h8 => ?_) (fun h8 => ?_)
    · refine s_push 80 rfl ?_
      exact j11 _ (by rw [if_pos h8])
    · refine s_push 61 rfl ?_
      refine s_aload 62 rfl rfl ?_
      refine s_getR 55 63 rfl rfl ?_
      refine s_push 64 rfl ?_
      refine s_aload 65 rfl rfl ?_
      refine s_getR 61 66 rfl rfl ?_
      refine s_iload 67 rfl rfl ?_
      refine s_iald (v := x5) 68 rfl rfl ((h.2 h1).2 x5 ex5).1 (by simp [am_up, am_set]) ?_
      refine s_binX (v := 5 * x5) 69 rfl (((((h.2 h1).2 x5 ex5).2 x6 ex6).2 x7 ex7).2.1 h8).1 rfl ?_
      refine s_aload 70 rfl rfl ?_
      refine s_getR 61 71 rfl rfl ?_
      refine s_iload 72 rfl rfl ?_
      refine s_push 73 rfl ?_
      refine s_binX (v := v10 + 1) 74 rfl (((((h.2 h1).2 x5 ex5).2 x6 ex6).2 x7 ex7).2.1 h8).2.1 rfl ?_
      refine s_iald (v := (am_up M 61 (v10.toNat) x5) 61 ((v10 + 1).toNat)) 75 rfl rfl (((((h.2 h1).2 x5 ex5).2 x6 ex6).2 x7 ex7).2.1 h8).2.2.1 rfl ?_
      refine s_binX (v := (5 * x5) + ((am_up M 61 (v10.toNat) x5) 61 ((v10 + 1).toNat))) 76 rfl (((((h.2 h1).2 x5 ex5).2 x6 ex6).2 x7 ex7).2.1 h8).2.2.2.1 rfl ?_
      refine s_iald (v := M 55 (((5 * x5) + ((am_up M 61 (v10.toNat) x5) 61 ((v10 + 1).toNat))).toNat)) 77 rfl rfl (((((h.2 h1).2 x5 ex5).2 x6 ex6).2 x7 ex7).2.1 h8).2.2.2.2.1 rfl ?_
      refine s_binX (v := 16 - (M 55 (((5 * x5) + ((am_up M 61 (v10.toNat) x5) 61 ((v10 + 1).toNat))).toNat))) 78 rfl (((((h.2 h1).2 x5 ex5).2 x6 ex6).2 x7 ex7).2.1 h8).2.2.2.2.2 rfl ?_
      refine s_goto 79 rfl ?_
      exact j11 _ (by rw [if_neg h8])
theorem g12_bestOf_169 {q : am_Q} {M : am_M} {v1 v2 v3 v4 v5 v6 v10 : Int} (h : (5 ≤ v10 → ((-2147483648 ≤ v6 + 1 ∧ v6 + 1 < 2147483648) ∧ (am_R K12_bestOf q 35 [aR 44, aI v1, aI v2, aI v3, aI v4, aI v5, aI (v6 + 1), aJ, aJ, aJ, aJ] [] M))) ∧ (¬ (5 ≤ v10) → ((¬ (v3 ≤ v10) → (0 ≤ v10 ∧ v10 < 5)) ∧ (∀ x3 : Int, x3 = (if v3 ≤ v10 then (-1) else M 61 (v10.toNat)) → ((0 ≤ v10 ∧ v10 < 5) ∧ ((-2147483648 ≤ v10 + 1 ∧ v10 + 1 < 2147483648) ∧ (am_R K12_bestOf q 169 [aR 44, aI v1, aI v2, aI v3, aI v4, aI v5, aI v6, aJ, aJ, aJ, aI (v10 + 1)] [] (am_up M 60 (v10.toNat) x3)))))))) : am_R K12_bestOf q 169 [aR 44, aI v1, aI v2, aI v3, aI v4, aI v5, aI v6, aJ, aJ, aJ, aI v10] [] M := by
  refine s_iload 98 rfl rfl ?_
  refine s_push 99 rfl ?_
  refine s_ic 100 rfl (fun h1 => ?_) (fun h1 => ?_)
  · refine s_iinc [aR 44, aI v1, aI v2, aI v3, aI v4, aI v5, aI (v6 + 1), aJ, aJ, aJ, aI v10] 116 rfl rfl (h.1 h1).1 rfl ?_
    refine s_goto 117 rfl ?_
    exact am_R.jk (ls := [aR 44, aI v1, aI v2, aI v3, aI v4, aI v5, aI (v6 + 1), aJ, aJ, aJ, aJ]) ⟨Or.inr rfl, Or.inr rfl, Or.inr rfl, Or.inr rfl, Or.inr rfl, Or.inr rfl, Or.inr rfl, Or.inr rfl, Or.inr rfl, Or.inr rfl, Or.inl rfl, trivial⟩ (h.1 h1).2
  · refine s_aload 101 rfl rfl ?_
    refine s_getR 60 102 rfl rfl ?_
    refine s_iload 103 rfl rfl ?_
    refine s_iload 104 rfl rfl ?_
    refine s_iload 105 rfl rfl ?_
    have j4 : ∀ (x3 : Int) (ex3 : x3 = (if v3 ≤ v10 then (-1) else M 61 (v10.toNat))), am_R K12_bestOf q 198 [aR 44, aI v1, aI v2, aI v3, aI v4, aI v5, aI v6, aJ, aJ, aJ, aI v10] [aI x3, aI v10, aR 60] M := by
      intro x3 ex3
      refine s_iast 113 rfl rfl ((h.2 h1).2 x3 ex3).1 ?_
      refine s_iinc [aR 44, aI v1, aI v2, aI v3, aI v4, aI v5, aI v6, aJ, aJ, aJ, aI (v10 + 1)] 114 rfl rfl ((h.2 h1).2 x3 ex3).2.1 rfl ?_
      refine s_goto 115 rfl ?_
      exact ((h.2 h1).2 x3 ex3).2.2
    refine s_ic 106 rfl (fun h2 => ?_) (fun h2 => ?_)
    · refine s_push 112 rfl ?_
      exact j4 _ (by rw [if_pos h2])
    · refine s_aload 107 rfl rfl ?_
      refine s_getR 61 108 rfl rfl ?_
      refine s_iload 109 rfl rfl ?_
      refine s_iald (v := M 61 (v10.toNat)) 110 rfl rfl ((h.2 h1).1 h2) rfl ?_
      refine s_goto 111 rfl ?_
      exact j4 _ (by rw [if_neg h2])
theorem e12_best {q : am_Q} {M : am_M} {v1 : Int} {v2 : Int} (h : (¬ (v1 < 0) ∧ ¬ (31 < v1) → (S12_ones [aI v1] M (fun r3 M2 => ∃ x4 : Int, r3 = aI x4 ∧ ((x4 ≤ 1 → (q (aI (-2)) M2)) ∧ (¬ (x4 ≤ 1) → ((¬ (v2 < (-1)) ∧ ¬ (4 < v2) → (S12_bestOf [aR 44, aI v1, aI v2] M2 (fun r9 M8 => ∃ x10 : Int, r9 = aI x10 ∧ (q (aI x10) M8)))) ∧ (¬ (¬ (v2 < (-1)) ∧ ¬ (4 < v2)) → (q (aI (-2)) M2)))))))) ∧ (¬ (¬ (v1 < 0) ∧ ¬ (31 < v1)) → (q (aI (-2)) M))) : S12_best [aR 44, aI v1, aI v2] M q := by
  refine am_S.intro rfl rfl ?_
  refine s_iload 0 rfl rfl ?_
  refine s_i2l 1 rfl ?_
  refine s_push 2 rfl ?_
  refine s_push 3 rfl ?_
  refine s_call 4 rfl rfl rfl rfl rfl (ct_12_in ?_)
  show am_R K12_best q 9 [aR 44, aI v1, aI v2] [aI (if ¬ (v1 < 0) ∧ ¬ (31 < v1) then 1 else 0)] M
  refine s_ifeqB 5 rfl (fun h1 => ?_) (fun h1 => ?_)
  · refine s_push 21 rfl ?_
    exact s_iret 22 rfl (h.2 h1)
  · refine s_iload 6 rfl rfl ?_
    refine s_call 7 rfl rfl rfl rfl rfl (am_S.mono (h.1 h1) ?_)
    rintro r3 M2 ⟨x4, rfl, g5⟩
    show am_R K12_best q 16 [aR 44, aI v1, aI v2] [aI x4] M2
    refine s_push 8 rfl ?_
    refine s_ic 9 rfl (fun h6 => ?_) (fun h6 => ?_)
    · refine s_push 21 rfl ?_
      exact s_iret 22 rfl (g5.1 h6)
    · refine s_iload 10 rfl rfl ?_
      refine s_i2l 11 rfl ?_
      refine s_push 12 rfl ?_
      refine s_push 13 rfl ?_
      refine s_call 14 rfl rfl rfl rfl rfl (ct_12_in ?_)
      show am_R K12_best q 31 [aR 44, aI v1, aI v2] [aI (if ¬ (v2 < (-1)) ∧ ¬ (4 < v2) then 1 else 0)] M2
      refine s_ifeqB 15 rfl (fun h7 => ?_) (fun h7 => ?_)
      · refine s_push 21 rfl ?_
        exact s_iret 22 rfl ((g5.2 h6).2 h7)
      · refine s_aload 16 rfl rfl ?_
        refine s_iload 17 rfl rfl ?_
        refine s_iload 18 rfl rfl ?_
        refine s_callv (o := 44) 19 rfl rfl rfl rfl rfl (am_S.mono ((g5.2 h6).1 h7) ?_)
        rintro r9 M8 ⟨x10, rfl, g11⟩
        show am_R K12_best q 40 [aR 44, aI v1, aI v2] [aI x10] M8
        refine s_goto 20 rfl ?_
        exact s_iret 22 rfl g11
theorem e12_met {q : am_Q} {M : am_M} {v1 : Int} (h : (-2147483648 ≤ (-10) - v1 ∧ (-10) - v1 < 2147483648) ∧ (q (aI ((-10) - v1)) (am_up M 44 4 v1))) : S12_met [aR 44, aI v1] M q := by
  refine am_S.intro rfl rfl ?_
  refine s_aload 0 rfl rfl ?_
  refine s_iload 1 rfl rfl ?_
  refine s_putI 2 rfl rfl ?_
  refine s_push 3 rfl ?_
  refine s_iload 4 rfl rfl ?_
  refine s_binX (v := (-10) - v1) 5 rfl h.1 rfl ?_
  exact s_iret 6 rfl h.2
theorem e12_copy {q : am_Q} {M : am_M} {v1 : Int} {v2 : Int} {v3 : Int} {v4 : Int} {v5 : Int} (h : (¬ (v1 < 0) ∧ ¬ (3 < v1) → ((¬ (v3 < 0) ∧ ¬ (3 < v3) → ((0 ≤ v1 ∧ v1 < 4) ∧ ((M 45 (v1.toNat) < 0 → (S12_met [aR 44, aI 1] M (fun r5 M4 => ∃ x6 : Int, r5 = aI x6 ∧ (q (aI x6) M4)))) ∧ (¬ (M 45 (v1.toNat) < 0) → ((0 ≤ v3 ∧ v3 < 4) ∧ ((0 ≤ M 45 (v3.toNat) → ((M 45 (v1.toNat) = M 45 (v3.toNat) → ((v2 < 0 → (S12_met [aR 44, aI 2] M (fun r12 M11 => ∃ x13 : Int, r12 = aI x13 ∧ (q (aI x13) M11)))) ∧ (¬ (v2 < 0) → ((v4 < 0 → (S12_met [aR 44, aI 2] M (fun r17 M16 => ∃ x18 : Int, r17 = aI x18 ∧ (q (aI x18) M16)))) ∧ (¬ (v4 < 0) → ((v5 < 0 → (S12_met [aR 44, aI 2] M (fun r22 M21 => ∃ x23 : Int, r22 = aI x23 ∧ (q (aI x23) M21)))) ∧ (¬ (v5 < 0) → ((-9223372036854775808 ≤ v2 + v5 ∧ v2 + v5 < 9223372036854775808) ∧ (((M 46 (v1.toNat)) < (v2 + v5) → (S12_met [aR 44, aI 2] M (fun r27 M26 => ∃ x28 : Int, r27 = aI x28 ∧ (q (aI x28) M26)))) ∧ (¬ ((M 46 (v1.toNat)) < (v2 + v5)) → ((-9223372036854775808 ≤ v4 + v5 ∧ v4 + v5 < 9223372036854775808) ∧ (((v4 + v5) ≤ (M 46 (v3.toNat)) → (am_R K12_copy q 120 [aR 44, aI v1, aI v2, aI v3, aI v4, aI v5, aI 0] [] M)) ∧ (¬ ((v4 + v5) ≤ (M 46 (v3.toNat))) → (S12_met [aR 44, aI 2] M (fun r32 M31 => ∃ x33 : Int, r32 = aI x33 ∧ (q (aI x33) M31)))))))))))))))) ∧ (¬ (M 45 (v1.toNat) = M 45 (v3.toNat)) → (S12_met [aR 44, aI 4] M (fun r36 M35 => ∃ x37 : Int, r36 = aI x37 ∧ (q (aI x37) M35)))))) ∧ (¬ (0 ≤ M 45 (v3.toNat)) → (S12_met [aR 44, aI 1] M (fun r40 M39 => ∃ x41 : Int, r40 = aI x41 ∧ (q (aI x41) M39)))))))))) ∧ (¬ (¬ (v3 < 0) ∧ ¬ (3 < v3)) → (q (aI (-2)) M)))) ∧ (¬ (¬ (v1 < 0) ∧ ¬ (3 < v1)) → (q (aI (-2)) M))) : S12_copy [aR 44, aI v1, aI v2, aI v3, aI v4, aI v5] M q := by
  refine am_S.intro rfl rfl ?_
  refine s_iload 0 rfl rfl ?_
  refine s_call 1 rfl rfl rfl rfl rfl (ct_12_isSheet ?_)
  show am_R K12_copy q 4 [aR 44, aI v1, aI v2, aI v3, aI v4, aI v5, aJ] [aI (if ¬ (v1 < 0) ∧ ¬ (3 < v1) then 1 else 0)] M
  refine s_ifeqB 2 rfl (fun h1 => ?_) (fun h1 => ?_)
  · refine s_push 6 rfl ?_
    exact s_iret 7 rfl (h.2 h1)
  · refine s_iload 3 rfl rfl ?_
    refine s_call 4 rfl rfl rfl rfl rfl (ct_12_isSheet ?_)
    show am_R K12_copy q 11 [aR 44, aI v1, aI v2, aI v3, aI v4, aI v5, aJ] [aI (if ¬ (v3 < 0) ∧ ¬ (3 < v3) then 1 else 0)] M
    refine s_ifneB 5 rfl (fun h2 => ?_) (fun h2 => ?_)
    · refine s_aload 8 rfl rfl ?_
      refine s_getR 45 9 rfl rfl ?_
      refine s_iload 10 rfl rfl ?_
      refine s_iald (v := M 45 (v1.toNat)) 11 rfl rfl ((h.1 h1).1 h2).1 rfl ?_
      refine s_if 12 rfl (fun h3 => ?_) (fun h3 => ?_)
      · refine s_aload 18 rfl rfl ?_
        refine s_push 19 rfl ?_
        refine s_callv (o := 44) 20 rfl rfl rfl rfl rfl (am_S.mono (((h.1 h1).1 h2).2.1 h3) ?_)
        rintro r5 M4 ⟨x6, rfl, g7⟩
        show am_R K12_copy q 40 [aR 44, aI v1, aI v2, aI v3, aI v4, aI v5, aJ] [aI x6] M4
        exact s_iret 21 rfl g7
      · refine s_aload 13 rfl rfl ?_
        refine s_getR 45 14 rfl rfl ?_
        refine s_iload 15 rfl rfl ?_
        refine s_iald (v := M 45 (v3.toNat)) 16 rfl rfl (((h.1 h1).1 h2).2.2 h3).1 rfl ?_
        refine s_if 17 rfl (fun h8 => ?_) (fun h8 => ?_)
        · refine s_aload 22 rfl rfl ?_
          refine s_getR 45 23 rfl rfl ?_
          refine s_iload 24 rfl rfl ?_
          refine s_iald (v := M 45 (v1.toNat)) 25 rfl rfl ((h.1 h1).1 h2).1 rfl ?_
          refine s_aload 26 rfl rfl ?_
          refine s_getR 45 27 rfl rfl ?_
          refine s_iload 28 rfl rfl ?_
          refine s_iald (v := M 45 (v3.toNat)) 29 rfl rfl (((h.1 h1).1 h2).2.2 h3).1 rfl ?_
          refine s_ic 30 rfl (fun h9 => ?_) (fun h9 => ?_)
          · refine s_iload 35 rfl rfl ?_
            refine s_if 36 rfl (fun h10 => ?_) (fun h10 => ?_)
            · refine s_aload 65 rfl rfl ?_
              refine s_push 66 rfl ?_
              refine s_callv (o := 44) 67 rfl rfl rfl rfl rfl (am_S.mono ((((((h.1 h1).1 h2).2.2 h3).2.1 h8).1 h9).1 h10) ?_)
              rintro r12 M11 ⟨x13, rfl, g14⟩
              show am_R K12_copy q 116 [aR 44, aI v1, aI v2, aI v3, aI v4, aI v5, aJ] [aI x13] M11
              exact s_iret 68 rfl g14
            · refine s_iload 37 rfl rfl ?_
              refine s_if 38 rfl (fun h15 => ?_) (fun h15 => ?_)
              · refine s_aload 65 rfl rfl ?_
                refine s_push 66 rfl ?_
                refine s_callv (o := 44) 67 rfl rfl rfl rfl rfl (am_S.mono (((((((h.1 h1).1 h2).2.2 h3).2.1 h8).1 h9).2 h10).1 h15) ?_)
                rintro r17 M16 ⟨x18, rfl, g19⟩
                show am_R K12_copy q 116 [aR 44, aI v1, aI v2, aI v3, aI v4, aI v5, aJ] [aI x18] M16
                exact s_iret 68 rfl g19
              · refine s_iload 39 rfl rfl ?_
                refine s_if 40 rfl (fun h20 => ?_) (fun h20 => ?_)
                · refine s_aload 65 rfl rfl ?_
                  refine s_push 66 rfl ?_
                  refine s_callv (o := 44) 67 rfl rfl rfl rfl rfl (am_S.mono ((((((((h.1 h1).1 h2).2.2 h3).2.1 h8).1 h9).2 h10).2 h15).1 h20) ?_)
                  rintro r22 M21 ⟨x23, rfl, g24⟩
                  show am_R K12_copy q 116 [aR 44, aI v1, aI v2, aI v3, aI v4, aI v5, aJ] [aI x23] M21
                  exact s_iret 68 rfl g24
                · refine s_iload 41 rfl rfl ?_
                  refine s_i2l 42 rfl ?_
                  refine s_iload 43 rfl rfl ?_
                  refine s_i2l 44 rfl ?_
                  refine s_binLX (v := v2 + v5) 45 rfl ((((((((h.1 h1).1 h2).2.2 h3).2.1 h8).1 h9).2 h10).2 h15).2 h20).1 rfl ?_
                  refine s_aload 46 rfl rfl ?_
                  refine s_getR 46 47 rfl rfl ?_
                  refine s_iload 48 rfl rfl ?_
                  refine s_iald (v := M 46 (v1.toNat)) 49 rfl rfl ((h.1 h1).1 h2).1 rfl ?_
                  refine s_i2l 50 rfl ?_
                  refine s_lcmp 51 rfl ?_
                  refine s_ifX (d := (M 46 (v1.toNat)) < (v2 + v5)) 52 rfl (cq_gt _ _) (fun h25 => ?_) (fun h25 => ?_)
                  · refine s_aload 65 rfl rfl ?_
                    refine s_push 66 rfl ?_
                    refine s_callv (o := 44) 67 rfl rfl rfl rfl rfl (am_S.mono (((((((((h.1 h1).1 h2).2.2 h3).2.1 h8).1 h9).2 h10).2 h15).2 h20).2.1 h25) ?_)
                    rintro r27 M26 ⟨x28, rfl, g29⟩
                    show am_R K12_copy q 116 [aR 44, aI v1, aI v2, aI v3, aI v4, aI v5, aJ] [aI x28] M26
                    exact s_iret 68 rfl g29
                  · refine s_iload 53 rfl rfl ?_
                    refine s_i2l 54 rfl ?_
                    refine s_iload 55 rfl rfl ?_
                    refine s_i2l 56 rfl ?_
                    refine s_binLX (v := v4 + v5) 57 rfl (((((((((h.1 h1).1 h2).2.2 h3).2.1 h8).1 h9).2 h10).2 h15).2 h20).2.2 h25).1 rfl ?_
                    refine s_aload 58 rfl rfl ?_
                    refine s_getR 46 59 rfl rfl ?_
                    refine s_iload 60 rfl rfl ?_
                    refine s_iald (v := M 46 (v3.toNat)) 61 rfl rfl (((h.1 h1).1 h2).2.2 h3).1 rfl ?_
                    refine s_i2l 62 rfl ?_
                    refine s_lcmp 63 rfl ?_
                    refine s_ifX (d := (v4 + v5) ≤ (M 46 (v3.toNat))) 64 rfl (cq_le _ _) (fun h30 => ?_) (fun h30 => ?_)
                    · refine s_push 69 rfl ?_
                      refine s_istore [aR 44, aI v1, aI v2, aI v3, aI v4, aI v5, aI 0] 70 rfl rfl ?_
                      exact ((((((((((h.1 h1).1 h2).2.2 h3).2.1 h8).1 h9).2 h10).2 h15).2 h20).2.2 h25).2.1 h30)
                    · refine s_aload 65 rfl rfl ?_
                      refine s_push 66 rfl ?_
                      refine s_callv (o := 44) 67 rfl rfl rfl rfl rfl (am_S.mono ((((((((((h.1 h1).1 h2).2.2 h3).2.1 h8).1 h9).2 h10).2 h15).2 h20).2.2 h25).2.2 h30) ?_)
                      rintro r32 M31 ⟨x33, rfl, g34⟩
                      show am_R K12_copy q 116 [aR 44, aI v1, aI v2, aI v3, aI v4, aI v5, aJ] [aI x33] M31
                      exact s_iret 68 rfl g34
          · refine s_aload 31 rfl rfl ?_
            refine s_push 32 rfl ?_
            refine s_callv (o := 44) 33 rfl rfl rfl rfl rfl (am_S.mono (((((h.1 h1).1 h2).2.2 h3).2.1 h8).2 h9) ?_)
            rintro r36 M35 ⟨x37, rfl, g38⟩
            show am_R K12_copy q 61 [aR 44, aI v1, aI v2, aI v3, aI v4, aI v5, aJ] [aI x37] M35
            exact s_iret 34 rfl g38
        · refine s_aload 18 rfl rfl ?_
          refine s_push 19 rfl ?_
          refine s_callv (o := 44) 20 rfl rfl rfl rfl rfl (am_S.mono ((((h.1 h1).1 h2).2.2 h3).2.2 h8) ?_)
          rintro r40 M39 ⟨x41, rfl, g42⟩
          show am_R K12_copy q 40 [aR 44, aI v1, aI v2, aI v3, aI v4, aI v5, aJ] [aI x41] M39
          exact s_iret 21 rfl g42
    · refine s_push 6 rfl ?_
      exact s_iret 7 rfl ((h.1 h1).2 h2)
theorem g12_copy_120 {q : am_Q} {M : am_M} {v1 v2 v3 v4 v5 v6 : Int} (h : (v5 ≤ v6 → (am_R K12_copy q 157 [aR 44, aJ, aJ, aI v3, aI v4, aI v5, aI 0] [] M)) ∧ (¬ (v5 ≤ v6) → ((-2147483648 ≤ 64 * v1 ∧ 64 * v1 < 2147483648) ∧ ((-2147483648 ≤ (64 * v1) + v2 ∧ (64 * v1) + v2 < 2147483648) ∧ ((-2147483648 ≤ ((64 * v1) + v2) + v6 ∧ ((64 * v1) + v2) + v6 < 2147483648) ∧ ((0 ≤ ((64 * v1) + v2) + v6 ∧ ((64 * v1) + v2) + v6 < 256) ∧ (∀ x2 : Int, x2 = M 47 ((((64 * v1) + v2) + v6).toNat) → ((0 ≤ v6 ∧ v6 < 64) ∧ ((-2147483648 ≤ v6 + 1 ∧ v6 + 1 < 2147483648) ∧ (am_R K12_copy q 120 [aR 44, aI v1, aI v2, aI v3, aI v4, aI v5, aI (v6 + 1)] [] (am_up M 48 (v6.toNat) x2))))))))))) : am_R K12_copy q 120 [aR 44, aI v1, aI v2, aI v3, aI v4, aI v5, aI v6] [] M := by
  refine s_iload 71 rfl rfl ?_
  refine s_iload 72 rfl rfl ?_
  refine s_ic 73 rfl (fun h1 => ?_) (fun h1 => ?_)
  · refine s_push 90 rfl ?_
    refine s_istore [aR 44, aI v1, aI v2, aI v3, aI v4, aI v5, aI 0] 91 rfl rfl ?_
    exact am_R.jk (ls := [aR 44, aJ, aJ, aI v3, aI v4, aI v5, aI 0]) ⟨Or.inr rfl, Or.inl rfl, Or.inl rfl, Or.inr rfl, Or.inr rfl, Or.inr rfl, Or.inr rfl, trivial⟩ (h.1 h1)
  · refine s_aload 74 rfl rfl ?_
    refine s_getR 48 75 rfl rfl ?_
    refine s_iload 76 rfl rfl ?_
    refine s_aload 77 rfl rfl ?_
    refine s_getR 47 78 rfl rfl ?_
    refine s_push 79 rfl ?_
    refine s_iload 80 rfl rfl ?_
    refine s_binX (v := 64 * v1) 81 rfl (h.2 h1).1 rfl ?_
    refine s_iload 82 rfl rfl ?_
    refine s_binX (v := (64 * v1) + v2) 83 rfl (h.2 h1).2.1 rfl ?_
    refine s_iload 84 rfl rfl ?_
    refine s_binX (v := ((64 * v1) + v2) + v6) 85 rfl (h.2 h1).2.2.1 rfl ?_
    refine s_iald (v := M 47 ((((64 * v1) + v2) + v6).toNat)) 86 rfl rfl (h.2 h1).2.2.2.1 rfl ?_
    refine s_nameI (fun x2 ex2 => ?_)
    refine s_iast 87 rfl rfl ((h.2 h1).2.2.2.2 x2 ex2).1 ?_
    refine s_iinc [aR 44, aI v1, aI v2, aI v3, aI v4, aI v5, aI (v6 + 1)] 88 rfl rfl ((h.2 h1).2.2.2.2 x2 ex2).2.1 rfl ?_
    refine s_goto 89 rfl ?_
    exact ((h.2 h1).2.2.2.2 x2 ex2).2.2
theorem g12_copy_157 {q : am_Q} {M : am_M} {v3 v4 v5 v6 : Int} (h : (v5 ≤ v6 → (q (aI 1) M)) ∧ (¬ (v5 ≤ v6) → ((-2147483648 ≤ 64 * v3 ∧ 64 * v3 < 2147483648) ∧ ((-2147483648 ≤ (64 * v3) + v4 ∧ (64 * v3) + v4 < 2147483648) ∧ ((-2147483648 ≤ ((64 * v3) + v4) + v6 ∧ ((64 * v3) + v4) + v6 < 2147483648) ∧ ((0 ≤ v6 ∧ v6 < 64) ∧ (∀ x2 : Int, x2 = M 48 (v6.toNat) → ((0 ≤ ((64 * v3) + v4) + v6 ∧ ((64 * v3) + v4) + v6 < 256) ∧ ((-2147483648 ≤ v6 + 1 ∧ v6 + 1 < 2147483648) ∧ (am_R K12_copy q 157 [aR 44, aJ, aJ, aI v3, aI v4, aI v5, aI (v6 + 1)] [] (am_up M 47 ((((64 * v3) + v4) + v6).toNat) x2))))))))))) : am_R K12_copy q 157 [aR 44, aJ, aJ, aI v3, aI v4, aI v5, aI v6] [] M := by
  refine s_iload 92 rfl rfl ?_
  refine s_iload 93 rfl rfl ?_
  refine s_ic 94 rfl (fun h1 => ?_) (fun h1 => ?_)
  · refine s_push 111 rfl ?_
    exact s_iret 112 rfl (h.1 h1)
  · refine s_aload 95 rfl rfl ?_
    refine s_getR 47 96 rfl rfl ?_
    refine s_push 97 rfl ?_
    refine s_iload 98 rfl rfl ?_
    refine s_binX (v := 64 * v3) 99 rfl (h.2 h1).1 rfl ?_
    refine s_iload 100 rfl rfl ?_
    refine s_binX (v := (64 * v3) + v4) 101 rfl (h.2 h1).2.1 rfl ?_
    refine s_iload 102 rfl rfl ?_
    refine s_binX (v := ((64 * v3) + v4) + v6) 103 rfl (h.2 h1).2.2.1 rfl ?_
    refine s_aload 104 rfl rfl ?_
    refine s_getR 48 105 rfl rfl ?_
    refine s_iload 106 rfl rfl ?_
    refine s_iald (v := M 48 (v6.toNat)) 107 rfl rfl (h.2 h1).2.2.2.1 rfl ?_
    refine s_nameI (fun x2 ex2 => ?_)
    refine s_iast 108 rfl rfl ((h.2 h1).2.2.2.2 x2 ex2).1 ?_
    refine s_iinc [aR 44, aJ, aJ, aI v3, aI v4, aI v5, aI (v6 + 1)] 109 rfl rfl ((h.2 h1).2.2.2.2 x2 ex2).2.1 rfl ?_
    refine s_goto 110 rfl ?_
    exact ((h.2 h1).2.2.2.2 x2 ex2).2.2
theorem e12_count {q : am_Q} {M : am_M} {v1 : Int} (h : S12_reads [aR 44] M (fun _ M1 => (v1 = 0 → (am_R K12_count q 58 [aR 44, aJ, aI 0, aI 0] [] M1)) ∧ (¬ (v1 = 0) → ((v1 = 1 → (q (aI (M1 44 9)) M1)) ∧ (¬ (v1 = 1) → ((v1 = 2 → (q (aI (M1 44 11)) M1)) ∧ (¬ (v1 = 2) → ((v1 = 3 → (q (aI (M1 44 17)) M1)) ∧ (¬ (v1 = 3) → ((v1 = 4 → ((-2147483648 ≤ v1 - 4 ∧ v1 - 4 < 2147483648) ∧ ((0 ≤ v1 - 4 ∧ v1 - 4 < 3) ∧ (q (aI (M1 50 ((v1 - 4).toNat))) M1)))) ∧ (¬ (v1 = 4) → ((v1 = 5 → ((-2147483648 ≤ v1 - 4 ∧ v1 - 4 < 2147483648) ∧ ((0 ≤ v1 - 4 ∧ v1 - 4 < 3) ∧ (q (aI (M1 50 ((v1 - 4).toNat))) M1)))) ∧ (¬ (v1 = 5) → ((v1 = 6 → ((-2147483648 ≤ v1 - 4 ∧ v1 - 4 < 2147483648) ∧ ((0 ≤ v1 - 4 ∧ v1 - 4 < 3) ∧ (q (aI (M1 50 ((v1 - 4).toNat))) M1)))) ∧ (¬ (v1 = 6) → ((v1 = 7 → (q (aI (M1 44 28)) M1)) ∧ (¬ (v1 = 7) → ((v1 = 8 → (q (aI (M1 44 4)) M1)) ∧ (¬ (v1 = 8) → (q (aI (-2)) M1)))))))))))))))))))) : S12_count [aR 44, aI v1] M q := by
  refine am_S.intro rfl rfl ?_
  refine s_push 0 rfl ?_
  refine s_istore [aR 44, aI v1, aI 0, aJ] 1 rfl rfl ?_
  refine s_aload 2 rfl rfl ?_
  refine s_callv (o := 44) 3 rfl rfl rfl rfl rfl (am_S.mono h ?_)
  intro r2 M1 g4
  show am_R K12_count q 6 [aR 44, aI v1, aI 0, aJ] [] M1
  refine s_iload 4 rfl rfl ?_
  rcases Classical.em (v1 = 0) with h5 | h5
  · refine s_tsw 5 rfl (tg_eq (m := 56) (by rw [h5]; decide) ?_)
    refine s_push 6 rfl ?_
    refine s_istore [aR 44, aI v1, aI 0, aI 0] 7 rfl rfl ?_
    exact am_R.jk (ls := [aR 44, aJ, aI 0, aI 0]) ⟨Or.inr rfl, Or.inl rfl, Or.inr rfl, Or.inr rfl, trivial⟩ (g4.1 h5)
  · rcases Classical.em (v1 = 1) with h6 | h6
    · refine s_tsw 5 rfl (tg_eq (m := 91) (by rw [h6]; decide) ?_)
      refine s_aload 27 rfl rfl ?_
      refine s_getI (v := M1 44 9) 28 rfl rfl rfl ?_
      exact s_iret 29 rfl ((g4.2 h5).1 h6)
    · rcases Classical.em (v1 = 2) with h7 | h7
      · refine s_tsw 5 rfl (tg_eq (m := 96) (by rw [h7]; decide) ?_)
        refine s_aload 30 rfl rfl ?_
        refine s_getI (v := M1 44 11) 31 rfl rfl rfl ?_
        exact s_iret 32 rfl (((g4.2 h5).2 h6).1 h7)
      · rcases Classical.em (v1 = 3) with h8 | h8
        · refine s_tsw 5 rfl (tg_eq (m := 101) (by rw [h8]; decide) ?_)
          refine s_aload 33 rfl rfl ?_
          refine s_getI (v := M1 44 17) 34 rfl rfl rfl ?_
          exact s_iret 35 rfl ((((g4.2 h5).2 h6).2 h7).1 h8)
        · rcases Classical.em (v1 = 4) with h9 | h9
          · refine s_tsw 5 rfl (tg_eq (m := 106) (by rw [h9]; decide) ?_)
            refine s_aload 36 rfl rfl ?_
            refine s_getR 50 37 rfl rfl ?_
            refine s_iload 38 rfl rfl ?_
            refine s_push 39 rfl ?_
            refine s_binX (v := v1 - 4) 40 rfl (((((g4.2 h5).2 h6).2 h7).2 h8).1 h9).1 rfl ?_
            refine s_iald (v := M1 50 ((v1 - 4).toNat)) 41 rfl rfl (((((g4.2 h5).2 h6).2 h7).2 h8).1 h9).2.1 rfl ?_
            exact s_iret 42 rfl (((((g4.2 h5).2 h6).2 h7).2 h8).1 h9).2.2
          · rcases Classical.em (v1 = 5) with h10 | h10
            · refine s_tsw 5 rfl (tg_eq (m := 106) (by rw [h10]; decide) ?_)
              refine s_aload 36 rfl rfl ?_
              refine s_getR 50 37 rfl rfl ?_
              refine s_iload 38 rfl rfl ?_
              refine s_push 39 rfl ?_
              refine s_binX (v := v1 - 4) 40 rfl ((((((g4.2 h5).2 h6).2 h7).2 h8).2 h9).1 h10).1 rfl ?_
              refine s_iald (v := M1 50 ((v1 - 4).toNat)) 41 rfl rfl ((((((g4.2 h5).2 h6).2 h7).2 h8).2 h9).1 h10).2.1 rfl ?_
              exact s_iret 42 rfl ((((((g4.2 h5).2 h6).2 h7).2 h8).2 h9).1 h10).2.2
            · rcases Classical.em (v1 = 6) with h11 | h11
              · refine s_tsw 5 rfl (tg_eq (m := 106) (by rw [h11]; decide) ?_)
                refine s_aload 36 rfl rfl ?_
                refine s_getR 50 37 rfl rfl ?_
                refine s_iload 38 rfl rfl ?_
                refine s_push 39 rfl ?_
                refine s_binX (v := v1 - 4) 40 rfl (((((((g4.2 h5).2 h6).2 h7).2 h8).2 h9).2 h10).1 h11).1 rfl ?_
                refine s_iald (v := M1 50 ((v1 - 4).toNat)) 41 rfl rfl (((((((g4.2 h5).2 h6).2 h7).2 h8).2 h9).2 h10).1 h11).2.1 rfl ?_
                exact s_iret 42 rfl (((((((g4.2 h5).2 h6).2 h7).2 h8).2 h9).2 h10).1 h11).2.2
              · rcases Classical.em (v1 = 7) with h12 | h12
                · refine s_tsw 5 rfl (tg_eq (m := 115) (by rw [h12]; decide) ?_)
                  refine s_aload 43 rfl rfl ?_
                  refine s_getI (v := M1 44 28) 44 rfl rfl rfl ?_
                  exact s_iret 45 rfl ((((((((g4.2 h5).2 h6).2 h7).2 h8).2 h9).2 h10).2 h11).1 h12)
                · rcases Classical.em (v1 = 8) with h13 | h13
                  · refine s_tsw 5 rfl (tg_eq (m := 120) (by rw [h13]; decide) ?_)
                    refine s_aload 46 rfl rfl ?_
                    refine s_getI (v := M1 44 4) 47 rfl rfl rfl ?_
                    exact s_iret 48 rfl (((((((((g4.2 h5).2 h6).2 h7).2 h8).2 h9).2 h10).2 h11).2 h12).1 h13)
                  · refine s_tsw 5 rfl (tg_eq (m := 125) (by unfold am_tgt; rw [if_pos (by omega)]) ?_)
                    refine s_push 49 rfl ?_
                    exact s_iret 50 rfl (((((((((g4.2 h5).2 h6).2 h7).2 h8).2 h9).2 h10).2 h11).2 h12).2 h13)
theorem g12_count_58 {q : am_Q} {M : am_M} {v2 v3 : Int} (h : (64 ≤ v3 → (q (aI v2) M)) ∧ (¬ (64 ≤ v3) → ((0 ≤ v3 ∧ v3 < 64) ∧ (∀ x3 : Int, x3 = (if ¬ (M 51 (v3.toNat) = 99) then 1 else 0) → ((-2147483648 ≤ v2 + x3 ∧ v2 + x3 < 2147483648) ∧ (∀ x4 : Int, x4 = v2 + x3 → ((-2147483648 ≤ v3 + 1 ∧ v3 + 1 < 2147483648) ∧ (am_R K12_count q 58 [aR 44, aJ, aI x4, aI (v3 + 1)] [] M)))))))) : am_R K12_count q 58 [aR 44, aJ, aI v2, aI v3] [] M := by
  refine s_iload 8 rfl rfl ?_
  refine s_push 9 rfl ?_
  refine s_ic 10 rfl (fun h1 => ?_) (fun h1 => ?_)
  · refine s_iload 25 rfl rfl ?_
    exact s_iret 26 rfl (h.1 h1)
  · refine s_iload 11 rfl rfl ?_
    refine s_aload 12 rfl rfl ?_
    refine s_getR 51 13 rfl rfl ?_
    refine s_iload 14 rfl rfl ?_
    refine s_iald (v := M 51 (v3.toNat)) 15 rfl rfl (h.2 h1).1 rfl ?_
    refine s_push 16 rfl ?_
    have j5 : ∀ (x3 : Int) (ex3 : x3 = (if ¬ (M 51 (v3.toNat) = 99) then 1 else 0)), am_R K12_count q 81 [aR 44, aJ, aI v2, aI v3] [aI x3, aI v2] M := by
      intro x3 ex3
      refine s_binX (v := v2 + x3) 21 rfl ((h.2 h1).2 x3 ex3).1 rfl ?_
      refine s_nameI (fun x4 ex4 => ?_)
      refine s_istore [aR 44, aJ, aI x4, aI v3] 22 rfl rfl ?_
      refine s_iinc [aR 44, aJ, aI x4, aI (v3 + 1)] 23 rfl rfl (((h.2 h1).2 x3 ex3).2 x4 ex4).1 rfl ?_
      refine s_goto 24 rfl ?_
      exact (((h.2 h1).2 x3 ex3).2 x4 ex4).2
    refine s_icne 17 rfl (fun h2 => ?_) (fun h2 => ?_)
    · refine s_push 20 rfl ?_
      exact j5 _ (if_pos (by omega)).symm
    · refine s_push 18 rfl ?_
      refine s_goto 19 rfl ?_
      exact j5 _ (if_neg (by omega)).symm
theorem e12_countsOf {q : am_Q} {M : am_M} {v0 : Int} {v1 : Int} {v2 : Int} (h : am_R K12_countsOf q 8 [aI v0, aI v1, aI v2, aI 1, aI 0, aI 1, aJ] [] M) : S12_countsOf [aI v0, aI v1, aI v2] M q := by
  refine am_S.intro rfl rfl ?_
  refine s_push 0 rfl ?_
  refine s_istore [aI v0, aI v1, aI v2, aI 1, aJ, aJ, aJ] 1 rfl rfl ?_
  refine s_push 2 rfl ?_
  refine s_istore [aI v0, aI v1, aI v2, aI 1, aI 0, aJ, aJ] 3 rfl rfl ?_
  refine s_push 4 rfl ?_
  refine s_istore [aI v0, aI v1, aI v2, aI 1, aI 0, aI 1, aJ] 5 rfl rfl ?_
  exact h
theorem g12_countsOf_8 {q : am_Q} {M : am_M} {v0 v1 v2 v3 v4 v5 : Int} (h : (61 ≤ v5 → (q (aI v3) M)) ∧ (¬ (61 ≤ v5) → ((-2147483648 ≤ v0 + v5 ∧ v0 + v5 < 2147483648) ∧ ((-2147483648 ≤ (v0 + v5) - 1 ∧ (v0 + v5) - 1 < 2147483648) ∧ ((0 ≤ (v0 + v5) - 1 ∧ 0 < v5) ∧ ((-2147483648 ≤ v1 * (((v0 + v5) - 1) / v5) ∧ v1 * (((v0 + v5) - 1) / v5) < 2147483648) ∧ ((-2147483648 ≤ v5 - 1 ∧ v5 - 1 < 2147483648) ∧ ((-2147483648 ≤ v2 * (v5 - 1) ∧ v2 * (v5 - 1) < 2147483648) ∧ ((-2147483648 ≤ (v1 * (((v0 + v5) - 1) / v5)) + (v2 * (v5 - 1)) ∧ (v1 * (((v0 + v5) - 1) / v5)) + (v2 * (v5 - 1)) < 2147483648) ∧ (∀ x2 : Int, x2 = (v1 * (((v0 + v5) - 1) / v5)) + (v2 * (v5 - 1)) → (∀ x5 : Int, x5 = (if v5 = 1 then v5 else if v4 ≤ x2 then v3 else v5) → (∀ x7 : Int, x7 = (if x5 = v5 then x2 else v4) → ((-2147483648 ≤ v5 + 1 ∧ v5 + 1 < 2147483648) ∧ (am_R K12_countsOf q 8 [aI v0, aI v1, aI v2, aI x5, aI x7, aI (v5 + 1), aJ] [] M)))))))))))))) : am_R K12_countsOf q 8 [aI v0, aI v1, aI v2, aI v3, aI v4, aI v5, aJ] [] M := by
  refine s_iload 6 rfl rfl ?_
  refine s_push 7 rfl ?_
  refine s_ic 8 rfl (fun h1 => ?_) (fun h1 => ?_)
  · refine s_iload 44 rfl rfl ?_
    exact s_iret 45 rfl (h.1 h1)
  · refine s_iload 9 rfl rfl ?_
    refine s_iload 10 rfl rfl ?_
    refine s_iload 11 rfl rfl ?_
    refine s_binX (v := v0 + v5) 12 rfl (h.2 h1).1 rfl ?_
    refine s_push 13 rfl ?_
    refine s_binX (v := (v0 + v5) - 1) 14 rfl (h.2 h1).2.1 rfl ?_
    refine s_iload 15 rfl rfl ?_
    refine s_idiv 16 rfl (h.2 h1).2.2.1 ?_
    refine s_binX (v := v1 * (((v0 + v5) - 1) / v5)) 17 rfl (h.2 h1).2.2.2.1 rfl ?_
    refine s_iload 18 rfl rfl ?_
    refine s_iload 19 rfl rfl ?_
    refine s_push 20 rfl ?_
    refine s_binX (v := v5 - 1) 21 rfl (h.2 h1).2.2.2.2.1 rfl ?_
    refine s_binX (v := v2 * (v5 - 1)) 22 rfl (h.2 h1).2.2.2.2.2.1 rfl ?_
    refine s_binX (v := (v1 * (((v0 + v5) - 1) / v5)) + (v2 * (v5 - 1))) 23 rfl (h.2 h1).2.2.2.2.2.2.1 rfl ?_
    refine s_nameI (fun x2 ex2 => ?_)
    refine s_istore [aI v0, aI v1, aI v2, aI v3, aI v4, aI v5, aI x2] 24 rfl rfl ?_
    refine s_iload 25 rfl rfl ?_
    refine s_push 26 rfl ?_
    have j8 : ∀ (x5 : Int) (ex5 : x5 = (if v5 = 1 then v5 else if v4 ≤ x2 then v3 else v5)), am_R K12_countsOf q 54 [aI v0, aI v1, aI v2, aI v3, aI v4, aI v5, aI x2] [aI x5] M := by
      intro x5 ex5
      refine s_istore [aI v0, aI v1, aI v2, aI x5, aI v4, aI v5, aI x2] 34 rfl rfl ?_
      refine s_iload 35 rfl rfl ?_
      refine s_iload 36 rfl rfl ?_
      have j9 : ∀ (x7 : Int) (ex7 : x7 = (if x5 = v5 then x2 else v4)), am_R K12_countsOf q 68 [aI v0, aI v1, aI v2, aI x5, aI v4, aI v5, aI x2] [aI x7] M := by
        intro x7 ex7
        refine s_istore [aI v0, aI v1, aI v2, aI x5, aI x7, aI v5, aI x2] 41 rfl rfl ?_
        refine s_iinc [aI v0, aI v1, aI v2, aI x5, aI x7, aI (v5 + 1), aI x2] 42 rfl rfl ((((h.2 h1).2.2.2.2.2.2.2 x2 ex2) x5 ex5) x7 ex7).1 rfl ?_
        refine s_goto 43 rfl ?_
        exact am_R.jk (ls := [aI v0, aI v1, aI v2, aI x5, aI x7, aI (v5 + 1), aJ]) ⟨Or.inr rfl, Or.inr rfl, Or.inr rfl, Or.inr rfl, Or.inr rfl, Or.inr rfl, Or.inl rfl, trivial⟩ ((((h.2 h1).2.2.2.2.2.2.2 x2 ex2) x5 ex5) x7 ex7).2
      refine s_icne 37 rfl (fun h6 => ?_) (fun h6 => ?_)
      · refine s_iload 40 rfl rfl ?_
        exact j9 _ (by rw [if_neg h6])
      · refine s_iload 38 rfl rfl ?_
        refine s_goto 39 rfl ?_
        exact j9 _ (by rw [if_pos h6])
    refine s_ic 27 rfl (fun h3 => ?_) (fun h3 => ?_)
    · refine s_iload 31 rfl rfl ?_
      refine s_goto 32 rfl ?_
      exact j8 _ (by rw [if_pos h3])
    · refine s_iload 28 rfl rfl ?_
      refine s_iload 29 rfl rfl ?_
      refine s_ic 30 rfl (fun h4 => ?_) (fun h4 => ?_)
      · refine s_iload 33 rfl rfl ?_
        exact j8 _ (by rw [if_neg h3, if_pos h4])
      · refine s_iload 31 rfl rfl ?_
        refine s_goto 32 rfl ?_
        exact j8 _ (by rw [if_neg h3, if_neg h4])
theorem e12_counts {q : am_Q} {M : am_M} {v1 : Int} {v2 : Int} {v3 : Int} (h : (¬ (v1 < 1) ∧ ¬ (99 < v1) → ((¬ (v2 < 0) ∧ ¬ (99 < v2) → ((¬ (v3 < 0) ∧ ¬ (99 < v3) → (S12_countsOf [aI v1, aI v2, aI v3] M (fun r5 M4 => ∃ x6 : Int, r5 = aI x6 ∧ (q (aI x6) M4)))) ∧ (¬ (¬ (v3 < 0) ∧ ¬ (99 < v3)) → (q (aI (-2)) M)))) ∧ (¬ (¬ (v2 < 0) ∧ ¬ (99 < v2)) → (q (aI (-2)) M)))) ∧ (¬ (¬ (v1 < 1) ∧ ¬ (99 < v1)) → (q (aI (-2)) M))) : S12_counts [aR 44, aI v1, aI v2, aI v3] M q := by
  refine am_S.intro rfl rfl ?_
  refine s_iload 0 rfl rfl ?_
  refine s_i2l 1 rfl ?_
  refine s_push 2 rfl ?_
  refine s_push 3 rfl ?_
  refine s_call 4 rfl rfl rfl rfl rfl (ct_12_in ?_)
  show am_R K12_counts q 9 [aR 44, aI v1, aI v2, aI v3] [aI (if ¬ (v1 < 1) ∧ ¬ (99 < v1) then 1 else 0)] M
  refine s_ifeqB 5 rfl (fun h1 => ?_) (fun h1 => ?_)
  · refine s_push 23 rfl ?_
    exact s_iret 24 rfl (h.2 h1)
  · refine s_iload 6 rfl rfl ?_
    refine s_i2l 7 rfl ?_
    refine s_push 8 rfl ?_
    refine s_push 9 rfl ?_
    refine s_call 10 rfl rfl rfl rfl rfl (ct_12_in ?_)
    show am_R K12_counts q 21 [aR 44, aI v1, aI v2, aI v3] [aI (if ¬ (v2 < 0) ∧ ¬ (99 < v2) then 1 else 0)] M
    refine s_ifeqB 11 rfl (fun h2 => ?_) (fun h2 => ?_)
    · refine s_push 23 rfl ?_
      exact s_iret 24 rfl ((h.1 h1).2 h2)
    · refine s_iload 12 rfl rfl ?_
      refine s_i2l 13 rfl ?_
      refine s_push 14 rfl ?_
      refine s_push 15 rfl ?_
      refine s_call 16 rfl rfl rfl rfl rfl (ct_12_in ?_)
      show am_R K12_counts q 33 [aR 44, aI v1, aI v2, aI v3] [aI (if ¬ (v3 < 0) ∧ ¬ (99 < v3) then 1 else 0)] M
      refine s_ifeqB 17 rfl (fun h3 => ?_) (fun h3 => ?_)
      · refine s_push 23 rfl ?_
        exact s_iret 24 rfl (((h.1 h1).1 h2).2 h3)
      · refine s_iload 18 rfl rfl ?_
        refine s_iload 19 rfl rfl ?_
        refine s_iload 20 rfl rfl ?_
        refine s_call 21 rfl rfl rfl rfl rfl (am_S.mono (((h.1 h1).1 h2).1 h3) ?_)
        rintro r5 M4 ⟨x6, rfl, g7⟩
        show am_R K12_counts q 42 [aR 44, aI v1, aI v2, aI v3] [aI x6] M4
        refine s_goto 22 rfl ?_
        exact s_iret 24 rfl g7
theorem e12_dense {q : am_Q} {M : am_M} {v1 : Int} (h : S12_reads [aR 44] M (fun _ M1 => ((¬ (v1 < 0) ∧ ¬ (63 < v1)) ∧ ¬ ((M1 51) (v1.toNat) = 99) → (0 ≤ v1 ∧ v1 < 64)) ∧ (∀ x6 : Int, x6 = (if (¬ (v1 < 0) ∧ ¬ (63 < v1)) ∧ ¬ ((M1 51) (v1.toNat) = 99) then M1 51 (v1.toNat) else (-2)) → (q (aI x6) M1)))) : S12_dense [aR 44, aI v1] M q := by
  refine am_S.intro rfl rfl ?_
  refine s_aload 0 rfl rfl ?_
  refine s_callv (o := 44) 1 rfl rfl rfl rfl rfl (am_S.mono h ?_)
  intro r2 M1 g4
  show am_R K12_dense q 4 [aR 44, aI v1] [] M1
  refine s_aload 2 rfl rfl ?_
  refine s_iload 3 rfl rfl ?_
  refine s_callv (o := 44) 4 rfl rfl rfl rfl rfl (ct_12_isPlace ?_)
  show am_R K12_dense q 9 [aR 44, aI v1] [aI (if (¬ (v1 < 0) ∧ ¬ (63 < v1)) ∧ ¬ ((M1 51) (v1.toNat) = 99) then 1 else 0)] M1
  have j7 : ∀ (x6 : Int) (ex6 : x6 = (if (¬ (v1 < 0) ∧ ¬ (63 < v1)) ∧ ¬ ((M1 51) (v1.toNat) = 99) then M1 51 (v1.toNat) else (-2))), am_R K12_dense q 23 [aR 44, aI v1] [aI x6] M1 := by
    intro x6 ex6
    exact s_iret 12 rfl (g4.2 x6 ex6)
  refine s_ifeqB 5 rfl (fun h5 => ?_) (fun h5 => ?_)
  · refine s_push 11 rfl ?_
    exact j7 _ (by rw [if_neg h5])
  · refine s_aload 6 rfl rfl ?_
    refine s_getR 51 7 rfl rfl ?_
    refine s_iload 8 rfl rfl ?_
    refine s_iald (v := M1 51 (v1.toNat)) 9 rfl rfl (g4.1 h5) rfl ?_
    refine s_goto 10 rfl ?_
    exact j7 _ (by rw [if_pos h5])
theorem e12_fault {q : am_Q} {M : am_M} {v1 : Int} (h : (¬ (v1 < 0) ∧ ¬ (2 < v1) → ((v1 = 0 → (S12_readsFair [aR 44] M (fun r13 M12 => ∃ x14 : Int, r13 = aI x14 ∧ (q (aI x14) M12)))) ∧ (¬ (v1 = 0) → ((v1 = 1 → (S12_readsOrder [aR 44] M (fun r9 M8 => ∃ x10 : Int, r9 = aI x10 ∧ (q (aI x10) M8)))) ∧ (¬ (v1 = 1) → (S12_readsWay [aR 44] M (fun r5 M4 => ∃ x6 : Int, r5 = aI x6 ∧ (q (aI x6) M4)))))))) ∧ (¬ (¬ (v1 < 0) ∧ ¬ (2 < v1)) → (q (aI (-2)) M))) : S12_fault [aR 44, aI v1] M q := by
  refine am_S.intro rfl rfl ?_
  refine s_iload 0 rfl rfl ?_
  refine s_i2l 1 rfl ?_
  refine s_push 2 rfl ?_
  refine s_push 3 rfl ?_
  refine s_call 4 rfl rfl rfl rfl rfl (ct_12_in ?_)
  show am_R K12_fault q 9 [aR 44, aI v1] [aI (if ¬ (v1 < 0) ∧ ¬ (2 < v1) then 1 else 0)] M
  refine s_ifneB 5 rfl (fun h1 => ?_) (fun h1 => ?_)
  · refine s_iload 8 rfl rfl ?_
    refine s_ifne 9 rfl (fun h2 => ?_) (fun h2 => ?_)
    · refine s_iload 13 rfl rfl ?_
      refine s_push 14 rfl ?_
      refine s_icne 15 rfl (fun h3 => ?_) (fun h3 => ?_)
      · refine s_aload 19 rfl rfl ?_
        refine s_callv (o := 44) 20 rfl rfl rfl rfl rfl (am_S.mono (((h.1 h1).2 h2).2 h3) ?_)
        rintro r5 M4 ⟨x6, rfl, g7⟩
        show am_R K12_fault q 44 [aR 44, aI v1] [aI x6] M4
        exact s_iret 21 rfl g7
      · refine s_aload 16 rfl rfl ?_
        refine s_callv (o := 44) 17 rfl rfl rfl rfl rfl (am_S.mono (((h.1 h1).2 h2).1 h3) ?_)
        rintro r9 M8 ⟨x10, rfl, g11⟩
        show am_R K12_fault q 37 [aR 44, aI v1] [aI x10] M8
        refine s_goto 18 rfl ?_
        exact s_iret 21 rfl g11
    · refine s_aload 10 rfl rfl ?_
      refine s_callv (o := 44) 11 rfl rfl rfl rfl rfl (am_S.mono ((h.1 h1).1 h2) ?_)
      rintro r13 M12 ⟨x14, rfl, g15⟩
      show am_R K12_fault q 25 [aR 44, aI v1] [aI x14] M12
      refine s_goto 12 rfl ?_
      exact s_iret 21 rfl g15
  · refine s_push 6 rfl ?_
    refine s_goto 7 rfl ?_
    exact s_iret 21 rfl (h.2 h1)
theorem e12_judged {q : am_Q} {M : am_M}  (h : S12_reads [aR 44] M (fun _ M1 => ∀ x6 : Int, x6 = (if M1 44 17 = M1 44 11 then (-1) else M1 44 17) → (q (aI x6) M1))) : S12_judged [aR 44] M q := by
  refine am_S.intro rfl rfl ?_
  refine s_aload 0 rfl rfl ?_
  refine s_callv (o := 44) 1 rfl rfl rfl rfl rfl (am_S.mono h ?_)
  intro r2 M1 g4
  show am_R K12_judged q 4 [aR 44] [] M1
  refine s_aload 2 rfl rfl ?_
  refine s_getI (v := M1 44 17) 3 rfl rfl rfl ?_
  refine s_aload 4 rfl rfl ?_
  refine s_getI (v := M1 44 11) 5 rfl rfl rfl ?_
  have j7 : ∀ (x6 : Int) (ex6 : x6 = (if M1 44 17 = M1 44 11 then (-1) else M1 44 17)), am_R K12_judged q 23 [aR 44] [aI x6] M1 := by
    intro x6 ex6
    exact s_iret 11 rfl (g4 x6 ex6)
  refine s_icne 6 rfl (fun h5 => ?_) (fun h5 => ?_)
  · refine s_aload 9 rfl rfl ?_
    refine s_getI (v := M1 44 17) 10 rfl rfl rfl ?_
    exact j7 _ (by rw [if_neg h5])
  · refine s_push 7 rfl ?_
    refine s_goto 8 rfl ?_
    exact j7 _ (by rw [if_pos h5])
theorem e12_looseNow {q : am_Q} {M : am_M}  (h : am_R K12_looseNow q 4 [aR 44, aI 0, aI 0] [] M) : S12_looseNow [aR 44] M q := by
  refine am_S.intro rfl rfl ?_
  refine s_push 0 rfl ?_
  refine s_istore [aR 44, aI 0, aJ] 1 rfl rfl ?_
  refine s_push 2 rfl ?_
  refine s_istore [aR 44, aI 0, aI 0] 3 rfl rfl ?_
  exact h
theorem g12_looseNow_4 {q : am_Q} {M : am_M} {v1 v2 : Int} (h : (-2147483648 ≤ v2 + 1 ∧ v2 + 1 < 2147483648) ∧ ((M 44 9 ≤ v2 + 1 → (q (aI v1) M)) ∧ (¬ (M 44 9 ≤ v2 + 1) → ((ob_12_gripAt (M 55) (M 52) v2) ∧ ((-2147483648 ≤ 16 - (f_12_gripAt (M 55) (M 52) v2) ∧ 16 - (f_12_gripAt (M 55) (M 52) v2) < 2147483648) ∧ ((-2147483648 ≤ v1 + (16 - (f_12_gripAt (M 55) (M 52) v2)) ∧ v1 + (16 - (f_12_gripAt (M 55) (M 52) v2)) < 2147483648) ∧ (∀ x2 : Int, x2 = v1 + (16 - (f_12_gripAt (M 55) (M 52) v2)) → (am_R K12_looseNow q 4 [aR 44, aI x2, aI (v2 + 1)] [] M)))))))) : am_R K12_looseNow q 4 [aR 44, aI v1, aI v2] [] M := by
  refine s_iload 4 rfl rfl ?_
  refine s_push 5 rfl ?_
  refine s_binX (v := v2 + 1) 6 rfl h.1 rfl ?_
  refine s_aload 7 rfl rfl ?_
  refine s_getI (v := M 44 9) 8 rfl rfl rfl ?_
  refine s_ic 9 rfl (fun h1 => ?_) (fun h1 => ?_)
  · refine s_iload 20 rfl rfl ?_
    exact s_iret 21 rfl (h.2.1 h1)
  · refine s_iload 10 rfl rfl ?_
    refine s_push 11 rfl ?_
    refine s_aload 12 rfl rfl ?_
    refine s_iload 13 rfl rfl ?_
    refine s_callv (o := 44) 14 rfl rfl rfl rfl rfl (ct_12_gripAt (h.2.2 h1).1 ?_)
    show am_R K12_looseNow q 22 [aR 44, aI v1, aI v2] [aI (f_12_gripAt (M 55) (M 52) v2), aI 16, aI v1] M
    refine s_binX (v := 16 - (f_12_gripAt (M 55) (M 52) v2)) 15 rfl (h.2.2 h1).2.1 rfl ?_
    refine s_binX (v := v1 + (16 - (f_12_gripAt (M 55) (M 52) v2))) 16 rfl (h.2.2 h1).2.2.1 rfl ?_
    refine s_nameI (fun x2 ex2 => ?_)
    refine s_istore [aR 44, aI x2, aI v2] 17 rfl rfl ?_
    refine s_iinc [aR 44, aI x2, aI (v2 + 1)] 18 rfl rfl h.1 rfl ?_
    refine s_goto 19 rfl ?_
    exact ((h.2.2 h1).2.2.2 x2 ex2)
theorem e12_riskNow {q : am_Q} {M : am_M}  (h : am_R K12_riskNow q 4 [aR 44, aI 0, aI 1] [] M) : S12_riskNow [aR 44] M q := by
  refine am_S.intro rfl rfl ?_
  refine s_push 0 rfl ?_
  refine s_istore [aR 44, aI 0, aJ] 1 rfl rfl ?_
  refine s_push 2 rfl ?_
  refine s_istore [aR 44, aI 0, aI 1] 3 rfl rfl ?_
  exact h
theorem g12_riskNow_4 {q : am_Q} {M : am_M} {v1 v2 : Int} (h : (M 44 17 < v2 → (S12_looseNow [aR 44] M (fun r3 M2 => ∃ x4 : Int, r3 = aI x4 ∧ ((-2147483648 ≤ v1 * x4 ∧ v1 * x4 < 2147483648) ∧ (q (aI (v1 * x4)) M2))))) ∧ (¬ (M 44 17 < v2) → ((0 ≤ v2 ∧ v2 < 41) ∧ ((0 ≤ M 58 (v2.toNat) ∧ M 58 (v2.toNat) < 64) ∧ ((-2147483648 ≤ v1 + (M 51 ((M 58 (v2.toNat)).toNat)) ∧ v1 + (M 51 ((M 58 (v2.toNat)).toNat)) < 2147483648) ∧ (∀ x6 : Int, x6 = v1 + (M 51 ((M 58 (v2.toNat)).toNat)) → ((-2147483648 ≤ v2 + 1 ∧ v2 + 1 < 2147483648) ∧ (am_R K12_riskNow q 4 [aR 44, aI x6, aI (v2 + 1)] [] M)))))))) : am_R K12_riskNow q 4 [aR 44, aI v1, aI v2] [] M := by
  refine s_iload 4 rfl rfl ?_
  refine s_aload 5 rfl rfl ?_
  refine s_getI (v := M 44 17) 6 rfl rfl rfl ?_
  refine s_ic 7 rfl (fun h1 => ?_) (fun h1 => ?_)
  · refine s_iload 20 rfl rfl ?_
    refine s_aload 21 rfl rfl ?_
    refine s_callv (o := 44) 22 rfl rfl rfl rfl rfl (am_S.mono (h.1 h1) ?_)
    rintro r3 M2 ⟨x4, rfl, g5⟩
    show am_R K12_riskNow q 37 [aR 44, aI v1, aI v2] [aI x4, aI v1] M2
    refine s_binX (v := v1 * x4) 23 rfl g5.1 rfl ?_
    exact s_iret 24 rfl g5.2
  · refine s_iload 8 rfl rfl ?_
    refine s_aload 9 rfl rfl ?_
    refine s_getR 51 10 rfl rfl ?_
    refine s_aload 11 rfl rfl ?_
    refine s_getR 58 12 rfl rfl ?_
    refine s_iload 13 rfl rfl ?_
    refine s_iald (v := M 58 (v2.toNat)) 14 rfl rfl (h.2 h1).1 rfl ?_
    refine s_iald (v := M 51 ((M 58 (v2.toNat)).toNat)) 15 rfl rfl (h.2 h1).2.1 rfl ?_
    refine s_binX (v := v1 + (M 51 ((M 58 (v2.toNat)).toNat))) 16 rfl (h.2 h1).2.2.1 rfl ?_
    refine s_nameI (fun x6 ex6 => ?_)
    refine s_istore [aR 44, aI x6, aI v2] 17 rfl rfl ?_
    refine s_iinc [aR 44, aI x6, aI (v2 + 1)] 18 rfl rfl ((h.2 h1).2.2.2 x6 ex6).1 rfl ?_
    refine s_goto 19 rfl ?_
    exact ((h.2 h1).2.2.2 x6 ex6).2
theorem e12_findFar {q : am_Q} {M : am_M} {v1 : Int} {v2 : Int} (h : am_R K12_findFar q 2 [aR 44, aI v1, aI v2, aI 0, aJ, aJ, aJ, aJ] [] M) : S12_findFar [aR 44, aI v1, aI v2] M q := by
  refine am_S.intro rfl rfl ?_
  refine s_push 0 rfl ?_
  refine s_istore [aR 44, aI v1, aI v2, aI 0, aJ, aJ, aJ, aJ] 1 rfl rfl ?_
  exact h
theorem g12_findFar_2 {q : am_Q} {M : am_M} {v1 v2 v3 : Int} (h : (64 ≤ v3 → (am_R K12_findFar q 33 [aR 44, aJ, aI v2, aI 1, aJ, aJ, aJ, aJ] [] M)) ∧ (¬ (64 ≤ v3) → (∀ x3 : Int, x3 = (if v3 = v1 then 0 else 1000000) → ((0 ≤ v3 ∧ v3 < 64) ∧ ((-2147483648 ≤ v3 + 1 ∧ v3 + 1 < 2147483648) ∧ (am_R K12_findFar q 2 [aR 44, aI v1, aI v2, aI (v3 + 1), aJ, aJ, aJ, aJ] [] (am_up M 59 (v3.toNat) x3))))))) : am_R K12_findFar q 2 [aR 44, aI v1, aI v2, aI v3, aJ, aJ, aJ, aJ] [] M := by
  refine s_iload 2 rfl rfl ?_
  refine s_push 3 rfl ?_
  refine s_ic 4 rfl (fun h1 => ?_) (fun h1 => ?_)
  · refine s_push 17 rfl ?_
    refine s_istore [aR 44, aI v1, aI v2, aI 1, aJ, aJ, aJ, aJ] 18 rfl rfl ?_
    exact am_R.jk (ls := [aR 44, aJ, aI v2, aI 1, aJ, aJ, aJ, aJ]) ⟨Or.inr rfl, Or.inl rfl, Or.inr rfl, Or.inr rfl, Or.inr rfl, Or.inr rfl, Or.inr rfl, Or.inr rfl, trivial⟩ (h.1 h1)
  · refine s_aload 5 rfl rfl ?_
    refine s_getR 59 6 rfl rfl ?_
    refine s_iload 7 rfl rfl ?_
    refine s_iload 8 rfl rfl ?_
    refine s_iload 9 rfl rfl ?_
    have j4 : ∀ (x3 : Int) (ex3 : x3 = (if v3 = v1 then 0 else 1000000)), am_R K12_findFar q 24 [aR 44, aI v1, aI v2, aI v3, aJ, aJ, aJ, aJ] [aI x3, aI v3, aR 59] M := by
      intro x3 ex3
      refine s_iast 14 rfl rfl ((h.2 h1) x3 ex3).1 ?_
      refine s_iinc [aR 44, aI v1, aI v2, aI (v3 + 1), aJ, aJ, aJ, aJ] 15 rfl rfl ((h.2 h1) x3 ex3).2.1 rfl ?_
      refine s_goto 16 rfl ?_
      exact ((h.2 h1) x3 ex3).2.2
    refine s_icne 10 rfl (fun h2 => ?_) (fun h2 => ?_)
    · refine s_push 13 rfl ?_
      exact j4 _ (by rw [if_neg h2])
    · refine s_push 11 rfl ?_
      refine s_goto 12 rfl ?_
      exact j4 _ (by rw [if_pos h2])
theorem g12_findFar_33 {q : am_Q} {M : am_M} {v2 v3 : Int} (h : (v3 = 0 → (q aJ M)) ∧ (¬ (v3 = 0) → (am_R K12_findFar q 42 [aR 44, aJ, aI v2, aI 0, aI 0, aJ, aJ, aJ] [] M))) : am_R K12_findFar q 33 [aR 44, aJ, aI v2, aI v3, aJ, aJ, aJ, aJ] [] M := by
  refine s_iload 19 rfl rfl ?_
  refine s_if 20 rfl (fun h1 => ?_) (fun h1 => ?_)
  · exact s_vret 96 rfl (h.1 h1)
  · refine s_push 21 rfl ?_
    refine s_istore [aR 44, aJ, aI v2, aI 0, aJ, aJ, aJ, aJ] 22 rfl rfl ?_
    refine s_push 23 rfl ?_
    refine s_istore [aR 44, aJ, aI v2, aI 0, aI 0, aJ, aJ, aJ] 24 rfl rfl ?_
    exact (h.2 h1)
theorem g12_findFar_42 {q : am_Q} {M : am_M} {v2 v3 v4 : Int} (h : (64 ≤ v4 → (am_R K12_findFar q 33 [aR 44, aJ, aI v2, aI v3, aJ, aJ, aJ, aJ] [] M)) ∧ (¬ (64 ≤ v4) → (am_R K12_findFar q 52 [aR 44, aJ, aI v2, aI v3, aI v4, aI 0, aJ, aJ] [] M))) : am_R K12_findFar q 42 [aR 44, aJ, aI v2, aI v3, aI v4, aJ, aJ, aJ] [] M := by
  refine s_iload 25 rfl rfl ?_
  refine s_push 26 rfl ?_
  refine s_ic 27 rfl (fun h1 => ?_) (fun h1 => ?_)
  · refine s_goto 95 rfl ?_
    exact am_R.jk (ls := [aR 44, aJ, aI v2, aI v3, aJ, aJ, aJ, aJ]) ⟨Or.inr rfl, Or.inr rfl, Or.inr rfl, Or.inr rfl, Or.inl rfl, Or.inr rfl, Or.inr rfl, Or.inr rfl, trivial⟩ (h.1 h1)
  · refine s_push 28 rfl ?_
    refine s_istore [aR 44, aJ, aI v2, aI v3, aI v4, aI 0, aJ, aJ] 29 rfl rfl ?_
    exact (h.2 h1)
theorem g12_findFar_52 {q : am_Q} {M : am_M} {v2 v3 v4 v5 : Int} (h : (4 ≤ v5 → ((-2147483648 ≤ v4 + 1 ∧ v4 + 1 < 2147483648) ∧ (am_R K12_findFar q 42 [aR 44, aJ, aI v2, aI v3, aI (v4 + 1), aJ, aJ, aJ] [] M))) ∧ (¬ (4 ≤ v5) → ((0 ≤ v4 ∧ v4 < 64) ∧ ((M 51 (v4.toNat) = 99 → ((-2147483648 ≤ v4 + 1 ∧ v4 + 1 < 2147483648) ∧ (am_R K12_findFar q 42 [aR 44, aJ, aI v2, aI v3, aI (v4 + 1), aJ, aJ, aJ] [] M))) ∧ (¬ (M 51 (v4.toNat) = 99) → ((ob_12_beside (M 51) v4 v5) ∧ (∀ x3 : Int, x3 = f_12_beside (M 51) v4 v5 → ((¬ (x3 = (-1)) → ((0 ≤ x3 ∧ x3 < 64) ∧ ((-2147483648 ≤ v2 * (M 51 (x3.toNat)) ∧ v2 * (M 51 (x3.toNat)) < 2147483648) ∧ ((-2147483648 ≤ (M 59 (x3.toNat)) + (v2 * (M 51 (x3.toNat))) ∧ (M 59 (x3.toNat)) + (v2 * (M 51 (x3.toNat))) < 2147483648) ∧ (-2147483648 ≤ ((M 59 (x3.toNat)) + (v2 * (M 51 (x3.toNat)))) + 1 ∧ ((M 59 (x3.toNat)) + (v2 * (M 51 (x3.toNat)))) + 1 < 2147483648))))) ∧ (∀ x5 : Int, x5 = (if x3 = (-1) then 1000000 else ((M 59 (x3.toNat)) + (v2 * (M 51 (x3.toNat)))) + 1) → (∀ x8 : Int, x8 = (if ¬ (v3 = 0) ∨ ¬ (M 59 (v4.toNat) ≤ x5) then 1 else 0) → (∀ x10 : Int, x10 = (if M 59 (v4.toNat) ≤ x5 then M 59 (v4.toNat) else x5) → ((-2147483648 ≤ v5 + 1 ∧ v5 + 1 < 2147483648) ∧ (am_R K12_findFar q 52 [aR 44, aJ, aI v2, aI x8, aI v4, aI (v5 + 1), aJ, aJ] [] (am_up M 59 (v4.toNat) x10)))))))))))))) : am_R K12_findFar q 52 [aR 44, aJ, aI v2, aI v3, aI v4, aI v5, aJ, aJ] [] M := by
  refine s_iload 30 rfl rfl ?_
  refine s_push 31 rfl ?_
  refine s_ic 32 rfl (fun h1 => ?_) (fun h1 => ?_)
  · refine s_iinc [aR 44, aJ, aI v2, aI v3, aI (v4 + 1), aI v5, aJ, aJ] 93 rfl rfl (h.1 h1).1 rfl ?_
    refine s_goto 94 rfl ?_
    exact am_R.jk (ls := [aR 44, aJ, aI v2, aI v3, aI (v4 + 1), aJ, aJ, aJ]) ⟨Or.inr rfl, Or.inr rfl, Or.inr rfl, Or.inr rfl, Or.inr rfl, Or.inl rfl, Or.inr rfl, Or.inr rfl, trivial⟩ (h.1 h1).2
  · refine s_aload 33 rfl rfl ?_
    refine s_getR 51 34 rfl rfl ?_
    refine s_iload 35 rfl rfl ?_
    refine s_iald (v := M 51 (v4.toNat)) 36 rfl rfl (h.2 h1).1 rfl ?_
    refine s_push 37 rfl ?_
    refine s_ic 38 rfl (fun h2 => ?_) (fun h2 => ?_)
    · refine s_iinc [aR 44, aJ, aI v2, aI v3, aI (v4 + 1), aI v5, aJ, aJ] 93 rfl rfl ((h.2 h1).2.1 h2).1 rfl ?_
      refine s_goto 94 rfl ?_
      exact am_R.jk (ls := [aR 44, aJ, aI v2, aI v3, aI (v4 + 1), aJ, aJ, aJ]) ⟨Or.inr rfl, Or.inr rfl, Or.inr rfl, Or.inr rfl, Or.inr rfl, Or.inl rfl, Or.inr rfl, Or.inr rfl, trivial⟩ ((h.2 h1).2.1 h2).2
    · refine s_aload 39 rfl rfl ?_
      refine s_iload 40 rfl rfl ?_
      refine s_iload 41 rfl rfl ?_
      refine s_callv (o := 44) 42 rfl rfl rfl rfl rfl (ct_12_beside ((h.2 h1).2.2 h2).1 ?_)
      show am_R K12_findFar q 78 [aR 44, aJ, aI v2, aI v3, aI v4, aI v5, aJ, aJ] [aI (f_12_beside (M 51) v4 v5)] M
      refine s_nameI (fun x3 ex3 => ?_)
      refine s_istore [aR 44, aJ, aI v2, aI v3, aI v4, aI v5, aI x3, aJ] 43 rfl rfl ?_
      refine s_iload 44 rfl rfl ?_
      refine s_push 45 rfl ?_
      have j11 : ∀ (x5 : Int) (ex5 : x5 = (if x3 = (-1) then 1000000 else ((M 59 (x3.toNat)) + (v2 * (M 51 (x3.toNat)))) + 1)), am_R K12_findFar q 110 [aR 44, aJ, aI v2, aI v3, aI v4, aI v5, aI x3, aJ] [aI x5] M := by
        intro x5 ex5
        refine s_istore [aR 44, aJ, aI v2, aI v3, aI v4, aI v5, aI x3, aI x5] 62 rfl rfl ?_
        refine s_iload 63 rfl rfl ?_
        have j12 : ∀ (x8 : Int) (ex8 : x8 = (if ¬ (v3 = 0) ∨ ¬ (M 59 (v4.toNat) ≤ x5) then 1 else 0)), am_R K12_findFar q 133 [aR 44, aJ, aI v2, aI v3, aI v4, aI v5, aI x3, aI x5] [aI x8] M := by
          intro x8 ex8
          refine s_istore [aR 44, aJ, aI v2, aI x8, aI v4, aI v5, aI x3, aI x5] 74 rfl rfl ?_
          refine s_aload 75 rfl rfl ?_
          refine s_getR 59 76 rfl rfl ?_
          refine s_iload 77 rfl rfl ?_
          refine s_iload 78 rfl rfl ?_
          refine s_aload 79 rfl rfl ?_
          refine s_getR 59 80 rfl rfl ?_
          refine s_iload 81 rfl rfl ?_
          refine s_iald (v := M 59 (v4.toNat)) 82 rfl rfl (h.2 h1).1 rfl ?_
          have j13 : ∀ (x10 : Int) (ex10 : x10 = (if M 59 (v4.toNat) ≤ x5 then M 59 (v4.toNat) else x5)), am_R K12_findFar q 164 [aR 44, aJ, aI v2, aI x8, aI v4, aI v5, aI x3, aI x5] [aI x10, aI v4, aR 59] M := by
            intro x10 ex10
            refine s_iast 90 rfl rfl (h.2 h1).1 ?_
            refine s_iinc [aR 44, aJ, aI v2, aI x8, aI v4, aI (v5 + 1), aI x3, aI x5] 91 rfl rfl ((((((h.2 h1).2.2 h2).2 x3 ex3).2 x5 ex5) x8 ex8) x10 ex10).1 rfl ?_
            refine s_goto 92 rfl ?_
            exact am_R.jk (ls := [aR 44, aJ, aI v2, aI x8, aI v4, aI (v5 + 1), aJ, aJ]) ⟨Or.inr rfl, Or.inr rfl, Or.inr rfl, Or.inr rfl, Or.inr rfl, Or.inr rfl, Or.inl rfl, Or.inl rfl, trivial⟩ ((((((h.2 h1).2.2 h2).2 x3 ex3).2 x5 ex5) x8 ex8) x10 ex10).2
          refine s_ic 83 rfl (fun h9 => ?_) (fun h9 => ?_)
          · refine s_aload 86 rfl rfl ?_
            refine s_getR 59 87 rfl rfl ?_
            refine s_iload 88 rfl rfl ?_
            refine s_iald (v := M 59 (v4.toNat)) 89 rfl rfl (h.2 h1).1 rfl ?_
            exact j13 _ (by rw [if_pos h9])
          · refine s_iload 84 rfl rfl ?_
            refine s_goto 85 rfl ?_
            exact j13 _ (by rw [if_neg h9])
        refine s_ifne 64 rfl (fun h6 => ?_) (fun h6 => ?_)
        · refine s_push 71 rfl ?_
          refine s_goto 72 rfl ?_
          exact j12 _ (if_pos (by omega)).symm
        · refine s_iload 65 rfl rfl ?_
          refine s_aload 66 rfl rfl ?_
          refine s_getR 59 67 rfl rfl ?_
          refine s_iload 68 rfl rfl ?_
          refine s_iald (v := M 59 (v4.toNat)) 69 rfl rfl (h.2 h1).1 rfl ?_
          refine s_ic 70 rfl (fun h7 => ?_) (fun h7 => ?_)
          · refine s_push 73 rfl ?_
            exact j12 _ (if_neg (by omega)).symm
          · refine s_push 71 rfl ?_
            refine s_goto 72 rfl ?_
            exact j12 _ (if_pos (by omega)).symm
      refine s_icne 46 rfl (fun h4 => ?_) (fun h4 => ?_)
      · refine s_aload 49 rfl rfl ?_
        refine s_getR 59 50 rfl rfl ?_
        refine s_iload 51 rfl rfl ?_
        refine s_iald (v := M 59 (x3.toNat)) 52 rfl rfl ((((h.2 h1).2.2 h2).2 x3 ex3).1 h4).1 rfl ?_
        refine s_iload 53 rfl rfl ?_
        refine s_aload 54 rfl rfl ?_
        refine s_getR 51 55 rfl rfl ?_
        refine s_iload 56 rfl rfl ?_
        refine s_iald (v := M 51 (x3.toNat)) 57 rfl rfl ((((h.2 h1).2.2 h2).2 x3 ex3).1 h4).1 rfl ?_
        refine s_binX (v := v2 * (M 51 (x3.toNat))) 58 rfl ((((h.2 h1).2.2 h2).2 x3 ex3).1 h4).2.1 rfl ?_
        refine s_binX (v := (M 59 (x3.toNat)) + (v2 * (M 51 (x3.toNat)))) 59 rfl ((((h.2 h1).2.2 h2).2 x3 ex3).1 h4).2.2.1 rfl ?_
        refine s_push 60 rfl ?_
        refine s_binX (v := ((M 59 (x3.toNat)) + (v2 * (M 51 (x3.toNat)))) + 1) 61 rfl ((((h.2 h1).2.2 h2).2 x3 ex3).1 h4).2.2.2 rfl ?_
        exact j11 _ (by rw [if_neg h4])
      · refine s_push 47 rfl ?_
        refine s_goto 48 rfl ?_
        exact j11 _ (by rw [if_pos h4])
theorem e12_findWays {q : am_Q} {M : am_M} {v1 : Int} (h : (¬ (M 44 28 ≤ 0) → (0 ≤ v1 ∧ v1 < 5)) ∧ (∀ x3 : Int, x3 = (if ¬ (M 44 28 ≤ 0) ∧ ((¬ ((M 57 (v1.toNat)) < 0) ∧ ¬ (63 < (M 57 (v1.toNat)))) ∧ ¬ ((M 51) ((M 57 (v1.toNat)).toNat) = 99)) then 1 else 0) → (am_R K12_findWays q 28 [aR 44, aI v1, aI x3, aI 0, aJ] [] M))) : S12_findWays [aR 44, aI v1] M q := by
  refine am_S.intro rfl rfl ?_
  refine s_aload 0 rfl rfl ?_
  refine s_getI (v := M 44 28) 1 rfl rfl rfl ?_
  have j4 : ∀ (x3 : Int) (ex3 : x3 = (if ¬ (M 44 28 ≤ 0) ∧ ((¬ ((M 57 (v1.toNat)) < 0) ∧ ¬ (63 < (M 57 (v1.toNat)))) ∧ ¬ ((M 51) ((M 57 (v1.toNat)).toNat) = 99)) then 1 else 0)), am_R K12_findWays q 25 [aR 44, aI v1, aJ, aJ, aJ] [aI x3] M := by
    intro x3 ex3
    refine s_istore [aR 44, aI v1, aI x3, aJ, aJ] 13 rfl rfl ?_
    refine s_push 14 rfl ?_
    refine s_istore [aR 44, aI v1, aI x3, aI 0, aJ] 15 rfl rfl ?_
    exact (h.2 x3 ex3)
  refine s_if 2 rfl (fun h1 => ?_) (fun h1 => ?_)
  · refine s_push 12 rfl ?_
    exact j4 _ (if_neg (by omega)).symm
  · refine s_aload 3 rfl rfl ?_
    refine s_aload 4 rfl rfl ?_
    refine s_getR 57 5 rfl rfl ?_
    refine s_iload 6 rfl rfl ?_
    refine s_iald (v := M 57 (v1.toNat)) 7 rfl rfl (h.1 h1) rfl ?_
    refine s_callv (o := 44) 8 rfl rfl rfl rfl rfl (ct_12_isPlace ?_)
    show am_R K12_findWays q 17 [aR 44, aI v1, aJ, aJ, aJ] [aI (if (¬ ((M 57 (v1.toNat)) < 0) ∧ ¬ (63 < (M 57 (v1.toNat)))) ∧ ¬ ((M 51) ((M 57 (v1.toNat)).toNat) = 99) then 1 else 0)] M
    refine s_ifeqB 9 rfl (fun h2 => ?_) (fun h2 => ?_)
    · refine s_push 12 rfl ?_
      exact j4 _ (if_neg (by omega)).symm
    · refine s_push 10 rfl ?_
      refine s_goto 11 rfl ?_
      exact j4 _ (if_pos (by omega)).symm
theorem g12_findWays_28 {q : am_Q} {M : am_M} {v1 v2 v3 : Int} (h : (M 44 28 ≤ v3 → ((v2 = 0 ∨ v2 = 1) ∧ q (aI v2) M)) ∧ (¬ (M 44 28 ≤ v3) → ((v2 = 0 → ((v2 = 0 ∨ v2 = 1) ∧ q (aI v2) M)) ∧ (¬ (v2 = 0) → ((-2147483648 ≤ 2 * v3 ∧ 2 * v3 < 2147483648) ∧ ((0 ≤ 2 * v3 ∧ 2 * v3 < 10) ∧ (∀ x3 : Int, x3 = (if (¬ ((M 64 ((2 * v3).toNat)) < 0) ∧ ¬ (63 < (M 64 ((2 * v3).toNat)))) ∧ ¬ ((M 51) ((M 64 ((2 * v3).toNat)).toNat) = 99) then 1 else 0) → (((¬ ((M 64 ((2 * v3).toNat)) < 0) ∧ ¬ (63 < (M 64 ((2 * v3).toNat)))) ∧ ¬ ((M 51) ((M 64 ((2 * v3).toNat)).toNat) = 99) → (S12_findFar [aR 44, aI (M 64 ((2 * v3).toNat)), aI 0] M (fun _ M5 => (-2147483648 ≤ 25 + v3 ∧ 25 + v3 < 2147483648) ∧ ((0 ≤ v1 ∧ v1 < 5) ∧ ((0 ≤ M5 57 (v1.toNat) ∧ M5 57 (v1.toNat) < 64) ∧ (∀ x9 : Int, x9 = M5 59 ((M5 57 (v1.toNat)).toNat) → ((0 ≤ 25 + v3 ∧ 25 + v3 < 30) ∧ (∀ x11 : Int, x11 = (if ¬ (1000000 ≤ x9) then 1 else 0) → (am_R K12_findWays q 113 [aR 44, aI v1, aI x11, aI v3, aI 0] [] (am_up M5 65 ((25 + v3).toNat) x9)))))))))) ∧ (¬ ((¬ ((M 64 ((2 * v3).toNat)) < 0) ∧ ¬ (63 < (M 64 ((2 * v3).toNat)))) ∧ ¬ ((M 51) ((M 64 ((2 * v3).toNat)).toNat) = 99)) → ((-2147483648 ≤ v3 + 1 ∧ v3 + 1 < 2147483648) ∧ (am_R K12_findWays q 28 [aR 44, aI v1, aI x3, aI (v3 + 1), aJ] [] M))))))))))) : am_R K12_findWays q 28 [aR 44, aI v1, aI v2, aI v3, aJ] [] M := by
  refine s_iload 16 rfl rfl ?_
  refine s_aload 17 rfl rfl ?_
  refine s_getI (v := M 44 28) 18 rfl rfl rfl ?_
  refine s_ic 19 rfl (fun h1 => ?_) (fun h1 => ?_)
  · refine s_iload 109 rfl rfl ?_
    exact s_zret 110 rfl (h.1 h1).1 (h.1 h1).2
  · refine s_iload 20 rfl rfl ?_
    refine s_if 21 rfl (fun h2 => ?_) (fun h2 => ?_)
    · refine s_iload 109 rfl rfl ?_
      exact s_zret 110 rfl ((h.2 h1).1 h2).1 ((h.2 h1).1 h2).2
    · refine s_aload 22 rfl rfl ?_
      refine s_aload 23 rfl rfl ?_
      refine s_getR 64 24 rfl rfl ?_
      refine s_push 25 rfl ?_
      refine s_iload 26 rfl rfl ?_
      refine s_binX (v := 2 * v3) 27 rfl ((h.2 h1).2 h2).1 rfl ?_
      refine s_iald (v := M 64 ((2 * v3).toNat)) 28 rfl rfl ((h.2 h1).2 h2).2.1 rfl ?_
      refine s_callv (o := 44) 29 rfl rfl rfl rfl rfl (ct_12_isPlace ?_)
      show am_R K12_findWays q 52 [aR 44, aI v1, aI v2, aI v3, aJ] [aI (if (¬ ((M 64 ((2 * v3).toNat)) < 0) ∧ ¬ (63 < (M 64 ((2 * v3).toNat)))) ∧ ¬ ((M 51) ((M 64 ((2 * v3).toNat)).toNat) = 99) then 1 else 0)] M
      refine s_nameI (fun x3 ex3 => ?_)
      refine s_istore [aR 44, aI v1, aI x3, aI v3, aJ] 30 rfl rfl ?_
      refine s_iload 31 rfl rfl ?_
      refine s_ifeqV (c := (¬ ((M 64 ((2 * v3).toNat)) < 0) ∧ ¬ (63 < (M 64 ((2 * v3).toNat)))) ∧ ¬ ((M 51) ((M 64 ((2 * v3).toNat)).toNat) = 99)) 32 rfl ex3 (fun h4 => ?_) (fun h4 => ?_)
      · refine s_iinc [aR 44, aI v1, aI x3, aI (v3 + 1), aJ] 107 rfl rfl ((((h.2 h1).2 h2).2.2 x3 ex3).2 h4).1 rfl ?_
        refine s_goto 108 rfl ?_
        exact ((((h.2 h1).2 h2).2.2 x3 ex3).2 h4).2
      · refine s_aload 33 rfl rfl ?_
        refine s_aload 34 rfl rfl ?_
        refine s_getR 64 35 rfl rfl ?_
        refine s_push 36 rfl ?_
        refine s_iload 37 rfl rfl ?_
        refine s_binX (v := 2 * v3) 38 rfl ((h.2 h1).2 h2).1 rfl ?_
        refine s_iald (v := M 64 ((2 * v3).toNat)) 39 rfl rfl ((h.2 h1).2 h2).2.1 rfl ?_
        refine s_push 40 rfl ?_
        refine s_callv (o := 44) 41 rfl rfl rfl rfl rfl (am_S.mono ((((h.2 h1).2 h2).2.2 x3 ex3).1 h4) ?_)
        intro r6 M5 g8
        show am_R K12_findWays q 70 [aR 44, aI v1, aI x3, aI v3, aJ] [] M5
        refine s_aload 42 rfl rfl ?_
        refine s_getR 65 43 rfl rfl ?_
        refine s_push 44 rfl ?_
        refine s_iload 45 rfl rfl ?_
        refine s_binX (v := 25 + v3) 46 rfl g8.1 rfl ?_
        refine s_aload 47 rfl rfl ?_
        refine s_getR 59 48 rfl rfl ?_
        refine s_aload 49 rfl rfl ?_
        refine s_getR 57 50 rfl rfl ?_
        refine s_iload 51 rfl rfl ?_
        refine s_iald (v := M5 57 (v1.toNat)) 52 rfl rfl g8.2.1 rfl ?_
        refine s_iald (v := M5 59 ((M5 57 (v1.toNat)).toNat)) 53 rfl rfl g8.2.2.1 rfl ?_
        refine s_nameI (fun x9 ex9 => ?_)
        refine s_iast 54 rfl rfl (g8.2.2.2 x9 ex9).1 ?_
        refine s_aload 55 rfl rfl ?_
        refine s_getR 65 56 rfl rfl ?_
        refine s_push 57 rfl ?_
        refine s_iload 58 rfl rfl ?_
        refine s_binX (v := 25 + v3) 59 rfl g8.1 rfl ?_
        refine s_iald (v := x9) 60 rfl rfl (g8.2.2.2 x9 ex9).1 (by simp [am_up, am_set]) ?_
        refine s_push 61 rfl ?_
        have j12 : ∀ (x11 : Int) (ex11 : x11 = (if ¬ (1000000 ≤ x9) then 1 else 0)), am_R K12_findWays q 109 [aR 44, aI v1, aI x3, aI v3, aJ] [aI x11] (am_up M5 65 ((25 + v3).toNat) x9) := by
          intro x11 ex11
          refine s_istore [aR 44, aI v1, aI x11, aI v3, aJ] 66 rfl rfl ?_
          refine s_push 67 rfl ?_
          refine s_istore [aR 44, aI v1, aI x11, aI v3, aI 0] 68 rfl rfl ?_
          exact ((g8.2.2.2 x9 ex9).2 x11 ex11)
        refine s_ic 62 rfl (fun h10 => ?_) (fun h10 => ?_)
        · refine s_push 65 rfl ?_
          exact j12 _ (if_neg (by omega)).symm
        · refine s_push 63 rfl ?_
          refine s_goto 64 rfl ?_
          exact j12 _ (if_pos (by omega)).symm
theorem g12_findWays_113 {q : am_Q} {M : am_M} {v1 v2 v3 v4 : Int} (h : (M 44 28 ≤ v4 → ((-2147483648 ≤ v3 + 1 ∧ v3 + 1 < 2147483648) ∧ (am_R K12_findWays q 28 [aR 44, aI v1, aI v2, aI (v3 + 1), aJ] [] M))) ∧ (¬ (M 44 28 ≤ v4) → ((v2 = 0 → ((-2147483648 ≤ v3 + 1 ∧ v3 + 1 < 2147483648) ∧ (am_R K12_findWays q 28 [aR 44, aI v1, aI v2, aI (v3 + 1), aJ] [] M))) ∧ (¬ (v2 = 0) → ((-2147483648 ≤ 5 * v4 ∧ 5 * v4 < 2147483648) ∧ ((-2147483648 ≤ (5 * v4) + v3 ∧ (5 * v4) + v3 < 2147483648) ∧ ((-2147483648 ≤ 2 * v4 ∧ 2 * v4 < 2147483648) ∧ ((0 ≤ 2 * v4 ∧ 2 * v4 < 10) ∧ ((¬ ((M 64 ((2 * v4).toNat)) < 0) ∧ ¬ (63 < (M 64 ((2 * v4).toNat))) → (0 ≤ M 64 ((2 * v4).toNat) ∧ M 64 ((2 * v4).toNat) < 64)) ∧ (∀ x4 : Int, x4 = (if ¬ ((M 64 ((2 * v4).toNat)) < 0) ∧ ¬ (63 < (M 64 ((2 * v4).toNat))) then M 59 ((M 64 ((2 * v4).toNat)).toNat) else 1000000) → ((0 ≤ (5 * v4) + v3 ∧ (5 * v4) + v3 < 30) ∧ ((-2147483648 ≤ v4 + 1 ∧ v4 + 1 < 2147483648) ∧ (am_R K12_findWays q 113 [aR 44, aI v1, aI v2, aI v3, aI (v4 + 1)] [] (am_up M 65 (((5 * v4) + v3).toNat) x4)))))))))))))) : am_R K12_findWays q 113 [aR 44, aI v1, aI v2, aI v3, aI v4] [] M := by
  refine s_iload 69 rfl rfl ?_
  refine s_aload 70 rfl rfl ?_
  refine s_getI (v := M 44 28) 71 rfl rfl rfl ?_
  refine s_ic 72 rfl (fun h1 => ?_) (fun h1 => ?_)
  · refine s_iinc [aR 44, aI v1, aI v2, aI (v3 + 1), aI v4] 107 rfl rfl (h.1 h1).1 rfl ?_
    refine s_goto 108 rfl ?_
    exact am_R.jk (ls := [aR 44, aI v1, aI v2, aI (v3 + 1), aJ]) ⟨Or.inr rfl, Or.inr rfl, Or.inr rfl, Or.inr rfl, Or.inl rfl, trivial⟩ (h.1 h1).2
  · refine s_iload 73 rfl rfl ?_
    refine s_if 74 rfl (fun h2 => ?_) (fun h2 => ?_)
    · refine s_iinc [aR 44, aI v1, aI v2, aI (v3 + 1), aI v4] 107 rfl rfl ((h.2 h1).1 h2).1 rfl ?_
      refine s_goto 108 rfl ?_
      exact am_R.jk (ls := [aR 44, aI v1, aI v2, aI (v3 + 1), aJ]) ⟨Or.inr rfl, Or.inr rfl, Or.inr rfl, Or.inr rfl, Or.inl rfl, trivial⟩ ((h.2 h1).1 h2).2
    · refine s_aload 75 rfl rfl ?_
      refine s_getR 65 76 rfl rfl ?_
      refine s_push 77 rfl ?_
      refine s_iload 78 rfl rfl ?_
      refine s_binX (v := 5 * v4) 79 rfl ((h.2 h1).2 h2).1 rfl ?_
      refine s_iload 80 rfl rfl ?_
      refine s_binX (v := (5 * v4) + v3) 81 rfl ((h.2 h1).2 h2).2.1 rfl ?_
      refine s_aload 82 rfl rfl ?_
      refine s_getR 64 83 rfl rfl ?_
      refine s_push 84 rfl ?_
      refine s_iload 85 rfl rfl ?_
      refine s_binX (v := 2 * v4) 86 rfl ((h.2 h1).2 h2).2.2.1 rfl ?_
      refine s_iald (v := M 64 ((2 * v4).toNat)) 87 rfl rfl ((h.2 h1).2 h2).2.2.2.1 rfl ?_
      refine s_i2l 88 rfl ?_
      refine s_push 89 rfl ?_
      refine s_push 90 rfl ?_
      refine s_call 91 rfl rfl rfl rfl rfl (ct_12_in ?_)
      show am_R K12_findWays q 153 [aR 44, aI v1, aI v2, aI v3, aI v4] [aI (if ¬ ((M 64 ((2 * v4).toNat)) < 0) ∧ ¬ (63 < (M 64 ((2 * v4).toNat))) then 1 else 0), aI ((5 * v4) + v3), aR 65] M
      have j5 : ∀ (x4 : Int) (ex4 : x4 = (if ¬ ((M 64 ((2 * v4).toNat)) < 0) ∧ ¬ (63 < (M 64 ((2 * v4).toNat))) then M 59 ((M 64 ((2 * v4).toNat)).toNat) else 1000000)), am_R K12_findWays q 175 [aR 44, aI v1, aI v2, aI v3, aI v4] [aI x4, aI ((5 * v4) + v3), aR 65] M := by
        intro x4 ex4
        refine s_iast 104 rfl rfl (((h.2 h1).2 h2).2.2.2.2.2 x4 ex4).1 ?_
        refine s_iinc [aR 44, aI v1, aI v2, aI v3, aI (v4 + 1)] 105 rfl rfl (((h.2 h1).2 h2).2.2.2.2.2 x4 ex4).2.1 rfl ?_
        refine s_goto 106 rfl ?_
        exact (((h.2 h1).2 h2).2.2.2.2.2 x4 ex4).2.2
      refine s_ifeqB 92 rfl (fun h3 => ?_) (fun h3 => ?_)
      · refine s_push 103 rfl ?_
        exact j5 _ (by rw [if_neg h3])
      · refine s_aload 93 rfl rfl ?_
        refine s_getR 59 94 rfl rfl ?_
        refine s_aload 95 rfl rfl ?_
        refine s_getR 64 96 rfl rfl ?_
        refine s_push 97 rfl ?_
        refine s_iload 98 rfl rfl ?_
        refine s_binX (v := 2 * v4) 99 rfl ((h.2 h1).2 h2).2.2.1 rfl ?_
        refine s_iald (v := M 64 ((2 * v4).toNat)) 100 rfl rfl ((h.2 h1).2 h2).2.2.2.1 rfl ?_
        refine s_iald (v := M 59 ((M 64 ((2 * v4).toNat)).toNat)) 101 rfl rfl (((h.2 h1).2 h2).2.2.2.2.1 h3) rfl ?_
        refine s_goto 102 rfl ?_
        exact j5 _ (by rw [if_pos h3])
theorem e12_findBest {q : am_Q} {M : am_M} {v1 : Int} (h : S12_ones [aI v1] M (fun r2 M1 => ∃ x3 : Int, r2 = aI x3 ∧ (am_R K12_findBest q 10 [aR 44, aI v1, aI x3, aI 1, aI 0, aJ, aJ, aJ, aJ, aJ, aJ] [] M1))) : S12_findBest [aR 44, aI v1] M q := by
  refine am_S.intro rfl rfl ?_
  refine s_iload 0 rfl rfl ?_
  refine s_call 1 rfl rfl rfl rfl rfl (am_S.mono h ?_)
  rintro r2 M1 ⟨x3, rfl, g4⟩
  show am_R K12_findBest q 4 [aR 44, aI v1, aJ, aJ, aJ, aJ, aJ, aJ, aJ, aJ, aJ] [aI x3] M1
  refine s_istore [aR 44, aI v1, aI x3, aJ, aJ, aJ, aJ, aJ, aJ, aJ, aJ] 2 rfl rfl ?_
  refine s_push 3 rfl ?_
  refine s_istore [aR 44, aI v1, aI x3, aI 1, aJ, aJ, aJ, aJ, aJ, aJ, aJ] 4 rfl rfl ?_
  refine s_push 5 rfl ?_
  refine s_istore [aR 44, aI v1, aI x3, aI 1, aI 0, aJ, aJ, aJ, aJ, aJ, aJ] 6 rfl rfl ?_
  exact g4
theorem g12_findBest_10 {q : am_Q} {M : am_M} {v1 v2 v3 v4 : Int} (h : (v2 ≤ v4 → (am_R K12_findBest q 32 [aR 44, aI v1, aI v2, aI v3, aI (-1), aI 0, aJ, aJ, aJ, aJ, aJ] [] M)) ∧ (¬ (v2 ≤ v4) → ((-2147483648 ≤ v3 * 5 ∧ v3 * 5 < 2147483648) ∧ (∀ x2 : Int, x2 = v3 * 5 → ((-2147483648 ≤ v4 + 1 ∧ v4 + 1 < 2147483648) ∧ (am_R K12_findBest q 10 [aR 44, aI v1, aI v2, aI x2, aI (v4 + 1), aJ, aJ, aJ, aJ, aJ, aJ] [] M)))))) : am_R K12_findBest q 10 [aR 44, aI v1, aI v2, aI v3, aI v4, aJ, aJ, aJ, aJ, aJ, aJ] [] M := by
  refine s_iload 7 rfl rfl ?_
  refine s_iload 8 rfl rfl ?_
  refine s_ic 9 rfl (fun h1 => ?_) (fun h1 => ?_)
  · refine s_push 16 rfl ?_
    refine s_istore [aR 44, aI v1, aI v2, aI v3, aI (-1), aJ, aJ, aJ, aJ, aJ, aJ] 17 rfl rfl ?_
    refine s_push 18 rfl ?_
    refine s_istore [aR 44, aI v1, aI v2, aI v3, aI (-1), aI 0, aJ, aJ, aJ, aJ, aJ] 19 rfl rfl ?_
    exact (h.1 h1)
  · refine s_iload 10 rfl rfl ?_
    refine s_push 11 rfl ?_
    refine s_binX (v := v3 * 5) 12 rfl (h.2 h1).1 rfl ?_
    refine s_nameI (fun x2 ex2 => ?_)
    refine s_istore [aR 44, aI v1, aI v2, aI x2, aI v4, aJ, aJ, aJ, aJ, aJ, aJ] 13 rfl rfl ?_
    refine s_iinc [aR 44, aI v1, aI v2, aI x2, aI (v4 + 1), aJ, aJ, aJ, aJ, aJ, aJ] 14 rfl rfl ((h.2 h1).2 x2 ex2).1 rfl ?_
    refine s_goto 15 rfl ?_
    exact ((h.2 h1).2 x2 ex2).2
theorem g12_findBest_32 {q : am_Q} {M : am_M} {v1 v2 v3 v4 v5 : Int} (h : (v3 ≤ v5 → (q (aI v4) M)) ∧ (¬ (v3 ≤ v5) → ((-2147483648 ≤ v2 - 1 ∧ v2 - 1 < 2147483648) ∧ (∀ x2 : Int, x2 = v2 - 1 → (am_R K12_findBest q 50 [aR 44, aI v1, aI v2, aI v3, aI v4, aI v5, aI v5, aI 0, aI x2, aJ, aJ] [] M))))) : am_R K12_findBest q 32 [aR 44, aI v1, aI v2, aI v3, aI v4, aI v5, aJ, aJ, aJ, aJ, aJ] [] M := by
  refine s_iload 20 rfl rfl ?_
  refine s_iload 21 rfl rfl ?_
  refine s_ic 22 rfl (fun h1 => ?_) (fun h1 => ?_)
  · refine s_iload 121 rfl rfl ?_
    exact s_iret 122 rfl (h.1 h1)
  · refine s_iload 23 rfl rfl ?_
    refine s_istore [aR 44, aI v1, aI v2, aI v3, aI v4, aI v5, aI v5, aJ, aJ, aJ, aJ] 24 rfl rfl ?_
    refine s_push 25 rfl ?_
    refine s_istore [aR 44, aI v1, aI v2, aI v3, aI v4, aI v5, aI v5, aI 0, aJ, aJ, aJ] 26 rfl rfl ?_
    refine s_iload 27 rfl rfl ?_
    refine s_push 28 rfl ?_
    refine s_binX (v := v2 - 1) 29 rfl (h.2 h1).1 rfl ?_
    refine s_nameI (fun x2 ex2 => ?_)
    refine s_istore [aR 44, aI v1, aI v2, aI v3, aI v4, aI v5, aI v5, aI 0, aI x2, aJ, aJ] 30 rfl rfl ?_
    exact ((h.2 h1).2 x2 ex2)
theorem g12_findBest_50 {q : am_Q} {M : am_M} {v1 v2 v3 v4 v5 v6 v7 v8 : Int} (h : (v8 < 0 → ((v7 = v1 → (am_R K12_findBest q 107 [aR 44, aI v1, aI v2, aI v3, aI v4, aI v5, aJ, aJ, aI 0, aI 0, aI 0] [] M)) ∧ (¬ (v7 = v1) → ((-2147483648 ≤ v5 + 1 ∧ v5 + 1 < 2147483648) ∧ (am_R K12_findBest q 32 [aR 44, aI v1, aI v2, aI v3, aI v4, aI (v5 + 1), aJ, aJ, aJ, aJ, aJ] [] M))))) ∧ (¬ (v8 < 0) → ((0 ≤ v6) ∧ (∀ x3 : Int, x3 = v6 % 5 → ((0 ≤ v8 ∧ v8 < 5) ∧ (∀ x4 : Int, x4 = v6 / 5 → ((0 ≤ x3 ∧ x3 < 32) ∧ (∀ x5 : Int, x5 = am_or v7 (am_shl 1 x3) → ((-2147483648 ≤ v8 + (-1) ∧ v8 + (-1) < 2147483648) ∧ (am_R K12_findBest q 50 [aR 44, aI v1, aI v2, aI v3, aI v4, aI v5, aI x4, aI x5, aI (v8 + (-1)), aJ, aJ] [] (am_up M 61 (v8.toNat) x3))))))))))) : am_R K12_findBest q 50 [aR 44, aI v1, aI v2, aI v3, aI v4, aI v5, aI v6, aI v7, aI v8, aJ, aJ] [] M := by
  refine s_iload 31 rfl rfl ?_
  refine s_if 32 rfl (fun h1 => ?_) (fun h1 => ?_)
  · refine s_iload 55 rfl rfl ?_
    refine s_iload 56 rfl rfl ?_
    refine s_icne 57 rfl (fun h2 => ?_) (fun h2 => ?_)
    · refine s_iinc [aR 44, aI v1, aI v2, aI v3, aI v4, aI (v5 + 1), aI v6, aI v7, aI v8, aJ, aJ] 119 rfl rfl ((h.1 h1).2 h2).1 rfl ?_
      refine s_goto 120 rfl ?_
      exact am_R.jk (ls := [aR 44, aI v1, aI v2, aI v3, aI v4, aI (v5 + 1), aJ, aJ, aJ, aJ, aJ]) ⟨Or.inr rfl, Or.inr rfl, Or.inr rfl, Or.inr rfl, Or.inr rfl, Or.inr rfl, Or.inl rfl, Or.inl rfl, Or.inl rfl, Or.inr rfl, Or.inr rfl, trivial⟩ ((h.1 h1).2 h2).2
    · refine s_push 58 rfl ?_
      refine s_istore [aR 44, aI v1, aI v2, aI v3, aI v4, aI v5, aI v6, aI v7, aI 0, aJ, aJ] 59 rfl rfl ?_
      refine s_push 60 rfl ?_
      refine s_istore [aR 44, aI v1, aI v2, aI v3, aI v4, aI v5, aI v6, aI v7, aI 0, aI 0, aJ] 61 rfl rfl ?_
      refine s_push 62 rfl ?_
      refine s_istore [aR 44, aI v1, aI v2, aI v3, aI v4, aI v5, aI v6, aI v7, aI 0, aI 0, aI 0] 63 rfl rfl ?_
      exact am_R.jk (ls := [aR 44, aI v1, aI v2, aI v3, aI v4, aI v5, aJ, aJ, aI 0, aI 0, aI 0]) ⟨Or.inr rfl, Or.inr rfl, Or.inr rfl, Or.inr rfl, Or.inr rfl, Or.inr rfl, Or.inl rfl, Or.inl rfl, Or.inr rfl, Or.inr rfl, Or.inr rfl, trivial⟩ ((h.1 h1).1 h2)
  · refine s_aload 33 rfl rfl ?_
    refine s_getR 61 34 rfl rfl ?_
    refine s_iload 35 rfl rfl ?_
    refine s_iload 36 rfl rfl ?_
    refine s_push 37 rfl ?_
    refine s_irem 38 rfl ⟨(h.2 h1).1, by decide⟩ ?_
    refine s_nameI (fun x3 ex3 => ?_)
    refine s_iast 39 rfl rfl ((h.2 h1).2 x3 ex3).1 ?_
    refine s_iload 40 rfl rfl ?_
    refine s_push 41 rfl ?_
    refine s_idiv 42 rfl ⟨(h.2 h1).1, by decide⟩ ?_
    refine s_nameI (fun x4 ex4 => ?_)
    refine s_istore [aR 44, aI v1, aI v2, aI v3, aI v4, aI v5, aI x4, aI v7, aI v8, aJ, aJ] 43 rfl rfl ?_
    refine s_iload 44 rfl rfl ?_
    refine s_push 45 rfl ?_
    refine s_aload 46 rfl rfl ?_
    refine s_getR 61 47 rfl rfl ?_
    refine s_iload 48 rfl rfl ?_
    refine s_iald (v := x3) 49 rfl rfl ((h.2 h1).2 x3 ex3).1 (by simp [am_up, am_set]) ?_
    refine s_sh 50 rfl (((h.2 h1).2 x3 ex3).2 x4 ex4).1 ?_
    refine s_bin 51 rfl ?_
    refine s_nameI (fun x5 ex5 => ?_)
    refine s_istore [aR 44, aI v1, aI v2, aI v3, aI v4, aI v5, aI x4, aI x5, aI v8, aJ, aJ] 52 rfl rfl ?_
    refine s_iinc [aR 44, aI v1, aI v2, aI v3, aI v4, aI v5, aI x4, aI x5, aI (v8 + (-1)), aJ, aJ] 53 rfl rfl ((((h.2 h1).2 x3 ex3).2 x4 ex4).2 x5 ex5).1 rfl ?_
    refine s_goto 54 rfl ?_
    exact ((((h.2 h1).2 x3 ex3).2 x4 ex4).2 x5 ex5).2
theorem g12_findBest_107 {q : am_Q} {M : am_M} {v1 v2 v3 v4 v5 v8 v9 v10 : Int} (h : (v2 ≤ v10 → ((v4 = (-1) → ((-2147483648 ≤ v5 + 1 ∧ v5 + 1 < 2147483648) ∧ (am_R K12_findBest q 32 [aR 44, aI v1, aI v2, aI v3, aI v8, aI (v5 + 1), aJ, aJ, aJ, aJ, aJ] [] (am_up M 44 32 v5)))) ∧ (¬ (v4 = (-1)) → ((v4 ≤ v8 → ((-2147483648 ≤ v5 + 1 ∧ v5 + 1 < 2147483648) ∧ (am_R K12_findBest q 32 [aR 44, aI v1, aI v2, aI v3, aI v4, aI (v5 + 1), aJ, aJ, aJ, aJ, aJ] [] M))) ∧ (¬ (v4 ≤ v8) → ((-2147483648 ≤ v5 + 1 ∧ v5 + 1 < 2147483648) ∧ (am_R K12_findBest q 32 [aR 44, aI v1, aI v2, aI v3, aI v8, aI (v5 + 1), aJ, aJ, aJ, aJ, aJ] [] (am_up M 44 32 v5)))))))) ∧ (¬ (v2 ≤ v10) → ((¬ (v10 = 0) → ((-2147483648 ≤ v10 - 1 ∧ v10 - 1 < 2147483648) ∧ (0 ≤ v10 - 1 ∧ v10 - 1 < 5))) ∧ (∀ x5 : Int, x5 = (if v10 = 0 then 5 else M 61 ((v10 - 1).toNat)) → ((-2147483648 ≤ 5 * x5 ∧ 5 * x5 < 2147483648) ∧ ((0 ≤ v10 ∧ v10 < 5) ∧ ((-2147483648 ≤ (5 * x5) + (M 61 (v10.toNat)) ∧ (5 * x5) + (M 61 (v10.toNat)) < 2147483648) ∧ ((0 ≤ (5 * x5) + (M 61 (v10.toNat)) ∧ (5 * x5) + (M 61 (v10.toNat)) < 30) ∧ ((-2147483648 ≤ v9 + (M 65 (((5 * x5) + (M 61 (v10.toNat))).toNat)) ∧ v9 + (M 65 (((5 * x5) + (M 61 (v10.toNat))).toNat)) < 2147483648) ∧ (∀ x6 : Int, x6 = v9 + (M 65 (((5 * x5) + (M 61 (v10.toNat))).toNat)) → ((-2147483648 ≤ 2 * (M 61 (v10.toNat)) ∧ 2 * (M 61 (v10.toNat)) < 2147483648) ∧ ((-2147483648 ≤ (2 * (M 61 (v10.toNat))) + 1 ∧ (2 * (M 61 (v10.toNat))) + 1 < 2147483648) ∧ ((0 ≤ (2 * (M 61 (v10.toNat))) + 1 ∧ (2 * (M 61 (v10.toNat))) + 1 < 10) ∧ ((-2147483648 ≤ x6 * (M 64 (((2 * (M 61 (v10.toNat))) + 1).toNat)) ∧ x6 * (M 64 (((2 * (M 61 (v10.toNat))) + 1).toNat)) < 2147483648) ∧ ((-2147483648 ≤ v8 + (x6 * (M 64 (((2 * (M 61 (v10.toNat))) + 1).toNat))) ∧ v8 + (x6 * (M 64 (((2 * (M 61 (v10.toNat))) + 1).toNat))) < 2147483648) ∧ (∀ x7 : Int, x7 = v8 + (x6 * (M 64 (((2 * (M 61 (v10.toNat))) + 1).toNat))) → ((-2147483648 ≤ v10 + 1 ∧ v10 + 1 < 2147483648) ∧ (am_R K12_findBest q 107 [aR 44, aI v1, aI v2, aI v3, aI v4, aI v5, aJ, aJ, aI x7, aI x6, aI (v10 + 1)] [] M)))))))))))))))))) : am_R K12_findBest q 107 [aR 44, aI v1, aI v2, aI v3, aI v4, aI v5, aJ, aJ, aI v8, aI v9, aI v10] [] M := by
  refine s_iload 64 rfl rfl ?_
  refine s_iload 65 rfl rfl ?_
  refine s_ic 66 rfl (fun h1 => ?_) (fun h1 => ?_)
  · refine s_iload 108 rfl rfl ?_
    refine s_push 109 rfl ?_
    refine s_ic 110 rfl (fun h2 => ?_) (fun h2 => ?_)
    · refine s_iload 114 rfl rfl ?_
      refine s_istore [aR 44, aI v1, aI v2, aI v3, aI v8, aI v5, aJ, aJ, aI v8, aI v9, aI v10] 115 rfl rfl ?_
      refine s_aload 116 rfl rfl ?_
      refine s_iload 117 rfl rfl ?_
      refine s_putI 118 rfl rfl ?_
      refine s_iinc [aR 44, aI v1, aI v2, aI v3, aI v8, aI (v5 + 1), aJ, aJ, aI v8, aI v9, aI v10] 119 rfl rfl ((h.1 h1).1 h2).1 rfl ?_
      refine s_goto 120 rfl ?_
      exact am_R.jk (ls := [aR 44, aI v1, aI v2, aI v3, aI v8, aI (v5 + 1), aJ, aJ, aJ, aJ, aJ]) ⟨Or.inr rfl, Or.inr rfl, Or.inr rfl, Or.inr rfl, Or.inr rfl, Or.inr rfl, Or.inr rfl, Or.inr rfl, Or.inl rfl, Or.inl rfl, Or.inl rfl, trivial⟩ ((h.1 h1).1 h2).2
    · refine s_iload 111 rfl rfl ?_
      refine s_iload 112 rfl rfl ?_
      refine s_ic 113 rfl (fun h3 => ?_) (fun h3 => ?_)
      · refine s_iinc [aR 44, aI v1, aI v2, aI v3, aI v4, aI (v5 + 1), aJ, aJ, aI v8, aI v9, aI v10] 119 rfl rfl (((h.1 h1).2 h2).1 h3).1 rfl ?_
        refine s_goto 120 rfl ?_
        exact am_R.jk (ls := [aR 44, aI v1, aI v2, aI v3, aI v4, aI (v5 + 1), aJ, aJ, aJ, aJ, aJ]) ⟨Or.inr rfl, Or.inr rfl, Or.inr rfl, Or.inr rfl, Or.inr rfl, Or.inr rfl, Or.inr rfl, Or.inr rfl, Or.inl rfl, Or.inl rfl, Or.inl rfl, trivial⟩ (((h.1 h1).2 h2).1 h3).2
      · refine s_iload 114 rfl rfl ?_
        refine s_istore [aR 44, aI v1, aI v2, aI v3, aI v8, aI v5, aJ, aJ, aI v8, aI v9, aI v10] 115 rfl rfl ?_
        refine s_aload 116 rfl rfl ?_
        refine s_iload 117 rfl rfl ?_
        refine s_putI 118 rfl rfl ?_
        refine s_iinc [aR 44, aI v1, aI v2, aI v3, aI v8, aI (v5 + 1), aJ, aJ, aI v8, aI v9, aI v10] 119 rfl rfl (((h.1 h1).2 h2).2 h3).1 rfl ?_
        refine s_goto 120 rfl ?_
        exact am_R.jk (ls := [aR 44, aI v1, aI v2, aI v3, aI v8, aI (v5 + 1), aJ, aJ, aJ, aJ, aJ]) ⟨Or.inr rfl, Or.inr rfl, Or.inr rfl, Or.inr rfl, Or.inr rfl, Or.inr rfl, Or.inr rfl, Or.inr rfl, Or.inl rfl, Or.inl rfl, Or.inl rfl, trivial⟩ (((h.1 h1).2 h2).2 h3).2
  · refine s_iload 67 rfl rfl ?_
    refine s_aload 68 rfl rfl ?_
    refine s_getR 65 69 rfl rfl ?_
    refine s_push 70 rfl ?_
    refine s_iload 71 rfl rfl ?_
    have j8 : ∀ (x5 : Int) (ex5 : x5 = (if v10 = 0 then 5 else M 61 ((v10 - 1).toNat))), am_R K12_findBest q 138 [aR 44, aI v1, aI v2, aI v3, aI v4, aI v5, aJ, aJ, aI v8, aI v9, aI v10] [aI x5, aI 5, aR 65, aI v9] M := by
      intro x5 ex5
      refine s_binX (v := 5 * x5) 81 rfl ((h.2 h1).2 x5 ex5).1 rfl ?_
      refine s_aload 82 rfl rfl ?_
      refine s_getR 61 83 rfl rfl ?_
      refine s_iload 84 rfl rfl ?_
      refine s_iald (v := M 61 (v10.toNat)) 85 rfl rfl ((h.2 h1).2 x5 ex5).2.1 rfl ?_
      refine s_binX (v := (5 * x5) + (M 61 (v10.toNat))) 86 rfl ((h.2 h1).2 x5 ex5).2.2.1 rfl ?_
      refine s_iald (v := M 65 (((5 * x5) + (M 61 (v10.toNat))).toNat)) 87 rfl rfl ((h.2 h1).2 x5 ex5).2.2.2.1 rfl ?_
      refine s_binX (v := v9 + (M 65 (((5 * x5) + (M 61 (v10.toNat))).toNat))) 88 rfl ((h.2 h1).2 x5 ex5).2.2.2.2.1 rfl ?_
      refine s_nameI (fun x6 ex6 => ?_)
      refine s_istore [aR 44, aI v1, aI v2, aI v3, aI v4, aI v5, aJ, aJ, aI v8, aI x6, aI v10] 89 rfl rfl ?_
      refine s_iload 90 rfl rfl ?_
      refine s_iload 91 rfl rfl ?_
      refine s_aload 92 rfl rfl ?_
      refine s_getR 64 93 rfl rfl ?_
      refine s_push 94 rfl ?_
      refine s_aload 95 rfl rfl ?_
      refine s_getR 61 96 rfl rfl ?_
      refine s_iload 97 rfl rfl ?_
      refine s_iald (v := M 61 (v10.toNat)) 98 rfl rfl ((h.2 h1).2 x5 ex5).2.1 rfl ?_
      refine s_binX (v := 2 * (M 61 (v10.toNat))) 99 rfl (((h.2 h1).2 x5 ex5).2.2.2.2.2 x6 ex6).1 rfl ?_
      refine s_push 100 rfl ?_
      refine s_binX (v := (2 * (M 61 (v10.toNat))) + 1) 101 rfl (((h.2 h1).2 x5 ex5).2.2.2.2.2 x6 ex6).2.1 rfl ?_
      refine s_iald (v := M 64 (((2 * (M 61 (v10.toNat))) + 1).toNat)) 102 rfl rfl (((h.2 h1).2 x5 ex5).2.2.2.2.2 x6 ex6).2.2.1 rfl ?_
      refine s_binX (v := x6 * (M 64 (((2 * (M 61 (v10.toNat))) + 1).toNat))) 103 rfl (((h.2 h1).2 x5 ex5).2.2.2.2.2 x6 ex6).2.2.2.1 rfl ?_
      refine s_binX (v := v8 + (x6 * (M 64 (((2 * (M 61 (v10.toNat))) + 1).toNat)))) 104 rfl (((h.2 h1).2 x5 ex5).2.2.2.2.2 x6 ex6).2.2.2.2.1 rfl ?_
      refine s_nameI (fun x7 ex7 => ?_)
      refine s_istore [aR 44, aI v1, aI v2, aI v3, aI v4, aI v5, aJ, aJ, aI x7, aI x6, aI v10] 105 rfl rfl ?_
      refine s_iinc [aR 44, aI v1, aI v2, aI v3, aI v4, aI v5, aJ, aJ, aI x7, aI x6, aI (v10 + 1)] 106 rfl rfl ((((h.2 h1).2 x5 ex5).2.2.2.2.2 x6 ex6).2.2.2.2.2 x7 ex7).1 rfl ?_
      refine s_goto 107 rfl ?_
      exact ((((h.2 h1).2 x5 ex5).2.2.2.2.2 x6 ex6).2.2.2.2.2 x7 ex7).2
    refine s_ifne 72 rfl (fun h4 => ?_) (fun h4 => ?_)
    · refine s_aload 75 rfl rfl ?_
      refine s_getR 61 76 rfl rfl ?_
      refine s_iload 77 rfl rfl ?_
      refine s_push 78 rfl ?_
      refine s_binX (v := v10 - 1) 79 rfl ((h.2 h1).1 h4).1 rfl ?_
      refine s_iald (v := M 61 ((v10 - 1).toNat)) 80 rfl rfl ((h.2 h1).1 h4).2 rfl ?_
      exact j8 _ (by rw [if_neg h4])
    · refine s_push 73 rfl ?_
      refine s_goto 74 rfl ?_
      exact j8 _ (by rw [if_pos h4])
theorem e12_weights {q : am_Q} {M : am_M}  (h : am_R K12_weights q 4 [aR 44, aI 0, aI 0] [] M) : S12_weights [aR 44] M q := by
  refine am_S.intro rfl rfl ?_
  refine s_push 0 rfl ?_
  refine s_istore [aR 44, aI 0, aJ] 1 rfl rfl ?_
  refine s_push 2 rfl ?_
  refine s_istore [aR 44, aI 0, aI 0] 3 rfl rfl ?_
  exact h
theorem g12_weights_4 {q : am_Q} {M : am_M} {v1 v2 : Int} (h : (M 44 28 ≤ v2 → (q (aI v1) M)) ∧ (¬ (M 44 28 ≤ v2) → ((-2147483648 ≤ 2 * v2 ∧ 2 * v2 < 2147483648) ∧ ((-2147483648 ≤ (2 * v2) + 1 ∧ (2 * v2) + 1 < 2147483648) ∧ ((0 ≤ (2 * v2) + 1 ∧ (2 * v2) + 1 < 10) ∧ ((-2147483648 ≤ v1 + (M 64 (((2 * v2) + 1).toNat)) ∧ v1 + (M 64 (((2 * v2) + 1).toNat)) < 2147483648) ∧ (∀ x2 : Int, x2 = v1 + (M 64 (((2 * v2) + 1).toNat)) → ((-2147483648 ≤ v2 + 1 ∧ v2 + 1 < 2147483648) ∧ (am_R K12_weights q 4 [aR 44, aI x2, aI (v2 + 1)] [] M))))))))) : am_R K12_weights q 4 [aR 44, aI v1, aI v2] [] M := by
  refine s_iload 4 rfl rfl ?_
  refine s_aload 5 rfl rfl ?_
  refine s_getI (v := M 44 28) 6 rfl rfl rfl ?_
  refine s_ic 7 rfl (fun h1 => ?_) (fun h1 => ?_)
  · refine s_iload 21 rfl rfl ?_
    exact s_iret 22 rfl (h.1 h1)
  · refine s_iload 8 rfl rfl ?_
    refine s_aload 9 rfl rfl ?_
    refine s_getR 64 10 rfl rfl ?_
    refine s_push 11 rfl ?_
    refine s_iload 12 rfl rfl ?_
    refine s_binX (v := 2 * v2) 13 rfl (h.2 h1).1 rfl ?_
    refine s_push 14 rfl ?_
    refine s_binX (v := (2 * v2) + 1) 15 rfl (h.2 h1).2.1 rfl ?_
    refine s_iald (v := M 64 (((2 * v2) + 1).toNat)) 16 rfl rfl (h.2 h1).2.2.1 rfl ?_
    refine s_binX (v := v1 + (M 64 (((2 * v2) + 1).toNat))) 17 rfl (h.2 h1).2.2.2.1 rfl ?_
    refine s_nameI (fun x2 ex2 => ?_)
    refine s_istore [aR 44, aI x2, aI v2] 18 rfl rfl ?_
    refine s_iinc [aR 44, aI x2, aI (v2 + 1)] 19 rfl rfl ((h.2 h1).2.2.2.2 x2 ex2).1 rfl ?_
    refine s_goto 20 rfl ?_
    exact ((h.2 h1).2.2.2.2 x2 ex2).2
theorem e12_seekOf {q : am_Q} {M : am_M} {v1 : Int} {v2 : Int} (h : S12_findWays [aR 44, aI v1] M (fun r2 M1 => ∃ x3 : Int, r2 = aI x3 ∧ ((x3 = 0 → (q (aL (f_12_no (-3))) M1)) ∧ (¬ (x3 = 0) → ((0 ≤ M1 44 28 ∧ M1 44 28 < 32) ∧ ((-2147483648 ≤ (am_shl 1 (M1 44 28)) - 1 ∧ (am_shl 1 (M1 44 28)) - 1 < 2147483648) ∧ (S12_findBest [aR 44, aI ((am_shl 1 (M1 44 28)) - 1)] M1 (fun r7 M6 => ∃ x8 : Int, r7 = aI x8 ∧ ((0 ≤ v2 → (∀ x11 : Int, x11 = M6 44 32 → ((-2147483648 ≤ (M6 44 28) - 1 ∧ (M6 44 28) - 1 < 2147483648) ∧ (∀ x12 : Int, x12 = (M6 44 28) - 1 → (am_R K12_seekOf q 59 [aR 44, aJ, aI v2, aJ, aI x11, aI x12] [] M6))))) ∧ (¬ (0 ≤ v2) → (S12_weights [aR 44] M6 (fun r14 M13 => ∃ x15 : Int, r14 = aI x15 ∧ ((-2147483648 ≤ v2 + 2 ∧ v2 + 2 < 2147483648) ∧ (S12_part [aL x8, aL x15, aI (v2 + 2)] M13 (fun r18 M17 => ∃ x19 : Int, r18 = aL x19 ∧ (q (aL x19) M17)))))))))))))))) : S12_seekOf [aR 44, aI v1, aI v2] M q := by
  refine am_S.intro rfl rfl ?_
  refine s_aload 0 rfl rfl ?_
  refine s_iload 1 rfl rfl ?_
  refine s_callv (o := 44) 2 rfl rfl rfl rfl rfl (am_S.mono h ?_)
  rintro r2 M1 ⟨x3, rfl, g4⟩
  show am_R K12_seekOf q 5 [aR 44, aI v1, aI v2, aJ, aJ, aJ] [aI x3] M1
  refine s_ifne 3 rfl (fun h5 => ?_) (fun h5 => ?_)
  · refine s_aload 7 rfl rfl ?_
    refine s_push 8 rfl ?_
    refine s_aload 9 rfl rfl ?_
    refine s_getI (v := M1 44 28) 10 rfl rfl rfl ?_
    refine s_sh 11 rfl (g4.2 h5).1 ?_
    refine s_push 12 rfl ?_
    refine s_binX (v := (am_shl 1 (M1 44 28)) - 1) 13 rfl (g4.2 h5).2.1 rfl ?_
    refine s_callv (o := 44) 14 rfl rfl rfl rfl rfl (am_S.mono (g4.2 h5).2.2 ?_)
    rintro r7 M6 ⟨x8, rfl, g9⟩
    show am_R K12_seekOf q 26 [aR 44, aI v1, aI v2, aJ, aJ, aJ] [aI x8] M6
    refine s_istore [aR 44, aI v1, aI v2, aI x8, aJ, aJ] 15 rfl rfl ?_
    refine s_iload 16 rfl rfl ?_
    refine s_if 17 rfl (fun h10 => ?_) (fun h10 => ?_)
    · refine s_aload 28 rfl rfl ?_
      refine s_getI (v := M6 44 32) 29 rfl rfl rfl ?_
      refine s_nameI (fun x11 ex11 => ?_)
      refine s_istore [aR 44, aI v1, aI v2, aI x8, aI x11, aJ] 30 rfl rfl ?_
      refine s_aload 31 rfl rfl ?_
      refine s_getI (v := M6 44 28) 32 rfl rfl rfl ?_
      refine s_push 33 rfl ?_
      refine s_binX (v := (M6 44 28) - 1) 34 rfl ((g9.1 h10) x11 ex11).1 rfl ?_
      refine s_nameI (fun x12 ex12 => ?_)
      refine s_istore [aR 44, aI v1, aI v2, aI x8, aI x11, aI x12] 35 rfl rfl ?_
      exact am_R.jk (ls := [aR 44, aJ, aI v2, aJ, aI x11, aI x12]) ⟨Or.inr rfl, Or.inl rfl, Or.inr rfl, Or.inl rfl, Or.inr rfl, Or.inr rfl, trivial⟩ (((g9.1 h10) x11 ex11).2 x12 ex12)
    · refine s_iload 18 rfl rfl ?_
      refine s_i2l 19 rfl ?_
      refine s_aload 20 rfl rfl ?_
      refine s_callv (o := 44) 21 rfl rfl rfl rfl rfl (am_S.mono (g9.2 h10) ?_)
      rintro r14 M13 ⟨x15, rfl, g16⟩
      show am_R K12_seekOf q 37 [aR 44, aI v1, aI v2, aI x8, aJ, aJ] [aI x15, aL x8] M13
      refine s_i2l 22 rfl ?_
      refine s_iload 23 rfl rfl ?_
      refine s_push 24 rfl ?_
      refine s_binX (v := v2 + 2) 25 rfl g16.1 rfl ?_
      refine s_call 26 rfl rfl rfl rfl rfl (am_S.mono g16.2 ?_)
      rintro r18 M17 ⟨x19, rfl, g20⟩
      show am_R K12_seekOf q 44 [aR 44, aI v1, aI v2, aI x8, aJ, aJ] [aL x19] M17
      exact s_lret 27 rfl g20
  · refine s_push 4 rfl ?_
    refine s_call 5 rfl rfl rfl rfl rfl (ct_12_no ?_)
    show am_R K12_seekOf q 13 [aR 44, aI v1, aI v2, aJ, aJ, aJ] [aL (f_12_no (-3))] M1
    exact s_lret 6 rfl (g4.1 h5)
theorem g12_seekOf_59 {q : am_Q} {M : am_M} {v2 v4 v5 : Int} (h : (v5 ≤ v2 → ((¬ (M 44 28 ≤ v2) → (0 ≤ v4)) ∧ (∀ x3 : Int, x3 = (if M 44 28 ≤ v2 then (-1) else v4 % 5) → (q (aL x3) M)))) ∧ (¬ (v5 ≤ v2) → ((0 ≤ v4) ∧ (∀ x4 : Int, x4 = v4 / 5 → ((-2147483648 ≤ v5 + (-1) ∧ v5 + (-1) < 2147483648) ∧ (am_R K12_seekOf q 59 [aR 44, aJ, aI v2, aJ, aI x4, aI (v5 + (-1))] [] M)))))) : am_R K12_seekOf q 59 [aR 44, aJ, aI v2, aJ, aI v4, aI v5] [] M := by
  refine s_iload 36 rfl rfl ?_
  refine s_iload 37 rfl rfl ?_
  refine s_ic 38 rfl (fun h1 => ?_) (fun h1 => ?_)
  · refine s_iload 45 rfl rfl ?_
    refine s_aload 46 rfl rfl ?_
    refine s_getI (v := M 44 28) 47 rfl rfl rfl ?_
    have j5 : ∀ (x3 : Int) (ex3 : x3 = (if M 44 28 ≤ v2 then (-1) else v4 % 5)), am_R K12_seekOf q 96 [aR 44, aJ, aI v2, aJ, aI v4, aI v5] [aL x3] M := by
      intro x3 ex3
      exact s_lret 55 rfl ((h.1 h1).2 x3 ex3)
    refine s_ic 48 rfl (fun h2 => ?_) (fun h2 => ?_)
    · refine s_push 54 rfl ?_
      exact j5 _ (by rw [if_pos h2])
    · refine s_iload 49 rfl rfl ?_
      refine s_push 50 rfl ?_
      refine s_irem 51 rfl ⟨((h.1 h1).1 h2), by decide⟩ ?_
      refine s_i2l 52 rfl ?_
      refine s_goto 53 rfl ?_
      exact j5 _ (by rw [if_neg h2])
  · refine s_iload 39 rfl rfl ?_
    refine s_push 40 rfl ?_
    refine s_idiv 41 rfl ⟨(h.2 h1).1, by decide⟩ ?_
    refine s_nameI (fun x4 ex4 => ?_)
    refine s_istore [aR 44, aJ, aI v2, aJ, aI x4, aI v5] 42 rfl rfl ?_
    refine s_iinc [aR 44, aJ, aI v2, aJ, aI x4, aI (v5 + (-1))] 43 rfl rfl ((h.2 h1).2 x4 ex4).1 rfl ?_
    refine s_goto 44 rfl ?_
    exact ((h.2 h1).2 x4 ex4).2
theorem e12_nearOf {q : am_Q} {M : am_M} {v1 : Int} {v2 : Int} (h : S12_findFar [aR 44, aI v2, aI 0] M (fun _ M1 => (0 ≤ v1 ∧ v1 < 64) ∧ (∀ x6 : Int, x6 = (if M1 59 (v1.toNat) < 1000000 then M1 59 (v1.toNat) else (-1)) → (q (aI x6) M1)))) : S12_nearOf [aR 44, aI v1, aI v2] M q := by
  refine am_S.intro rfl rfl ?_
  refine s_aload 0 rfl rfl ?_
  refine s_iload 1 rfl rfl ?_
  refine s_push 2 rfl ?_
  refine s_callv (o := 44) 3 rfl rfl rfl rfl rfl (am_S.mono h ?_)
  intro r2 M1 g4
  show am_R K12_nearOf q 6 [aR 44, aI v1, aI v2] [] M1
  refine s_aload 4 rfl rfl ?_
  refine s_getR 59 5 rfl rfl ?_
  refine s_iload 6 rfl rfl ?_
  refine s_iald (v := M1 59 (v1.toNat)) 7 rfl rfl g4.1 rfl ?_
  refine s_push 8 rfl ?_
  have j7 : ∀ (x6 : Int) (ex6 : x6 = (if M1 59 (v1.toNat) < 1000000 then M1 59 (v1.toNat) else (-1))), am_R K12_nearOf q 27 [aR 44, aI v1, aI v2] [aI x6] M1 := by
    intro x6 ex6
    exact s_iret 16 rfl (g4.2 x6 ex6)
  refine s_ic 9 rfl (fun h5 => ?_) (fun h5 => ?_)
  · refine s_aload 12 rfl rfl ?_
    refine s_getR 59 13 rfl rfl ?_
    refine s_iload 14 rfl rfl ?_
    refine s_iald (v := M1 59 (v1.toNat)) 15 rfl rfl g4.1 rfl ?_
    exact j7 _ (by rw [if_pos h5])
  · refine s_push 10 rfl ?_
    refine s_goto 11 rfl ?_
    exact j7 _ (by rw [if_neg h5])
theorem e12_near {q : am_Q} {M : am_M} {v1 : Int} {v2 : Int} (h : S12_reads [aR 44] M (fun _ M1 => ((¬ (v1 < 0) ∧ ¬ (63 < v1)) ∧ ¬ ((M1 51) (v1.toNat) = 99) → (((¬ (v2 < 0) ∧ ¬ (63 < v2)) ∧ ¬ ((M1 51) (v2.toNat) = 99) → (S12_nearOf [aR 44, aI v1, aI v2] M1 (fun r8 M7 => ∃ x9 : Int, r8 = aI x9 ∧ (q (aI x9) M7)))) ∧ (¬ ((¬ (v2 < 0) ∧ ¬ (63 < v2)) ∧ ¬ ((M1 51) (v2.toNat) = 99)) → (q (aI (-2)) M1)))) ∧ (¬ ((¬ (v1 < 0) ∧ ¬ (63 < v1)) ∧ ¬ ((M1 51) (v1.toNat) = 99)) → (q (aI (-2)) M1)))) : S12_near [aR 44, aI v1, aI v2] M q := by
  refine am_S.intro rfl rfl ?_
  refine s_aload 0 rfl rfl ?_
  refine s_callv (o := 44) 1 rfl rfl rfl rfl rfl (am_S.mono h ?_)
  intro r2 M1 g4
  show am_R K12_near q 4 [aR 44, aI v1, aI v2] [] M1
  refine s_aload 2 rfl rfl ?_
  refine s_iload 3 rfl rfl ?_
  refine s_callv (o := 44) 4 rfl rfl rfl rfl rfl (ct_12_isPlace ?_)
  show am_R K12_near q 9 [aR 44, aI v1, aI v2] [aI (if (¬ (v1 < 0) ∧ ¬ (63 < v1)) ∧ ¬ ((M1 51) (v1.toNat) = 99) then 1 else 0)] M1
  refine s_ifeqB 5 rfl (fun h5 => ?_) (fun h5 => ?_)
  · refine s_push 15 rfl ?_
    exact s_iret 16 rfl (g4.2 h5)
  · refine s_aload 6 rfl rfl ?_
    refine s_iload 7 rfl rfl ?_
    refine s_callv (o := 44) 8 rfl rfl rfl rfl rfl (ct_12_isPlace ?_)
    show am_R K12_near q 17 [aR 44, aI v1, aI v2] [aI (if (¬ (v2 < 0) ∧ ¬ (63 < v2)) ∧ ¬ ((M1 51) (v2.toNat) = 99) then 1 else 0)] M1
    refine s_ifeqB 9 rfl (fun h6 => ?_) (fun h6 => ?_)
    · refine s_push 15 rfl ?_
      exact s_iret 16 rfl ((g4.1 h5).2 h6)
    · refine s_aload 10 rfl rfl ?_
      refine s_iload 11 rfl rfl ?_
      refine s_iload 12 rfl rfl ?_
      refine s_callv (o := 44) 13 rfl rfl rfl rfl rfl (am_S.mono ((g4.1 h5).1 h6) ?_)
      rintro r8 M7 ⟨x9, rfl, g10⟩
      show am_R K12_near q 26 [aR 44, aI v1, aI v2] [aI x9] M7
      refine s_goto 14 rfl ?_
      exact s_iret 16 rfl g10
theorem e12_easiestOf {q : am_Q} {M : am_M} {v1 : Int} {v2 : Int} {v3 : Int} (h : S12_findFar [aR 44, aI v2, aI 1000] M (fun _ M1 => (0 ≤ v1 ∧ v1 < 64) ∧ ((1000000 ≤ M1 59 (v1.toNat) → ((M1 59 (v1.toNat) < 1000000 → ((v3 = (-2) → (0 ≤ M1 59 (v1.toNat))) ∧ (¬ (v3 = (-2)) → (0 ≤ M1 59 (v1.toNat))))) ∧ (∀ x8 : Int, x8 = (if M1 59 (v1.toNat) < 1000000 then (if v3 = (-2) then (M1 59 (v1.toNat)) / 1000 else (M1 59 (v1.toNat)) % 1000) else (-1)) → (q (aI x8) M1)))) ∧ (¬ (1000000 ≤ M1 59 (v1.toNat)) → ((0 ≤ v3 → (am_R K12_easiestOf q 77 [aR 44, aJ, aI v2, aI v3, aI v1, aI (-1), aI 0, aJ] [] M1)) ∧ (¬ (0 ≤ v3) → ((M1 59 (v1.toNat) < 1000000 → ((v3 = (-2) → (0 ≤ M1 59 (v1.toNat))) ∧ (¬ (v3 = (-2)) → (0 ≤ M1 59 (v1.toNat))))) ∧ (∀ x12 : Int, x12 = (if M1 59 (v1.toNat) < 1000000 then (if v3 = (-2) then (M1 59 (v1.toNat)) / 1000 else (M1 59 (v1.toNat)) % 1000) else (-1)) → (q (aI x12) M1))))))))) : S12_easiestOf [aR 44, aI v1, aI v2, aI v3] M q := by
  refine am_S.intro rfl rfl ?_
  refine s_aload 0 rfl rfl ?_
  refine s_iload 1 rfl rfl ?_
  refine s_push 2 rfl ?_
  refine s_callv (o := 44) 3 rfl rfl rfl rfl rfl (am_S.mono h ?_)
  intro r2 M1 g4
  show am_R K12_easiestOf q 8 [aR 44, aI v1, aI v2, aI v3, aJ, aJ, aJ, aJ] [] M1
  refine s_aload 4 rfl rfl ?_
  refine s_getR 59 5 rfl rfl ?_
  refine s_iload 6 rfl rfl ?_
  refine s_iald (v := M1 59 (v1.toNat)) 7 rfl rfl g4.1 rfl ?_
  refine s_push 8 rfl ?_
  refine s_ic 9 rfl (fun h5 => ?_) (fun h5 => ?_)
  · refine s_aload 12 rfl rfl ?_
    refine s_getR 59 13 rfl rfl ?_
    refine s_iload 14 rfl rfl ?_
    refine s_iald (v := M1 59 (v1.toNat)) 15 rfl rfl g4.1 rfl ?_
    refine s_push 16 rfl ?_
    have j13 : ∀ (x8 : Int) (ex8 : x8 = (if M1 59 (v1.toNat) < 1000000 then (if v3 = (-2) then (M1 59 (v1.toNat)) / 1000 else (M1 59 (v1.toNat)) % 1000) else (-1))), am_R K12_easiestOf q 67 [aR 44, aI v1, aI v2, aI v3, aJ, aJ, aJ, aJ] [aI x8] M1 := by
      intro x8 ex8
      exact s_iret 36 rfl ((g4.2.1 h5).2 x8 ex8)
    refine s_ic 17 rfl (fun h6 => ?_) (fun h6 => ?_)
    · refine s_iload 20 rfl rfl ?_
      refine s_push 21 rfl ?_
      refine s_icne 22 rfl (fun h7 => ?_) (fun h7 => ?_)
      · refine s_aload 30 rfl rfl ?_
        refine s_getR 59 31 rfl rfl ?_
        refine s_iload 32 rfl rfl ?_
        refine s_iald (v := M1 59 (v1.toNat)) 33 rfl rfl g4.1 rfl ?_
        refine s_push 34 rfl ?_
        refine s_irem 35 rfl ⟨(((g4.2.1 h5).1 h6).2 h7), by decide⟩ ?_
        exact j13 _ (by rw [if_pos h6, if_neg h7])
      · refine s_aload 23 rfl rfl ?_
        refine s_getR 59 24 rfl rfl ?_
        refine s_iload 25 rfl rfl ?_
        refine s_iald (v := M1 59 (v1.toNat)) 26 rfl rfl g4.1 rfl ?_
        refine s_push 27 rfl ?_
        refine s_idiv 28 rfl ⟨(((g4.2.1 h5).1 h6).1 h7), by decide⟩ ?_
        refine s_goto 29 rfl ?_
        exact j13 _ (by rw [if_pos h6, if_pos h7])
    · refine s_push 18 rfl ?_
      refine s_goto 19 rfl ?_
      exact j13 _ (by rw [if_neg h6])
  · refine s_iload 10 rfl rfl ?_
    refine s_if 11 rfl (fun h9 => ?_) (fun h9 => ?_)
    · refine s_iload 37 rfl rfl ?_
      refine s_istore [aR 44, aI v1, aI v2, aI v3, aI v1, aJ, aJ, aJ] 38 rfl rfl ?_
      refine s_push 39 rfl ?_
      refine s_istore [aR 44, aI v1, aI v2, aI v3, aI v1, aI (-1), aJ, aJ] 40 rfl rfl ?_
      refine s_push 41 rfl ?_
      refine s_istore [aR 44, aI v1, aI v2, aI v3, aI v1, aI (-1), aI 0, aJ] 42 rfl rfl ?_
      exact am_R.jk (ls := [aR 44, aJ, aI v2, aI v3, aI v1, aI (-1), aI 0, aJ]) ⟨Or.inr rfl, Or.inl rfl, Or.inr rfl, Or.inr rfl, Or.inr rfl, Or.inr rfl, Or.inr rfl, Or.inr rfl, trivial⟩ ((g4.2.2 h5).1 h9)
    · refine s_aload 12 rfl rfl ?_
      refine s_getR 59 13 rfl rfl ?_
      refine s_iload 14 rfl rfl ?_
      refine s_iald (v := M1 59 (v1.toNat)) 15 rfl rfl g4.1 rfl ?_
      refine s_push 16 rfl ?_
      have j14 : ∀ (x12 : Int) (ex12 : x12 = (if M1 59 (v1.toNat) < 1000000 then (if v3 = (-2) then (M1 59 (v1.toNat)) / 1000 else (M1 59 (v1.toNat)) % 1000) else (-1))), am_R K12_easiestOf q 67 [aR 44, aI v1, aI v2, aI v3, aJ, aJ, aJ, aJ] [aI x12] M1 := by
        intro x12 ex12
        exact s_iret 36 rfl (((g4.2.2 h5).2 h9).2 x12 ex12)
      refine s_ic 17 rfl (fun h10 => ?_) (fun h10 => ?_)
      · refine s_iload 20 rfl rfl ?_
        refine s_push 21 rfl ?_
        refine s_icne 22 rfl (fun h11 => ?_) (fun h11 => ?_)
        · refine s_aload 30 rfl rfl ?_
          refine s_getR 59 31 rfl rfl ?_
          refine s_iload 32 rfl rfl ?_
          refine s_iald (v := M1 59 (v1.toNat)) 33 rfl rfl g4.1 rfl ?_
          refine s_push 34 rfl ?_
          refine s_irem 35 rfl ⟨((((g4.2.2 h5).2 h9).1 h10).2 h11), by decide⟩ ?_
          exact j14 _ (by rw [if_pos h10, if_neg h11])
        · refine s_aload 23 rfl rfl ?_
          refine s_getR 59 24 rfl rfl ?_
          refine s_iload 25 rfl rfl ?_
          refine s_iald (v := M1 59 (v1.toNat)) 26 rfl rfl g4.1 rfl ?_
          refine s_push 27 rfl ?_
          refine s_idiv 28 rfl ⟨((((g4.2.2 h5).2 h9).1 h10).1 h11), by decide⟩ ?_
          refine s_goto 29 rfl ?_
          exact j14 _ (by rw [if_pos h10, if_pos h11])
      · refine s_push 18 rfl ?_
        refine s_goto 19 rfl ?_
        exact j14 _ (by rw [if_neg h10])
theorem g12_easiestOf_77 {q : am_Q} {M : am_M} {v2 v3 v4 v5 v6 : Int} (h : (v3 < v6 → (q (aI v5) M)) ∧ (¬ (v3 < v6) → ((v4 = v2 → (q (aI (-1)) M)) ∧ (¬ (v4 = v2) → ((ob_12_beside (M 51) v4 0) ∧ (∀ x3 : Int, x3 = f_12_beside (M 51) v4 0 → (am_R K12_easiestOf q 103 [aR 44, aJ, aI v2, aI v3, aI v4, aI 0, aI v6, aI x3] [] M))))))) : am_R K12_easiestOf q 77 [aR 44, aJ, aI v2, aI v3, aI v4, aI v5, aI v6, aJ] [] M := by
  refine s_iload 43 rfl rfl ?_
  refine s_iload 44 rfl rfl ?_
  refine s_ic 45 rfl (fun h1 => ?_) (fun h1 => ?_)
  · refine s_iload 90 rfl rfl ?_
    exact s_iret 91 rfl (h.1 h1)
  · refine s_iload 46 rfl rfl ?_
    refine s_iload 47 rfl rfl ?_
    refine s_icne 48 rfl (fun h2 => ?_) (fun h2 => ?_)
    · refine s_push 51 rfl ?_
      refine s_istore [aR 44, aJ, aI v2, aI v3, aI v4, aI 0, aI v6, aJ] 52 rfl rfl ?_
      refine s_aload 53 rfl rfl ?_
      refine s_iload 54 rfl rfl ?_
      refine s_push 55 rfl ?_
      refine s_callv (o := 44) 56 rfl rfl rfl rfl rfl (ct_12_beside ((h.2 h1).2 h2).1 ?_)
      show am_R K12_easiestOf q 101 [aR 44, aJ, aI v2, aI v3, aI v4, aI 0, aI v6, aJ] [aI (f_12_beside (M 51) v4 0)] M
      refine s_nameI (fun x3 ex3 => ?_)
      refine s_istore [aR 44, aJ, aI v2, aI v3, aI v4, aI 0, aI v6, aI x3] 57 rfl rfl ?_
      exact (((h.2 h1).2 h2).2 x3 ex3)
    · refine s_push 49 rfl ?_
      exact s_iret 50 rfl ((h.2 h1).1 h2)
theorem g12_easiestOf_103 {q : am_Q} {M : am_M} {v2 v3 v4 v5 v6 v7 : Int} (h : (v7 = (-1) → ((-2147483648 ≤ v5 + 1 ∧ v5 + 1 < 2147483648) ∧ ((ob_12_beside (M 51) v4 (v5 + 1)) ∧ (∀ x2 : Int, x2 = f_12_beside (M 51) v4 (v5 + 1) → (am_R K12_easiestOf q 103 [aR 44, aJ, aI v2, aI v3, aI v4, aI (v5 + 1), aI v6, aI x2] [] M))))) ∧ (¬ (v7 = (-1)) → ((0 ≤ v4 ∧ v4 < 64) ∧ ((0 ≤ v7 ∧ v7 < 64) ∧ ((-2147483648 ≤ 1000 * (M 51 (v7.toNat)) ∧ 1000 * (M 51 (v7.toNat)) < 2147483648) ∧ ((-2147483648 ≤ (M 59 (v7.toNat)) + (1000 * (M 51 (v7.toNat))) ∧ (M 59 (v7.toNat)) + (1000 * (M 51 (v7.toNat))) < 2147483648) ∧ ((-2147483648 ≤ ((M 59 (v7.toNat)) + (1000 * (M 51 (v7.toNat)))) + 1 ∧ ((M 59 (v7.toNat)) + (1000 * (M 51 (v7.toNat)))) + 1 < 2147483648) ∧ ((M 59 (v4.toNat) = ((M 59 (v7.toNat)) + (1000 * (M 51 (v7.toNat)))) + 1 → ((-2147483648 ≤ v6 + 1 ∧ v6 + 1 < 2147483648) ∧ (am_R K12_easiestOf q 77 [aR 44, aJ, aI v2, aI v3, aI v7, aI v5, aI (v6 + 1), aJ] [] M))) ∧ (¬ (M 59 (v4.toNat) = ((M 59 (v7.toNat)) + (1000 * (M 51 (v7.toNat)))) + 1) → ((-2147483648 ≤ v5 + 1 ∧ v5 + 1 < 2147483648) ∧ ((ob_12_beside (M 51) v4 (v5 + 1)) ∧ (∀ x4 : Int, x4 = f_12_beside (M 51) v4 (v5 + 1) → (am_R K12_easiestOf q 103 [aR 44, aJ, aI v2, aI v3, aI v4, aI (v5 + 1), aI v6, aI x4] [] M))))))))))))) : am_R K12_easiestOf q 103 [aR 44, aJ, aI v2, aI v3, aI v4, aI v5, aI v6, aI v7] [] M := by
  refine s_iload 58 rfl rfl ?_
  refine s_push 59 rfl ?_
  refine s_ic 60 rfl (fun h1 => ?_) (fun h1 => ?_)
  · refine s_iinc [aR 44, aJ, aI v2, aI v3, aI v4, aI (v5 + 1), aI v6, aI v7] 79 rfl rfl (h.1 h1).1 rfl ?_
    refine s_aload 80 rfl rfl ?_
    refine s_iload 81 rfl rfl ?_
    refine s_iload 82 rfl rfl ?_
    refine s_callv (o := 44) 83 rfl rfl rfl rfl rfl (ct_12_beside (h.1 h1).2.1 ?_)
    show am_R K12_easiestOf q 151 [aR 44, aJ, aI v2, aI v3, aI v4, aI (v5 + 1), aI v6, aI v7] [aI (f_12_beside (M 51) v4 (v5 + 1))] M
    refine s_nameI (fun x2 ex2 => ?_)
    refine s_istore [aR 44, aJ, aI v2, aI v3, aI v4, aI (v5 + 1), aI v6, aI x2] 84 rfl rfl ?_
    refine s_goto 85 rfl ?_
    exact ((h.1 h1).2.2 x2 ex2)
  · refine s_aload 61 rfl rfl ?_
    refine s_getR 59 62 rfl rfl ?_
    refine s_iload 63 rfl rfl ?_
    refine s_iald (v := M 59 (v4.toNat)) 64 rfl rfl (h.2 h1).1 rfl ?_
    refine s_aload 65 rfl rfl ?_
    refine s_getR 59 66 rfl rfl ?_
    refine s_iload 67 rfl rfl ?_
    refine s_iald (v := M 59 (v7.toNat)) 68 rfl rfl (h.2 h1).2.1 rfl ?_
    refine s_push 69 rfl ?_
    refine s_aload 70 rfl rfl ?_
    refine s_getR 51 71 rfl rfl ?_
    refine s_iload 72 rfl rfl ?_
    refine s_iald (v := M 51 (v7.toNat)) 73 rfl rfl (h.2 h1).2.1 rfl ?_
    refine s_binX (v := 1000 * (M 51 (v7.toNat))) 74 rfl (h.2 h1).2.2.1 rfl ?_
    refine s_binX (v := (M 59 (v7.toNat)) + (1000 * (M 51 (v7.toNat)))) 75 rfl (h.2 h1).2.2.2.1 rfl ?_
    refine s_push 76 rfl ?_
    refine s_binX (v := ((M 59 (v7.toNat)) + (1000 * (M 51 (v7.toNat)))) + 1) 77 rfl (h.2 h1).2.2.2.2.1 rfl ?_
    refine s_ic 78 rfl (fun h3 => ?_) (fun h3 => ?_)
    · refine s_iload 86 rfl rfl ?_
      refine s_istore [aR 44, aJ, aI v2, aI v3, aI v7, aI v5, aI v6, aI v7] 87 rfl rfl ?_
      refine s_iinc [aR 44, aJ, aI v2, aI v3, aI v7, aI v5, aI (v6 + 1), aI v7] 88 rfl rfl ((h.2 h1).2.2.2.2.2.1 h3).1 rfl ?_
      refine s_goto 89 rfl ?_
      exact am_R.jk (ls := [aR 44, aJ, aI v2, aI v3, aI v7, aI v5, aI (v6 + 1), aJ]) ⟨Or.inr rfl, Or.inr rfl, Or.inr rfl, Or.inr rfl, Or.inr rfl, Or.inr rfl, Or.inr rfl, Or.inl rfl, trivial⟩ ((h.2 h1).2.2.2.2.2.1 h3).2
    · refine s_iinc [aR 44, aJ, aI v2, aI v3, aI v4, aI (v5 + 1), aI v6, aI v7] 79 rfl rfl ((h.2 h1).2.2.2.2.2.2 h3).1 rfl ?_
      refine s_aload 80 rfl rfl ?_
      refine s_iload 81 rfl rfl ?_
      refine s_iload 82 rfl rfl ?_
      refine s_callv (o := 44) 83 rfl rfl rfl rfl rfl (ct_12_beside ((h.2 h1).2.2.2.2.2.2 h3).2.1 ?_)
      show am_R K12_easiestOf q 151 [aR 44, aJ, aI v2, aI v3, aI v4, aI (v5 + 1), aI v6, aI v7] [aI (f_12_beside (M 51) v4 (v5 + 1))] M
      refine s_nameI (fun x4 ex4 => ?_)
      refine s_istore [aR 44, aJ, aI v2, aI v3, aI v4, aI (v5 + 1), aI v6, aI x4] 84 rfl rfl ?_
      refine s_goto 85 rfl ?_
      exact (((h.2 h1).2.2.2.2.2.2 h3).2.2 x4 ex4)
theorem e12_easiest {q : am_Q} {M : am_M} {v1 : Int} {v2 : Int} {v3 : Int} (h : S12_reads [aR 44] M (fun _ M1 => ((¬ (v1 < 0) ∧ ¬ (63 < v1)) ∧ ¬ ((M1 51) (v1.toNat) = 99) → (((¬ (v2 < 0) ∧ ¬ (63 < v2)) ∧ ¬ ((M1 51) (v2.toNat) = 99) → ((v3 < (-2) → (q (aI (-2)) M1)) ∧ (¬ (v3 < (-2)) → (S12_easiestOf [aR 44, aI v1, aI v2, aI v3] M1 (fun r9 M8 => ∃ x10 : Int, r9 = aI x10 ∧ (q (aI x10) M8)))))) ∧ (¬ ((¬ (v2 < 0) ∧ ¬ (63 < v2)) ∧ ¬ ((M1 51) (v2.toNat) = 99)) → (q (aI (-2)) M1)))) ∧ (¬ ((¬ (v1 < 0) ∧ ¬ (63 < v1)) ∧ ¬ ((M1 51) (v1.toNat) = 99)) → (q (aI (-2)) M1)))) : S12_easiest [aR 44, aI v1, aI v2, aI v3] M q := by
  refine am_S.intro rfl rfl ?_
  refine s_aload 0 rfl rfl ?_
  refine s_callv (o := 44) 1 rfl rfl rfl rfl rfl (am_S.mono h ?_)
  intro r2 M1 g4
  show am_R K12_easiest q 4 [aR 44, aI v1, aI v2, aI v3] [] M1
  refine s_aload 2 rfl rfl ?_
  refine s_iload 3 rfl rfl ?_
  refine s_callv (o := 44) 4 rfl rfl rfl rfl rfl (ct_12_isPlace ?_)
  show am_R K12_easiest q 9 [aR 44, aI v1, aI v2, aI v3] [aI (if (¬ (v1 < 0) ∧ ¬ (63 < v1)) ∧ ¬ ((M1 51) (v1.toNat) = 99) then 1 else 0)] M1
  refine s_ifeqB 5 rfl (fun h5 => ?_) (fun h5 => ?_)
  · refine s_push 19 rfl ?_
    exact s_iret 20 rfl (g4.2 h5)
  · refine s_aload 6 rfl rfl ?_
    refine s_iload 7 rfl rfl ?_
    refine s_callv (o := 44) 8 rfl rfl rfl rfl rfl (ct_12_isPlace ?_)
    show am_R K12_easiest q 17 [aR 44, aI v1, aI v2, aI v3] [aI (if (¬ (v2 < 0) ∧ ¬ (63 < v2)) ∧ ¬ ((M1 51) (v2.toNat) = 99) then 1 else 0)] M1
    refine s_ifeqB 9 rfl (fun h6 => ?_) (fun h6 => ?_)
    · refine s_push 19 rfl ?_
      exact s_iret 20 rfl ((g4.1 h5).2 h6)
    · refine s_iload 10 rfl rfl ?_
      refine s_push 11 rfl ?_
      refine s_ic 12 rfl (fun h7 => ?_) (fun h7 => ?_)
      · refine s_push 19 rfl ?_
        exact s_iret 20 rfl (((g4.1 h5).1 h6).1 h7)
      · refine s_aload 13 rfl rfl ?_
        refine s_iload 14 rfl rfl ?_
        refine s_iload 15 rfl rfl ?_
        refine s_iload 16 rfl rfl ?_
        refine s_callv (o := 44) 17 rfl rfl rfl rfl rfl (am_S.mono (((g4.1 h5).1 h6).2 h7) ?_)
        rintro r9 M8 ⟨x10, rfl, g11⟩
        show am_R K12_easiest q 33 [aR 44, aI v1, aI v2, aI v3] [aI x10] M8
        refine s_goto 18 rfl ?_
        exact s_iret 20 rfl g11
theorem e12_holdsOf {q : am_Q} {M : am_M} {v1 : Int} {v2 : Int} {v3 : Int} {v4 : Int} (h : am_R K12_holdsOf q 9 [aR 44, aI v1, aI v2, aI v3, aI v4, aL 1, aJ, aL 1, aJ, aI v2] [] M) : S12_holdsOf [aR 44, aI v1, aI v2, aI v3, aI v4] M q := by
  refine am_S.intro rfl rfl ?_
  refine s_push 0 rfl ?_
  refine s_lstore [aR 44, aI v1, aI v2, aI v3, aI v4, aL 1, aJ, aJ, aJ, aJ] 1 rfl rfl ?_
  refine s_push 2 rfl ?_
  refine s_lstore [aR 44, aI v1, aI v2, aI v3, aI v4, aL 1, aJ, aL 1, aJ, aJ] 3 rfl rfl ?_
  refine s_iload 4 rfl rfl ?_
  refine s_istore [aR 44, aI v1, aI v2, aI v3, aI v4, aL 1, aJ, aL 1, aJ, aI v2] 5 rfl rfl ?_
  exact h
theorem g12_holdsOf_9 {q : am_Q} {M : am_M} {v1 v2 v3 v4 v5 v7 v9 : Int} (h : (-2147483648 ≤ v2 + v3 ∧ v2 + v3 < 2147483648) ∧ ((v2 + v3 ≤ v9 → (S12_part [aL v5, aL v7, aI v4] M (fun r3 M2 => ∃ x4 : Int, r3 = aL x4 ∧ (q (aL x4) M2)))) ∧ (¬ (v2 + v3 ≤ v9) → ((-2147483648 ≤ v9 + 1 ∧ v9 + 1 < 2147483648) ∧ ((0 ≤ v9 + 1 ∧ v9 + 1 < 41) ∧ ((0 ≤ M 58 ((v9 + 1).toNat) ∧ M 58 ((v9 + 1).toNat) < 64) ∧ ((ob_12_gripAt (M 55) (M 52) v1) ∧ ((-2147483648 ≤ 16 - (f_12_gripAt (M 55) (M 52) v1) ∧ 16 - (f_12_gripAt (M 55) (M 52) v1) < 2147483648) ∧ ((-2147483648 ≤ (M 51 ((M 58 ((v9 + 1).toNat)).toNat)) * (16 - (f_12_gripAt (M 55) (M 52) v1)) ∧ (M 51 ((M 58 ((v9 + 1).toNat)).toNat)) * (16 - (f_12_gripAt (M 55) (M 52) v1)) < 2147483648) ∧ ((-2147483648 ≤ 256 - ((M 51 ((M 58 ((v9 + 1).toNat)).toNat)) * (16 - (f_12_gripAt (M 55) (M 52) v1))) ∧ 256 - ((M 51 ((M 58 ((v9 + 1).toNat)).toNat)) * (16 - (f_12_gripAt (M 55) (M 52) v1))) < 2147483648) ∧ ((-9223372036854775808 ≤ v5 * (256 - ((M 51 ((M 58 ((v9 + 1).toNat)).toNat)) * (16 - (f_12_gripAt (M 55) (M 52) v1)))) ∧ v5 * (256 - ((M 51 ((M 58 ((v9 + 1).toNat)).toNat)) * (16 - (f_12_gripAt (M 55) (M 52) v1)))) < 9223372036854775808) ∧ (∀ x6 : Int, x6 = v5 * (256 - ((M 51 ((M 58 ((v9 + 1).toNat)).toNat)) * (16 - (f_12_gripAt (M 55) (M 52) v1)))) → ((-9223372036854775808 ≤ v7 * 256 ∧ v7 * 256 < 9223372036854775808) ∧ (∀ x7 : Int, x7 = v7 * 256 → (am_R K12_holdsOf q 9 [aR 44, aI v1, aI v2, aI v3, aI v4, aL x6, aJ, aL x7, aJ, aI (v9 + 1)] [] M))))))))))))))) : am_R K12_holdsOf q 9 [aR 44, aI v1, aI v2, aI v3, aI v4, aL v5, aJ, aL v7, aJ, aI v9] [] M := by
  refine s_iload 6 rfl rfl ?_
  refine s_iload 7 rfl rfl ?_
  refine s_iload 8 rfl rfl ?_
  refine s_binX (v := v2 + v3) 9 rfl h.1 rfl ?_
  refine s_ic 10 rfl (fun h1 => ?_) (fun h1 => ?_)
  · refine s_lload 38 rfl rfl ?_
    refine s_lload 39 rfl rfl ?_
    refine s_iload 40 rfl rfl ?_
    refine s_call 41 rfl rfl rfl rfl rfl (am_S.mono (h.2.1 h1) ?_)
    rintro r3 M2 ⟨x4, rfl, g5⟩
    show am_R K12_holdsOf q 73 [aR 44, aI v1, aI v2, aI v3, aI v4, aL v5, aJ, aL v7, aJ, aI v9] [aL x4] M2
    exact s_lret 42 rfl g5
  · refine s_lload 11 rfl rfl ?_
    refine s_push 12 rfl ?_
    refine s_aload 13 rfl rfl ?_
    refine s_getR 51 14 rfl rfl ?_
    refine s_aload 15 rfl rfl ?_
    refine s_getR 58 16 rfl rfl ?_
    refine s_iload 17 rfl rfl ?_
    refine s_push 18 rfl ?_
    refine s_binX (v := v9 + 1) 19 rfl (h.2.2 h1).1 rfl ?_
    refine s_iald (v := M 58 ((v9 + 1).toNat)) 20 rfl rfl (h.2.2 h1).2.1 rfl ?_
    refine s_iald (v := M 51 ((M 58 ((v9 + 1).toNat)).toNat)) 21 rfl rfl (h.2.2 h1).2.2.1 rfl ?_
    refine s_push 22 rfl ?_
    refine s_aload 23 rfl rfl ?_
    refine s_iload 24 rfl rfl ?_
    refine s_callv (o := 44) 25 rfl rfl rfl rfl rfl (ct_12_gripAt (h.2.2 h1).2.2.2.1 ?_)
    show am_R K12_holdsOf q 43 [aR 44, aI v1, aI v2, aI v3, aI v4, aL v5, aJ, aL v7, aJ, aI v9] [aI (f_12_gripAt (M 55) (M 52) v1), aI 16, aI (M 51 ((M 58 ((v9 + 1).toNat)).toNat)), aI 256, aL v5] M
    refine s_binX (v := 16 - (f_12_gripAt (M 55) (M 52) v1)) 26 rfl (h.2.2 h1).2.2.2.2.1 rfl ?_
    refine s_binX (v := (M 51 ((M 58 ((v9 + 1).toNat)).toNat)) * (16 - (f_12_gripAt (M 55) (M 52) v1))) 27 rfl (h.2.2 h1).2.2.2.2.2.1 rfl ?_
    refine s_binX (v := 256 - ((M 51 ((M 58 ((v9 + 1).toNat)).toNat)) * (16 - (f_12_gripAt (M 55) (M 52) v1)))) 28 rfl (h.2.2 h1).2.2.2.2.2.2.1 rfl ?_
    refine s_i2l 29 rfl ?_
    refine s_binLX (v := v5 * (256 - ((M 51 ((M 58 ((v9 + 1).toNat)).toNat)) * (16 - (f_12_gripAt (M 55) (M 52) v1))))) 30 rfl (h.2.2 h1).2.2.2.2.2.2.2.1 rfl ?_
    refine s_nameL (fun x6 ex6 => ?_)
    refine s_lstore [aR 44, aI v1, aI v2, aI v3, aI v4, aL x6, aJ, aL v7, aJ, aI v9] 31 rfl rfl ?_
    refine s_lload 32 rfl rfl ?_
    refine s_push 33 rfl ?_
    refine s_binLX (v := v7 * 256) 34 rfl ((h.2.2 h1).2.2.2.2.2.2.2.2 x6 ex6).1 rfl ?_
    refine s_nameL (fun x7 ex7 => ?_)
    refine s_lstore [aR 44, aI v1, aI v2, aI v3, aI v4, aL x6, aJ, aL x7, aJ, aI v9] 35 rfl rfl ?_
    refine s_iinc [aR 44, aI v1, aI v2, aI v3, aI v4, aL x6, aJ, aL x7, aJ, aI (v9 + 1)] 36 rfl rfl (h.2.2 h1).1 rfl ?_
    refine s_goto 37 rfl ?_
    exact (((h.2.2 h1).2.2.2.2.2.2.2.2 x6 ex6).2 x7 ex7)
theorem e12_holds {q : am_Q} {M : am_M} {v1 : Int} {v2 : Int} {v3 : Int} {v4 : Int} (h : S12_reads [aR 44] M (fun _ M1 => (-2147483648 ≤ (M1 44 9) - 2 ∧ (M1 44 9) - 2 < 2147483648) ∧ ((¬ (v1 < 0) ∧ ¬ (((M1 44 9) - 2) < v1) → (¬ (v2 < 0) → (¬ (v3 < 0) ∧ ¬ (6 < v3) → (-9223372036854775808 ≤ v2 + v3 ∧ v2 + v3 < 9223372036854775808)))) ∧ (∀ x9 : Int, x9 = (if (¬ (v1 < 0) ∧ ¬ (((M1 44 9) - 2) < v1)) ∧ (¬ (v2 < 0) ∧ ((¬ (v3 < 0) ∧ ¬ (6 < v3)) ∧ ¬ ((M1 44 17) < (v2 + v3)))) then 1 else 0) → (((¬ (v1 < 0) ∧ ¬ (((M1 44 9) - 2) < v1)) ∧ (¬ (v2 < 0) ∧ ((¬ (v3 < 0) ∧ ¬ (6 < v3)) ∧ ¬ ((M1 44 17) < (v2 + v3)))) → ((¬ (v4 < 0) ∧ ¬ (1 < v4) → (S12_holdsOf [aR 44, aI v1, aI v2, aI v3, aI v4] M1 (fun r13 M12 => ∃ x14 : Int, r13 = aL x14 ∧ (q (aL x14) M12)))) ∧ (¬ (¬ (v4 < 0) ∧ ¬ (1 < v4)) → (q (aL (f_12_no (-2))) M1)))) ∧ (¬ ((¬ (v1 < 0) ∧ ¬ (((M1 44 9) - 2) < v1)) ∧ (¬ (v2 < 0) ∧ ((¬ (v3 < 0) ∧ ¬ (6 < v3)) ∧ ¬ ((M1 44 17) < (v2 + v3))))) → (q (aL (f_12_no (-2))) M1))))))) : S12_holds [aR 44, aI v1, aI v2, aI v3, aI v4] M q := by
  refine am_S.intro rfl rfl ?_
  refine s_aload 0 rfl rfl ?_
  refine s_callv (o := 44) 1 rfl rfl rfl rfl rfl (am_S.mono h ?_)
  intro r2 M1 g4
  show am_R K12_holds q 4 [aR 44, aI v1, aI v2, aI v3, aI v4, aJ] [] M1
  refine s_iload 2 rfl rfl ?_
  refine s_i2l 3 rfl ?_
  refine s_push 4 rfl ?_
  refine s_aload 5 rfl rfl ?_
  refine s_getI (v := M1 44 9) 6 rfl rfl rfl ?_
  refine s_push 7 rfl ?_
  refine s_binX (v := (M1 44 9) - 2) 8 rfl g4.1 rfl ?_
  refine s_i2l 9 rfl ?_
  refine s_call 10 rfl rfl rfl rfl rfl (ct_12_in ?_)
  show am_R K12_holds q 17 [aR 44, aI v1, aI v2, aI v3, aI v4, aJ] [aI (if ¬ (v1 < 0) ∧ ¬ (((M1 44 9) - 2) < v1) then 1 else 0)] M1
  have j16 : ∀ (x9 : Int) (ex9 : x9 = (if (¬ (v1 < 0) ∧ ¬ (((M1 44 9) - 2) < v1)) ∧ (¬ (v2 < 0) ∧ ((¬ (v3 < 0) ∧ ¬ (6 < v3)) ∧ ¬ ((M1 44 17) < (v2 + v3)))) then 1 else 0)), am_R K12_holds q 55 [aR 44, aI v1, aI v2, aI v3, aI v4, aJ] [aI x9] M1 := by
    intro x9 ex9
    refine s_istore [aR 44, aI v1, aI v2, aI v3, aI v4, aI x9] 33 rfl rfl ?_
    refine s_iload 34 rfl rfl ?_
    refine s_ifeqV (c := (¬ (v1 < 0) ∧ ¬ (((M1 44 9) - 2) < v1)) ∧ (¬ (v2 < 0) ∧ ((¬ (v3 < 0) ∧ ¬ (6 < v3)) ∧ ¬ ((M1 44 17) < (v2 + v3))))) 35 rfl ex9 (fun h10 => ?_) (fun h10 => ?_)
    · refine s_push 46 rfl ?_
      refine s_call 47 rfl rfl rfl rfl rfl (ct_12_no ?_)
      show am_R K12_holds q 87 [aR 44, aI v1, aI v2, aI v3, aI v4, aI x9] [aL (f_12_no (-2))] M1
      exact s_lret 48 rfl ((g4.2.2 x9 ex9).2 h10)
    · refine s_iload 36 rfl rfl ?_
      refine s_call 37 rfl rfl rfl rfl rfl (ct_12_isTwo ?_)
      show am_R K12_holds q 67 [aR 44, aI v1, aI v2, aI v3, aI v4, aI x9] [aI (if ¬ (v4 < 0) ∧ ¬ (1 < v4) then 1 else 0)] M1
      refine s_ifeqB 38 rfl (fun h11 => ?_) (fun h11 => ?_)
      · refine s_push 46 rfl ?_
        refine s_call 47 rfl rfl rfl rfl rfl (ct_12_no ?_)
        show am_R K12_holds q 87 [aR 44, aI v1, aI v2, aI v3, aI v4, aI x9] [aL (f_12_no (-2))] M1
        exact s_lret 48 rfl (((g4.2.2 x9 ex9).1 h10).2 h11)
      · refine s_aload 39 rfl rfl ?_
        refine s_iload 40 rfl rfl ?_
        refine s_iload 41 rfl rfl ?_
        refine s_iload 42 rfl rfl ?_
        refine s_iload 43 rfl rfl ?_
        refine s_callv (o := 44) 44 rfl rfl rfl rfl rfl (am_S.mono (((g4.2.2 x9 ex9).1 h10).1 h11) ?_)
        rintro r13 M12 ⟨x14, rfl, g15⟩
        show am_R K12_holds q 79 [aR 44, aI v1, aI v2, aI v3, aI v4, aI x9] [aL x14] M12
        refine s_goto 45 rfl ?_
        exact s_lret 48 rfl g15
  refine s_ifeqB 11 rfl (fun h5 => ?_) (fun h5 => ?_)
  · refine s_push 32 rfl ?_
    exact j16 _ (if_neg (by omega)).symm
  · refine s_iload 12 rfl rfl ?_
    refine s_if 13 rfl (fun h6 => ?_) (fun h6 => ?_)
    · refine s_push 32 rfl ?_
      exact j16 _ (if_neg (by omega)).symm
    · refine s_iload 14 rfl rfl ?_
      refine s_i2l 15 rfl ?_
      refine s_push 16 rfl ?_
      refine s_push 17 rfl ?_
      refine s_call 18 rfl rfl rfl rfl rfl (ct_12_in ?_)
      show am_R K12_holds q 33 [aR 44, aI v1, aI v2, aI v3, aI v4, aJ] [aI (if ¬ (v3 < 0) ∧ ¬ (6 < v3) then 1 else 0)] M1
      refine s_ifeqB 19 rfl (fun h7 => ?_) (fun h7 => ?_)
      · refine s_push 32 rfl ?_
        exact j16 _ (if_neg (by omega)).symm
      · refine s_iload 20 rfl rfl ?_
        refine s_i2l 21 rfl ?_
        refine s_iload 22 rfl rfl ?_
        refine s_i2l 23 rfl ?_
        refine s_binLX (v := v2 + v3) 24 rfl (((g4.2.1 h5) h6) h7) rfl ?_
        refine s_aload 25 rfl rfl ?_
        refine s_getI (v := M1 44 17) 26 rfl rfl rfl ?_
        refine s_i2l 27 rfl ?_
        refine s_lcmp 28 rfl ?_
        refine s_ifX (d := (M1 44 17) < (v2 + v3)) 29 rfl (cq_gt _ _) (fun h8 => ?_) (fun h8 => ?_)
        · refine s_push 32 rfl ?_
          exact j16 _ (if_neg (by omega)).symm
        · refine s_push 30 rfl ?_
          refine s_goto 31 rfl ?_
          exact j16 _ (if_pos (by omega)).symm
theorem e12_lot {q : am_Q} {M : am_M}  (h : ∀ x1 : Int, x1 = w32 ((w32 (1103515245 * (M 44 22))) + 12345) → ((0 ≤ am_ushr x1 16) ∧ (q (aI ((am_ushr x1 16) % 16)) (am_up M 44 22 x1)))) : S12_lot [aR 44] M q := by
  refine am_S.intro rfl rfl ?_
  refine s_aload 0 rfl rfl ?_
  refine s_push 1 rfl ?_
  refine s_aload 2 rfl rfl ?_
  refine s_getI (v := M 44 22) 3 rfl rfl rfl ?_
  refine s_bin 4 rfl ?_
  refine s_push 5 rfl ?_
  refine s_bin 6 rfl ?_
  refine s_nameI (fun x1 ex1 => ?_)
  refine s_putI 7 rfl rfl ?_
  refine s_aload 8 rfl rfl ?_
  refine s_getI (v := x1) 9 rfl rfl (by simp [am_up, am_set]) ?_
  refine s_push 10 rfl ?_
  refine s_sh 11 rfl (by decide) ?_
  refine s_push 12 rfl ?_
  refine s_irem 13 rfl ⟨(h x1 ex1).1, by decide⟩ ?_
  exact s_iret 14 rfl (h x1 ex1).2
theorem e12_tears {q : am_Q} {M : am_M}  (h : am_R K12_tears q 14 [aR 44, aI 0, aI 0, aJ] [] (am_up (am_up M 44 23 (-1)) 44 24 (-1))) : S12_tears [aR 44] M q := by
  refine am_S.intro rfl rfl ?_
  refine s_push 0 rfl ?_
  refine s_istore [aR 44, aI 0, aJ, aJ] 1 rfl rfl ?_
  refine s_aload 2 rfl rfl ?_
  refine s_push 3 rfl ?_
  refine s_putI 4 rfl rfl ?_
  refine s_aload 5 rfl rfl ?_
  refine s_push 6 rfl ?_
  refine s_putI 7 rfl rfl ?_
  refine s_push 8 rfl ?_
  refine s_istore [aR 44, aI 0, aI 0, aJ] 9 rfl rfl ?_
  exact h
theorem g12_tears_14 {q : am_Q} {M : am_M} {v1 v2 : Int} (h : (M 44 17 ≤ v2 → (S12_ones [aI v1] M (fun r3 M2 => ∃ x4 : Int, r3 = aI x4 ∧ (q aJ (am_up M2 44 25 x4))))) ∧ (¬ (M 44 17 ≤ v2) → (am_R K12_tears q 24 [aR 44, aI v1, aI v2, aI 0] [] M))) : am_R K12_tears q 14 [aR 44, aI v1, aI v2, aJ] [] M := by
  refine s_iload 10 rfl rfl ?_
  refine s_aload 11 rfl rfl ?_
  refine s_getI (v := M 44 17) 12 rfl rfl rfl ?_
  refine s_ic 13 rfl (fun h1 => ?_) (fun h1 => ?_)
  · refine s_aload 74 rfl rfl ?_
    refine s_iload 75 rfl rfl ?_
    refine s_call 76 rfl rfl rfl rfl rfl (am_S.mono (h.1 h1) ?_)
    rintro r3 M2 ⟨x4, rfl, g5⟩
    show am_R K12_tears q 137 [aR 44, aI v1, aI v2, aJ] [aI x4, aR 44] M2
    refine s_putI 77 rfl rfl ?_
    exact s_vret 78 rfl g5
  · refine s_push 14 rfl ?_
    refine s_istore [aR 44, aI v1, aI v2, aI 0] 15 rfl rfl ?_
    exact (h.2 h1)
theorem g12_tears_24 {q : am_Q} {M : am_M} {v1 v2 v3 : Int} (h : (-2147483648 ≤ v3 + 1 ∧ v3 + 1 < 2147483648) ∧ ((M 44 9 ≤ v3 + 1 → ((-2147483648 ≤ v2 + 1 ∧ v2 + 1 < 2147483648) ∧ (am_R K12_tears q 14 [aR 44, aI v1, aI (v2 + 1), aJ] [] M))) ∧ (¬ (M 44 9 ≤ v3 + 1) → ((ob_12_isIn v1 v3) ∧ ((am_and (am_shr v1 v3) 1 = 1 → (am_R K12_tears q 24 [aR 44, aI v1, aI v2, aI (v3 + 1)] [] M)) ∧ (¬ (am_and (am_shr v1 v3) 1 = 1) → (S12_lot [aR 44] M (fun r4 M3 => ∃ x5 : Int, r4 = aI x5 ∧ ((-2147483648 ≤ v2 + 1 ∧ v2 + 1 < 2147483648) ∧ ((0 ≤ v2 + 1 ∧ v2 + 1 < 41) ∧ ((0 ≤ M3 58 ((v2 + 1).toNat) ∧ M3 58 ((v2 + 1).toNat) < 64) ∧ ((M3 51 ((M3 58 ((v2 + 1).toNat)).toNat) ≤ x5 → (am_R K12_tears q 24 [aR 44, aI v1, aI v2, aI (v3 + 1)] [] M3)) ∧ (¬ (M3 51 ((M3 58 ((v2 + 1).toNat)).toNat) ≤ x5) → (S12_lot [aR 44] M3 (fun r9 M8 => ∃ x10 : Int, r9 = aI x10 ∧ ((ob_12_gripAt (M8 55) (M8 52) v3) ∧ ((x10 < f_12_gripAt (M8 55) (M8 52) v3 → (am_R K12_tears q 24 [aR 44, aI v1, aI v2, aI (v3 + 1)] [] M8)) ∧ (¬ (x10 < f_12_gripAt (M8 55) (M8 52) v3) → ((0 ≤ v3 ∧ v3 < 32) ∧ (∀ x13 : Int, x13 = am_or v1 (am_shl 1 v3) → (∀ x15 : Int, x15 = (if M8 44 23 = (-1) then v2 else M8 44 24) → (∀ x17 : Int, x17 = (if M8 44 23 = (-1) then v3 else M8 44 23) → (am_R K12_tears q 24 [aR 44, aI x13, aI v2, aI (v3 + 1)] [] (am_up (am_up M8 44 24 x15) 44 23 x17)))))))))))))))))))))))) : am_R K12_tears q 24 [aR 44, aI v1, aI v2, aI v3] [] M := by
  refine s_iload 16 rfl rfl ?_
  refine s_push 17 rfl ?_
  refine s_binX (v := v3 + 1) 18 rfl h.1 rfl ?_
  refine s_aload 19 rfl rfl ?_
  refine s_getI (v := M 44 9) 20 rfl rfl rfl ?_
  refine s_ic 21 rfl (fun h1 => ?_) (fun h1 => ?_)
  · refine s_iinc [aR 44, aI v1, aI (v2 + 1), aI v3] 72 rfl rfl (h.2.1 h1).1 rfl ?_
    refine s_goto 73 rfl ?_
    exact am_R.jk (ls := [aR 44, aI v1, aI (v2 + 1), aJ]) ⟨Or.inr rfl, Or.inr rfl, Or.inr rfl, Or.inl rfl, trivial⟩ (h.2.1 h1).2
  · refine s_iload 22 rfl rfl ?_
    refine s_iload 23 rfl rfl ?_
    refine s_call 24 rfl rfl rfl rfl rfl (ct_12_isIn (h.2.2 h1).1 ?_)
    show am_R K12_tears q 39 [aR 44, aI v1, aI v2, aI v3] [aI (if am_and (am_shr v1 v3) 1 = 1 then 1 else 0)] M
    refine s_ifneB 25 rfl (fun h2 => ?_) (fun h2 => ?_)
    · refine s_iinc [aR 44, aI v1, aI v2, aI (v3 + 1)] 70 rfl rfl h.1 rfl ?_
      refine s_goto 71 rfl ?_
      exact ((h.2.2 h1).2.1 h2)
    · refine s_aload 26 rfl rfl ?_
      refine s_callv (o := 44) 27 rfl rfl rfl rfl rfl (am_S.mono ((h.2.2 h1).2.2 h2) ?_)
      rintro r4 M3 ⟨x5, rfl, g6⟩
      show am_R K12_tears q 46 [aR 44, aI v1, aI v2, aI v3] [aI x5] M3
      refine s_aload 28 rfl rfl ?_
      refine s_getR 51 29 rfl rfl ?_
      refine s_aload 30 rfl rfl ?_
      refine s_getR 58 31 rfl rfl ?_
      refine s_iload 32 rfl rfl ?_
      refine s_push 33 rfl ?_
      refine s_binX (v := v2 + 1) 34 rfl g6.1 rfl ?_
      refine s_iald (v := M3 58 ((v2 + 1).toNat)) 35 rfl rfl g6.2.1 rfl ?_
      refine s_iald (v := M3 51 ((M3 58 ((v2 + 1).toNat)).toNat)) 36 rfl rfl g6.2.2.1 rfl ?_
      refine s_ic 37 rfl (fun h7 => ?_) (fun h7 => ?_)
      · refine s_iinc [aR 44, aI v1, aI v2, aI (v3 + 1)] 70 rfl rfl h.1 rfl ?_
        refine s_goto 71 rfl ?_
        exact (g6.2.2.2.1 h7)
      · refine s_aload 38 rfl rfl ?_
        refine s_callv (o := 44) 39 rfl rfl rfl rfl rfl (am_S.mono (g6.2.2.2.2 h7) ?_)
        rintro r9 M8 ⟨x10, rfl, g11⟩
        show am_R K12_tears q 66 [aR 44, aI v1, aI v2, aI v3] [aI x10] M8
        refine s_aload 40 rfl rfl ?_
        refine s_iload 41 rfl rfl ?_
        refine s_callv (o := 44) 42 rfl rfl rfl rfl rfl (ct_12_gripAt g11.1 ?_)
        show am_R K12_tears q 71 [aR 44, aI v1, aI v2, aI v3] [aI (f_12_gripAt (M8 55) (M8 52) v3), aI x10] M8
        refine s_ic 43 rfl (fun h12 => ?_) (fun h12 => ?_)
        · refine s_iinc [aR 44, aI v1, aI v2, aI (v3 + 1)] 70 rfl rfl h.1 rfl ?_
          refine s_goto 71 rfl ?_
          exact (g11.2.1 h12)
        · refine s_iload 44 rfl rfl ?_
          refine s_push 45 rfl ?_
          refine s_iload 46 rfl rfl ?_
          refine s_sh 47 rfl (g11.2.2 h12).1 ?_
          refine s_bin 48 rfl ?_
          refine s_nameI (fun x13 ex13 => ?_)
          refine s_istore [aR 44, aI x13, aI v2, aI v3] 49 rfl rfl ?_
          refine s_aload 50 rfl rfl ?_
          refine s_aload 51 rfl rfl ?_
          refine s_getI (v := M8 44 23) 52 rfl rfl rfl ?_
          refine s_push 53 rfl ?_
          have j18 : ∀ (x15 : Int) (ex15 : x15 = (if M8 44 23 = (-1) then v2 else M8 44 24)), am_R K12_tears q 97 [aR 44, aI x13, aI v2, aI v3] [aI x15, aR 44] M8 := by
            intro x15 ex15
            refine s_putI 59 rfl rfl ?_
            refine s_aload 60 rfl rfl ?_
            refine s_aload 61 rfl rfl ?_
            refine s_getI (v := M8 44 23) 62 rfl rfl rfl ?_
            refine s_push 63 rfl ?_
            have j19 : ∀ (x17 : Int) (ex17 : x17 = (if M8 44 23 = (-1) then v3 else M8 44 23)), am_R K12_tears q 117 [aR 44, aI x13, aI v2, aI v3] [aI x17, aR 44] (am_up M8 44 24 x15) := by
              intro x17 ex17
              refine s_putI 69 rfl rfl ?_
              refine s_iinc [aR 44, aI x13, aI v2, aI (v3 + 1)] 70 rfl rfl h.1 rfl ?_
              refine s_goto 71 rfl ?_
              exact ((((g11.2.2 h12).2 x13 ex13) x15 ex15) x17 ex17)
            refine s_icne 64 rfl (fun h16 => ?_) (fun h16 => ?_)
            · refine s_aload 67 rfl rfl ?_
              refine s_getI (v := M8 44 23) 68 rfl rfl rfl ?_
              exact j19 _ (by rw [if_neg h16])
            · refine s_iload 65 rfl rfl ?_
              refine s_goto 66 rfl ?_
              exact j19 _ (by rw [if_pos h16])
          refine s_icne 54 rfl (fun h14 => ?_) (fun h14 => ?_)
          · refine s_aload 57 rfl rfl ?_
            refine s_getI (v := M8 44 24) 58 rfl rfl rfl ?_
            exact j18 _ (by rw [if_neg h14])
          · refine s_iload 55 rfl rfl ?_
            refine s_goto 56 rfl ?_
            exact j18 _ (by rw [if_pos h14])
theorem e12_tornOf {q : am_Q} {M : am_M} {v1 : Int} {v2 : Int} (h : S12_tears [aR 44] (am_up M 44 22 v1) (fun _ M1 => (-2147483648 ≤ (M1 44 23) + 1 ∧ (M1 44 23) + 1 < 2147483648) ∧ (∀ x5 : Int, x5 = (M1 44 23) + 1 → (am_R K12_tornOf q 19 [aR 44, aJ, aI v2, aI 0, aI x5] [] M1)))) : S12_tornOf [aR 44, aI v1, aI v2] M q := by
  refine am_S.intro rfl rfl ?_
  refine s_aload 0 rfl rfl ?_
  refine s_iload 1 rfl rfl ?_
  refine s_putI 2 rfl rfl ?_
  refine s_aload 3 rfl rfl ?_
  refine s_callv (o := 44) 4 rfl rfl rfl rfl rfl (am_S.mono h ?_)
  intro r2 M1 g4
  show am_R K12_tornOf q 9 [aR 44, aI v1, aI v2, aJ, aJ] [] M1
  refine s_push 5 rfl ?_
  refine s_istore [aR 44, aI v1, aI v2, aI 0, aJ] 6 rfl rfl ?_
  refine s_aload 7 rfl rfl ?_
  refine s_getI (v := M1 44 23) 8 rfl rfl rfl ?_
  refine s_push 9 rfl ?_
  refine s_binX (v := (M1 44 23) + 1) 10 rfl g4.1 rfl ?_
  refine s_nameI (fun x5 ex5 => ?_)
  refine s_istore [aR 44, aI v1, aI v2, aI 0, aI x5] 11 rfl rfl ?_
  exact am_R.jk (ls := [aR 44, aJ, aI v2, aI 0, aI x5]) ⟨Or.inr rfl, Or.inl rfl, Or.inr rfl, Or.inr rfl, Or.inr rfl, trivial⟩ (g4.2 x5 ex5)
theorem g12_tornOf_19 {q : am_Q} {M : am_M} {v2 v3 v4 : Int} (h : (M 44 9 ≤ v4 → (∀ x5 : Int, x5 = (if v2 = 0 then M 44 23 else if v2 = 1 then M 44 24 else if v2 = 2 then M 44 25 else v3) → (q (aI x5) M))) ∧ (¬ (M 44 9 ≤ v4) → ((M 44 23 = (-1) → (∀ x10 : Int, x10 = (if v2 = 0 then M 44 23 else if v2 = 1 then M 44 24 else if v2 = 2 then M 44 25 else v3) → (q (aI x10) M))) ∧ (¬ (M 44 23 = (-1)) → ((0 ≤ v4 ∧ v4 < 5) ∧ ((0 ≤ M 52 (v4.toNat) ∧ M 52 (v4.toNat) < 32) ∧ (∀ x11 : Int, x11 = am_or v3 (am_shl 1 (M 52 (v4.toNat))) → ((-2147483648 ≤ v4 + 1 ∧ v4 + 1 < 2147483648) ∧ (am_R K12_tornOf q 19 [aR 44, aJ, aI v2, aI x11, aI (v4 + 1)] [] M))))))))) : am_R K12_tornOf q 19 [aR 44, aJ, aI v2, aI v3, aI v4] [] M := by
  refine s_iload 12 rfl rfl ?_
  refine s_aload 13 rfl rfl ?_
  refine s_getI (v := M 44 9) 14 rfl rfl rfl ?_
  refine s_ic 15 rfl (fun h1 => ?_) (fun h1 => ?_)
  · refine s_iload 31 rfl rfl ?_
    have j12 : ∀ (x5 : Int) (ex5 : x5 = (if v2 = 0 then M 44 23 else if v2 = 1 then M 44 24 else if v2 = 2 then M 44 25 else v3)), am_R K12_tornOf q 90 [aR 44, aJ, aI v2, aI v3, aI v4] [aI x5] M := by
      intro x5 ex5
      exact s_iret 49 rfl ((h.1 h1) x5 ex5)
    refine s_ifne 32 rfl (fun h2 => ?_) (fun h2 => ?_)
    · refine s_iload 36 rfl rfl ?_
      refine s_push 37 rfl ?_
      refine s_icne 38 rfl (fun h3 => ?_) (fun h3 => ?_)
      · refine s_iload 42 rfl rfl ?_
        refine s_push 43 rfl ?_
        refine s_icne 44 rfl (fun h4 => ?_) (fun h4 => ?_)
        · refine s_iload 48 rfl rfl ?_
          exact j12 _ (by rw [if_neg h2, if_neg h3, if_neg h4])
        · refine s_aload 45 rfl rfl ?_
          refine s_getI (v := M 44 25) 46 rfl rfl rfl ?_
          refine s_goto 47 rfl ?_
          exact j12 _ (by rw [if_neg h2, if_neg h3, if_pos h4])
      · refine s_aload 39 rfl rfl ?_
        refine s_getI (v := M 44 24) 40 rfl rfl rfl ?_
        refine s_goto 41 rfl ?_
        exact j12 _ (by rw [if_neg h2, if_pos h3])
    · refine s_aload 33 rfl rfl ?_
      refine s_getI (v := M 44 23) 34 rfl rfl rfl ?_
      refine s_goto 35 rfl ?_
      exact j12 _ (by rw [if_pos h2])
  · refine s_aload 16 rfl rfl ?_
    refine s_getI (v := M 44 23) 17 rfl rfl rfl ?_
    refine s_push 18 rfl ?_
    refine s_ic 19 rfl (fun h6 => ?_) (fun h6 => ?_)
    · refine s_iload 31 rfl rfl ?_
      have j13 : ∀ (x10 : Int) (ex10 : x10 = (if v2 = 0 then M 44 23 else if v2 = 1 then M 44 24 else if v2 = 2 then M 44 25 else v3)), am_R K12_tornOf q 90 [aR 44, aJ, aI v2, aI v3, aI v4] [aI x10] M := by
        intro x10 ex10
        exact s_iret 49 rfl (((h.2 h1).1 h6) x10 ex10)
      refine s_ifne 32 rfl (fun h7 => ?_) (fun h7 => ?_)
      · refine s_iload 36 rfl rfl ?_
        refine s_push 37 rfl ?_
        refine s_icne 38 rfl (fun h8 => ?_) (fun h8 => ?_)
        · refine s_iload 42 rfl rfl ?_
          refine s_push 43 rfl ?_
          refine s_icne 44 rfl (fun h9 => ?_) (fun h9 => ?_)
          · refine s_iload 48 rfl rfl ?_
            exact j13 _ (by rw [if_neg h7, if_neg h8, if_neg h9])
          · refine s_aload 45 rfl rfl ?_
            refine s_getI (v := M 44 25) 46 rfl rfl rfl ?_
            refine s_goto 47 rfl ?_
            exact j13 _ (by rw [if_neg h7, if_neg h8, if_pos h9])
        · refine s_aload 39 rfl rfl ?_
          refine s_getI (v := M 44 24) 40 rfl rfl rfl ?_
          refine s_goto 41 rfl ?_
          exact j13 _ (by rw [if_neg h7, if_pos h8])
      · refine s_aload 33 rfl rfl ?_
        refine s_getI (v := M 44 23) 34 rfl rfl rfl ?_
        refine s_goto 35 rfl ?_
        exact j13 _ (by rw [if_pos h7])
    · refine s_iload 20 rfl rfl ?_
      refine s_push 21 rfl ?_
      refine s_aload 22 rfl rfl ?_
      refine s_getR 52 23 rfl rfl ?_
      refine s_iload 24 rfl rfl ?_
      refine s_iald (v := M 52 (v4.toNat)) 25 rfl rfl ((h.2 h1).2 h6).1 rfl ?_
      refine s_sh 26 rfl ((h.2 h1).2 h6).2.1 ?_
      refine s_bin 27 rfl ?_
      refine s_nameI (fun x11 ex11 => ?_)
      refine s_istore [aR 44, aJ, aI v2, aI x11, aI v4] 28 rfl rfl ?_
      refine s_iinc [aR 44, aJ, aI v2, aI x11, aI (v4 + 1)] 29 rfl rfl (((h.2 h1).2 h6).2.2 x11 ex11).1 rfl ?_
      refine s_goto 30 rfl ?_
      exact (((h.2 h1).2 h6).2.2 x11 ex11).2
theorem e12_fairsOf {q : am_Q} {M : am_M} {v1 : Int} {v2 : Int} (h : am_R K12_fairsOf q 10 [aR 44, aJ, aI v2, aI 0, aI 0] [] (am_up M 44 22 v1)) : S12_fairsOf [aR 44, aI v1, aI v2] M q := by
  refine am_S.intro rfl rfl ?_
  refine s_aload 0 rfl rfl ?_
  refine s_iload 1 rfl rfl ?_
  refine s_putI 2 rfl rfl ?_
  refine s_push 3 rfl ?_
  refine s_istore [aR 44, aI v1, aI v2, aI 0, aJ] 4 rfl rfl ?_
  refine s_push 5 rfl ?_
  refine s_istore [aR 44, aI v1, aI v2, aI 0, aI 0] 6 rfl rfl ?_
  exact am_R.jk (ls := [aR 44, aJ, aI v2, aI 0, aI 0]) ⟨Or.inr rfl, Or.inl rfl, Or.inr rfl, Or.inr rfl, Or.inr rfl, trivial⟩ h
theorem g12_fairsOf_10 {q : am_Q} {M : am_M} {v2 v3 v4 : Int} (h : (v2 ≤ v4 → (q (aI v3) M)) ∧ (¬ (v2 ≤ v4) → (S12_tears [aR 44] M (fun _ M2 => (-2147483648 ≤ v3 + (M2 44 25) ∧ v3 + (M2 44 25) < 2147483648) ∧ (∀ x6 : Int, x6 = v3 + (M2 44 25) → ((-2147483648 ≤ v4 + 1 ∧ v4 + 1 < 2147483648) ∧ (am_R K12_fairsOf q 10 [aR 44, aJ, aI v2, aI x6, aI (v4 + 1)] [] M2))))))) : am_R K12_fairsOf q 10 [aR 44, aJ, aI v2, aI v3, aI v4] [] M := by
  refine s_iload 7 rfl rfl ?_
  refine s_iload 8 rfl rfl ?_
  refine s_ic 9 rfl (fun h1 => ?_) (fun h1 => ?_)
  · refine s_iload 19 rfl rfl ?_
    exact s_iret 20 rfl (h.1 h1)
  · refine s_aload 10 rfl rfl ?_
    refine s_callv (o := 44) 11 rfl rfl rfl rfl rfl (am_S.mono (h.2 h1) ?_)
    intro r3 M2 g5
    show am_R K12_fairsOf q 20 [aR 44, aJ, aI v2, aI v3, aI v4] [] M2
    refine s_iload 12 rfl rfl ?_
    refine s_aload 13 rfl rfl ?_
    refine s_getI (v := M2 44 25) 14 rfl rfl rfl ?_
    refine s_binX (v := v3 + (M2 44 25)) 15 rfl g5.1 rfl ?_
    refine s_nameI (fun x6 ex6 => ?_)
    refine s_istore [aR 44, aJ, aI v2, aI x6, aI v4] 16 rfl rfl ?_
    refine s_iinc [aR 44, aJ, aI v2, aI x6, aI (v4 + 1)] 17 rfl rfl (g5.2 x6 ex6).1 rfl ?_
    refine s_goto 18 rfl ?_
    exact (g5.2 x6 ex6).2
theorem e12_roams {q : am_Q} {M : am_M} {v1 : Int} (h : am_R K12_roams q 4 [aR 44, aI v1, aI 1, aI 0, aJ, aJ, aJ] [] M) : S12_roams [aR 44, aI v1] M q := by
  refine am_S.intro rfl rfl ?_
  refine s_push 0 rfl ?_
  refine s_istore [aR 44, aI v1, aI 1, aJ, aJ, aJ, aJ] 1 rfl rfl ?_
  refine s_push 2 rfl ?_
  refine s_istore [aR 44, aI v1, aI 1, aI 0, aJ, aJ, aJ] 3 rfl rfl ?_
  exact h
theorem g12_roams_4 {q : am_Q} {M : am_M} {v1 v2 v3 : Int} (h : (4 ≤ v3 → ((0 ≤ v1 ∧ v1 < 64) ∧ ((-9223372036854775808 ≤ (M 62 (v1.toNat)) * 60 ∧ (M 62 (v1.toNat)) * 60 < 9223372036854775808) ∧ ((0 ≤ (M 62 (v1.toNat)) * 60 ∧ 0 < v2) ∧ (∀ x2 : Int, x2 = ((M 62 (v1.toNat)) * 60) / v2 → ((-9223372036854775808 ≤ (M 63 (v1.toNat)) + x2 ∧ (M 63 (v1.toNat)) + x2 < 9223372036854775808) ∧ (∀ x3 : Int, x3 = (M 63 (v1.toNat)) + x2 → (am_R K12_roams q 60 [aR 44, aI v1, aJ, aL x2, aJ, aI 0, aJ] [] (am_up M 63 (v1.toNat) x3))))))))) ∧ (¬ (4 ≤ v3) → ((ob_12_beside (M 51) v1 v3) ∧ (∀ x5 : Int, x5 = (if ¬ (f_12_beside (M 51) v1 v3 = (-1)) then 1 else 0) → ((-2147483648 ≤ v2 + x5 ∧ v2 + x5 < 2147483648) ∧ (∀ x6 : Int, x6 = v2 + x5 → ((-2147483648 ≤ v3 + 1 ∧ v3 + 1 < 2147483648) ∧ (am_R K12_roams q 4 [aR 44, aI v1, aI x6, aI (v3 + 1), aJ, aJ, aJ] [] M)))))))) : am_R K12_roams q 4 [aR 44, aI v1, aI v2, aI v3, aJ, aJ, aJ] [] M := by
  refine s_iload 4 rfl rfl ?_
  refine s_push 5 rfl ?_
  refine s_ic 6 rfl (fun h1 => ?_) (fun h1 => ?_)
  · refine s_aload 21 rfl rfl ?_
    refine s_getR 62 22 rfl rfl ?_
    refine s_iload 23 rfl rfl ?_
    refine s_lald (v := M 62 (v1.toNat)) 24 rfl rfl (h.1 h1).1 rfl ?_
    refine s_push 25 rfl ?_
    refine s_binLX (v := (M 62 (v1.toNat)) * 60) 26 rfl (h.1 h1).2.1 rfl ?_
    refine s_iload 27 rfl rfl ?_
    refine s_i2l 28 rfl ?_
    refine s_ldiv 29 rfl (h.1 h1).2.2.1 ?_
    refine s_nameL (fun x2 ex2 => ?_)
    refine s_lstore [aR 44, aI v1, aI v2, aL x2, aJ, aJ, aJ] 30 rfl rfl ?_
    refine s_aload 31 rfl rfl ?_
    refine s_getR 63 32 rfl rfl ?_
    refine s_iload 33 rfl rfl ?_
    refine s_dup2 34 rfl ?_
    refine s_lald (v := M 63 (v1.toNat)) 35 rfl rfl (h.1 h1).1 rfl ?_
    refine s_lload 36 rfl rfl ?_
    refine s_binLX (v := (M 63 (v1.toNat)) + x2) 37 rfl ((h.1 h1).2.2.2 x2 ex2).1 rfl ?_
    refine s_nameL (fun x3 ex3 => ?_)
    refine s_last 38 rfl rfl (h.1 h1).1 ?_
    refine s_push 39 rfl ?_
    refine s_istore [aR 44, aI v1, aI v2, aL x2, aJ, aI 0, aJ] 40 rfl rfl ?_
    exact am_R.jk (ls := [aR 44, aI v1, aJ, aL x2, aJ, aI 0, aJ]) ⟨Or.inr rfl, Or.inr rfl, Or.inl rfl, Or.inr rfl, Or.inr rfl, Or.inr rfl, Or.inr rfl, trivial⟩ (((h.1 h1).2.2.2 x2 ex2).2 x3 ex3)
  · refine s_iload 7 rfl rfl ?_
    refine s_aload 8 rfl rfl ?_
    refine s_iload 9 rfl rfl ?_
    refine s_iload 10 rfl rfl ?_
    refine s_callv (o := 44) 11 rfl rfl rfl rfl rfl (ct_12_beside (h.2 h1).1 ?_)
    show am_R K12_roams q 16 [aR 44, aI v1, aI v2, aI v3, aJ, aJ, aJ] [aI (f_12_beside (M 51) v1 v3), aI v2] M
    refine s_push 12 rfl ?_
    have j7 : ∀ (x5 : Int) (ex5 : x5 = (if ¬ (f_12_beside (M 51) v1 v3 = (-1)) then 1 else 0)), am_R K12_roams q 25 [aR 44, aI v1, aI v2, aI v3, aJ, aJ, aJ] [aI x5, aI v2] M := by
      intro x5 ex5
      refine s_binX (v := v2 + x5) 17 rfl ((h.2 h1).2 x5 ex5).1 rfl ?_
      refine s_nameI (fun x6 ex6 => ?_)
      refine s_istore [aR 44, aI v1, aI x6, aI v3, aJ, aJ, aJ] 18 rfl rfl ?_
      refine s_iinc [aR 44, aI v1, aI x6, aI (v3 + 1), aJ, aJ, aJ] 19 rfl rfl (((h.2 h1).2 x5 ex5).2 x6 ex6).1 rfl ?_
      refine s_goto 20 rfl ?_
      exact (((h.2 h1).2 x5 ex5).2 x6 ex6).2
    refine s_icne 13 rfl (fun h4 => ?_) (fun h4 => ?_)
    · refine s_push 16 rfl ?_
      exact j7 _ (if_pos (by omega)).symm
    · refine s_push 14 rfl ?_
      refine s_goto 15 rfl ?_
      exact j7 _ (if_neg (by omega)).symm
theorem g12_roams_60 {q : am_Q} {M : am_M} {v1 v3 v5 : Int} (h : (4 ≤ v5 → (q aJ M)) ∧ (¬ (4 ≤ v5) → ((ob_12_beside (M 51) v1 v5) ∧ (∀ x2 : Int, x2 = f_12_beside (M 51) v1 v5 → ((x2 = (-1) → ((-2147483648 ≤ v5 + 1 ∧ v5 + 1 < 2147483648) ∧ (am_R K12_roams q 60 [aR 44, aI v1, aJ, aL v3, aJ, aI (v5 + 1), aJ] [] M))) ∧ (¬ (x2 = (-1)) → ((0 ≤ x2 ∧ x2 < 64) ∧ ((-9223372036854775808 ≤ (M 63 (x2.toNat)) + v3 ∧ (M 63 (x2.toNat)) + v3 < 9223372036854775808) ∧ (∀ x4 : Int, x4 = (M 63 (x2.toNat)) + v3 → ((-2147483648 ≤ v5 + 1 ∧ v5 + 1 < 2147483648) ∧ (am_R K12_roams q 60 [aR 44, aI v1, aJ, aL v3, aJ, aI (v5 + 1), aJ] [] (am_up M 63 (x2.toNat) x4)))))))))))) : am_R K12_roams q 60 [aR 44, aI v1, aJ, aL v3, aJ, aI v5, aJ] [] M := by
  refine s_iload 41 rfl rfl ?_
  refine s_push 42 rfl ?_
  refine s_ic 43 rfl (fun h1 => ?_) (fun h1 => ?_)
  · exact s_vret 62 rfl (h.1 h1)
  · refine s_aload 44 rfl rfl ?_
    refine s_iload 45 rfl rfl ?_
    refine s_iload 46 rfl rfl ?_
    refine s_callv (o := 44) 47 rfl rfl rfl rfl rfl (ct_12_beside (h.2 h1).1 ?_)
    show am_R K12_roams q 73 [aR 44, aI v1, aJ, aL v3, aJ, aI v5, aJ] [aI (f_12_beside (M 51) v1 v5)] M
    refine s_nameI (fun x2 ex2 => ?_)
    refine s_istore [aR 44, aI v1, aJ, aL v3, aJ, aI v5, aI x2] 48 rfl rfl ?_
    refine s_iload 49 rfl rfl ?_
    refine s_push 50 rfl ?_
    refine s_ic 51 rfl (fun h3 => ?_) (fun h3 => ?_)
    · refine s_iinc [aR 44, aI v1, aJ, aL v3, aJ, aI (v5 + 1), aI x2] 60 rfl rfl (((h.2 h1).2 x2 ex2).1 h3).1 rfl ?_
      refine s_goto 61 rfl ?_
      exact am_R.jk (ls := [aR 44, aI v1, aJ, aL v3, aJ, aI (v5 + 1), aJ]) ⟨Or.inr rfl, Or.inr rfl, Or.inr rfl, Or.inr rfl, Or.inr rfl, Or.inr rfl, Or.inl rfl, trivial⟩ (((h.2 h1).2 x2 ex2).1 h3).2
    · refine s_aload 52 rfl rfl ?_
      refine s_getR 63 53 rfl rfl ?_
      refine s_iload 54 rfl rfl ?_
      refine s_dup2 55 rfl ?_
      refine s_lald (v := M 63 (x2.toNat)) 56 rfl rfl (((h.2 h1).2 x2 ex2).2 h3).1 rfl ?_
      refine s_lload 57 rfl rfl ?_
      refine s_binLX (v := (M 63 (x2.toNat)) + v3) 58 rfl (((h.2 h1).2 x2 ex2).2 h3).2.1 rfl ?_
      refine s_nameL (fun x4 ex4 => ?_)
      refine s_last 59 rfl rfl (((h.2 h1).2 x2 ex2).2 h3).1 ?_
      refine s_iinc [aR 44, aI v1, aJ, aL v3, aJ, aI (v5 + 1), aI x2] 60 rfl rfl ((((h.2 h1).2 x2 ex2).2 h3).2.2 x4 ex4).1 rfl ?_
      refine s_goto 61 rfl ?_
      exact am_R.jk (ls := [aR 44, aI v1, aJ, aL v3, aJ, aI (v5 + 1), aJ]) ⟨Or.inr rfl, Or.inr rfl, Or.inr rfl, Or.inr rfl, Or.inr rfl, Or.inr rfl, Or.inl rfl, trivial⟩ ((((h.2 h1).2 x2 ex2).2 h3).2.2 x4 ex4).2
theorem e12_goesNearer {q : am_Q} {M : am_M} {v1 : Int} (h : am_R K12_goesNearer q 4 [aR 44, aI v1, aI v1, aI 3, aJ] [] M) : S12_goesNearer [aR 44, aI v1] M q := by
  refine am_S.intro rfl rfl ?_
  refine s_iload 0 rfl rfl ?_
  refine s_istore [aR 44, aI v1, aI v1, aJ, aJ] 1 rfl rfl ?_
  refine s_push 2 rfl ?_
  refine s_istore [aR 44, aI v1, aI v1, aI 3, aJ] 3 rfl rfl ?_
  exact h
theorem g12_goesNearer_4 {q : am_Q} {M : am_M} {v1 v2 v3 : Int} (h : (v3 < 0 → ((0 ≤ v2 ∧ v2 < 64) ∧ ((0 ≤ v1 ∧ v1 < 64) ∧ ((-9223372036854775808 ≤ (M 62 (v1.toNat)) * 60 ∧ (M 62 (v1.toNat)) * 60 < 9223372036854775808) ∧ ((-9223372036854775808 ≤ (M 63 (v2.toNat)) + ((M 62 (v1.toNat)) * 60) ∧ (M 63 (v2.toNat)) + ((M 62 (v1.toNat)) * 60) < 9223372036854775808) ∧ (∀ x2 : Int, x2 = (M 63 (v2.toNat)) + ((M 62 (v1.toNat)) * 60) → (q aJ (am_up M 63 (v2.toNat) x2)))))))) ∧ (¬ (v3 < 0) → ((ob_12_beside (M 51) v1 v3) ∧ (∀ x3 : Int, x3 = f_12_beside (M 51) v1 v3 → ((¬ (x3 = (-1)) → ((0 ≤ x3 ∧ x3 < 64) ∧ (0 ≤ v1 ∧ v1 < 64))) ∧ (∀ x6 : Int, x6 = (if x3 = (-1) then v2 else if M 59 (v1.toNat) ≤ M 59 (x3.toNat) then v2 else x3) → ((-2147483648 ≤ v3 + (-1) ∧ v3 + (-1) < 2147483648) ∧ (am_R K12_goesNearer q 4 [aR 44, aI v1, aI x6, aI (v3 + (-1)), aJ] [] M)))))))) : am_R K12_goesNearer q 4 [aR 44, aI v1, aI v2, aI v3, aJ] [] M := by
  refine s_iload 4 rfl rfl ?_
  refine s_if 5 rfl (fun h1 => ?_) (fun h1 => ?_)
  · refine s_aload 29 rfl rfl ?_
    refine s_getR 63 30 rfl rfl ?_
    refine s_iload 31 rfl rfl ?_
    refine s_dup2 32 rfl ?_
    refine s_lald (v := M 63 (v2.toNat)) 33 rfl rfl (h.1 h1).1 rfl ?_
    refine s_aload 34 rfl rfl ?_
    refine s_getR 62 35 rfl rfl ?_
    refine s_iload 36 rfl rfl ?_
    refine s_lald (v := M 62 (v1.toNat)) 37 rfl rfl (h.1 h1).2.1 rfl ?_
    refine s_push 38 rfl ?_
    refine s_binLX (v := (M 62 (v1.toNat)) * 60) 39 rfl (h.1 h1).2.2.1 rfl ?_
    refine s_binLX (v := (M 63 (v2.toNat)) + ((M 62 (v1.toNat)) * 60)) 40 rfl (h.1 h1).2.2.2.1 rfl ?_
    refine s_nameL (fun x2 ex2 => ?_)
    refine s_last 41 rfl rfl (h.1 h1).1 ?_
    exact s_vret 42 rfl ((h.1 h1).2.2.2.2 x2 ex2)
  · refine s_aload 6 rfl rfl ?_
    refine s_iload 7 rfl rfl ?_
    refine s_iload 8 rfl rfl ?_
    refine s_callv (o := 44) 9 rfl rfl rfl rfl rfl (ct_12_beside (h.2 h1).1 ?_)
    show am_R K12_goesNearer q 14 [aR 44, aI v1, aI v2, aI v3, aJ] [aI (f_12_beside (M 51) v1 v3)] M
    refine s_nameI (fun x3 ex3 => ?_)
    refine s_istore [aR 44, aI v1, aI v2, aI v3, aI x3] 10 rfl rfl ?_
    refine s_iload 11 rfl rfl ?_
    refine s_push 12 rfl ?_
    have j7 : ∀ (x6 : Int) (ex6 : x6 = (if x3 = (-1) then v2 else if M 59 (v1.toNat) ≤ M 59 (x3.toNat) then v2 else x3)), am_R K12_goesNearer q 44 [aR 44, aI v1, aI v2, aI v3, aI x3] [aI x6] M := by
      intro x6 ex6
      refine s_istore [aR 44, aI v1, aI x6, aI v3, aI x3] 26 rfl rfl ?_
      refine s_iinc [aR 44, aI v1, aI x6, aI (v3 + (-1)), aI x3] 27 rfl rfl (((h.2 h1).2 x3 ex3).2 x6 ex6).1 rfl ?_
      refine s_goto 28 rfl ?_
      exact am_R.jk (ls := [aR 44, aI v1, aI x6, aI (v3 + (-1)), aJ]) ⟨Or.inr rfl, Or.inr rfl, Or.inr rfl, Or.inr rfl, Or.inl rfl, trivial⟩ (((h.2 h1).2 x3 ex3).2 x6 ex6).2
    refine s_ic 13 rfl (fun h4 => ?_) (fun h4 => ?_)
    · refine s_iload 25 rfl rfl ?_
      exact j7 _ (by rw [if_pos h4])
    · refine s_aload 14 rfl rfl ?_
      refine s_getR 59 15 rfl rfl ?_
      refine s_iload 16 rfl rfl ?_
      refine s_iald (v := M 59 (x3.toNat)) 17 rfl rfl (((h.2 h1).2 x3 ex3).1 h4).1 rfl ?_
      refine s_aload 18 rfl rfl ?_
      refine s_getR 59 19 rfl rfl ?_
      refine s_iload 20 rfl rfl ?_
      refine s_iald (v := M 59 (v1.toNat)) 21 rfl rfl (((h.2 h1).2 x3 ex3).1 h4).2 rfl ?_
      refine s_ic 22 rfl (fun h5 => ?_) (fun h5 => ?_)
      · refine s_iload 25 rfl rfl ?_
        exact j7 _ (by rw [if_neg h4, if_pos h5])
      · refine s_iload 23 rfl rfl ?_
        refine s_goto 24 rfl ?_
        exact j7 _ (by rw [if_neg h4, if_neg h5])
theorem e12_findChances {q : am_Q} {M : am_M} {v1 : Int} {v2 : Int} (h : ∀ x1 : Int, x1 = M 54 2 → (((¬ ((M 54 1) < 0) ∧ ¬ (63 < (M 54 1))) ∧ ¬ ((M 51) ((M 54 1).toNat) = 99) → (S12_findFar [aR 44, aI (M 54 1), aI 0] M (fun _ M3 => am_R K12_findChances q 62 [aR 44, aI v1, aI v2, aI x1, aI 0, aJ, aJ, aJ] [] M3))) ∧ (¬ ((¬ ((M 54 1) < 0) ∧ ¬ (63 < (M 54 1))) ∧ ¬ ((M 51) ((M 54 1).toNat) = 99)) → (am_R K12_findChances q 37 [aR 44, aI v1, aI v2, aI x1, aI 0, aJ, aJ, aJ] [] M)))) : S12_findChances [aR 44, aI v1, aI v2] M q := by
  refine am_S.intro rfl rfl ?_
  refine s_aload 0 rfl rfl ?_
  refine s_getR 54 1 rfl rfl ?_
  refine s_push 2 rfl ?_
  refine s_iald (v := M 54 2) 3 rfl rfl (by decide) rfl ?_
  refine s_nameI (fun x1 ex1 => ?_)
  refine s_istore [aR 44, aI v1, aI v2, aI x1, aJ, aJ, aJ, aJ] 4 rfl rfl ?_
  refine s_aload 5 rfl rfl ?_
  refine s_aload 6 rfl rfl ?_
  refine s_getR 54 7 rfl rfl ?_
  refine s_push 8 rfl ?_
  refine s_iald (v := M 54 1) 9 rfl rfl (by decide) rfl ?_
  refine s_callv (o := 44) 10 rfl rfl rfl rfl rfl (ct_12_isPlace ?_)
  show am_R K12_findChances q 17 [aR 44, aI v1, aI v2, aI x1, aJ, aJ, aJ, aJ] [aI (if (¬ ((M 54 1) < 0) ∧ ¬ (63 < (M 54 1))) ∧ ¬ ((M 51) ((M 54 1).toNat) = 99) then 1 else 0)] M
  refine s_ifeqB 11 rfl (fun h2 => ?_) (fun h2 => ?_)
  · refine s_push 20 rfl ?_
    refine s_istore [aR 44, aI v1, aI v2, aI x1, aI 0, aJ, aJ, aJ] 21 rfl rfl ?_
    exact ((h x1 ex1).2 h2)
  · refine s_aload 12 rfl rfl ?_
    refine s_aload 13 rfl rfl ?_
    refine s_getR 54 14 rfl rfl ?_
    refine s_push 15 rfl ?_
    refine s_iald (v := M 54 1) 16 rfl rfl (by decide) rfl ?_
    refine s_push 17 rfl ?_
    refine s_callv (o := 44) 18 rfl rfl rfl rfl rfl (am_S.mono ((h x1 ex1).1 h2) ?_)
    intro r4 M3 g6
    show am_R K12_findChances q 31 [aR 44, aI v1, aI v2, aI x1, aJ, aJ, aJ, aJ] [] M3
    refine s_goto 19 rfl ?_
    refine s_push 32 rfl ?_
    refine s_istore [aR 44, aI v1, aI v2, aI x1, aI 0, aJ, aJ, aJ] 33 rfl rfl ?_
    exact g6
theorem g12_findChances_37 {q : am_Q} {M : am_M} {v1 v2 v3 v4 : Int} (h : (64 ≤ v4 → (am_R K12_findChances q 62 [aR 44, aI v1, aI v2, aI v3, aI 0, aJ, aJ, aJ] [] M)) ∧ (¬ (64 ≤ v4) → ((0 ≤ v4 ∧ v4 < 64) ∧ ((-2147483648 ≤ v4 + 1 ∧ v4 + 1 < 2147483648) ∧ (am_R K12_findChances q 37 [aR 44, aI v1, aI v2, aI v3, aI (v4 + 1), aJ, aJ, aJ] [] (am_up M 59 (v4.toNat) 1000000)))))) : am_R K12_findChances q 37 [aR 44, aI v1, aI v2, aI v3, aI v4, aJ, aJ, aJ] [] M := by
  refine s_iload 22 rfl rfl ?_
  refine s_push 23 rfl ?_
  refine s_ic 24 rfl (fun h1 => ?_) (fun h1 => ?_)
  · refine s_push 32 rfl ?_
    refine s_istore [aR 44, aI v1, aI v2, aI v3, aI 0, aJ, aJ, aJ] 33 rfl rfl ?_
    exact (h.1 h1)
  · refine s_aload 25 rfl rfl ?_
    refine s_getR 59 26 rfl rfl ?_
    refine s_iload 27 rfl rfl ?_
    refine s_push 28 rfl ?_
    refine s_iast 29 rfl rfl (h.2 h1).1 ?_
    refine s_iinc [aR 44, aI v1, aI v2, aI v3, aI (v4 + 1), aJ, aJ, aJ] 30 rfl rfl (h.2 h1).2.1 rfl ?_
    refine s_goto 31 rfl ?_
    exact (h.2 h1).2.2
theorem g12_findChances_62 {q : am_Q} {M : am_M} {v1 v2 v3 v4 : Int} (h : (64 ≤ v4 → (am_R K12_findChances q 99 [aR 44, aJ, aI v2, aI v3, aL 1, aJ, aI 0, aJ] [] M)) ∧ (¬ (64 ≤ v4) → (∀ x3 : Int, x3 = (if v4 = v1 then 1 else 0) → ((0 ≤ v4 ∧ v4 < 64) ∧ ((-2147483648 ≤ v4 + 1 ∧ v4 + 1 < 2147483648) ∧ (am_R K12_findChances q 62 [aR 44, aI v1, aI v2, aI v3, aI (v4 + 1), aJ, aJ, aJ] [] (am_up M 62 (v4.toNat) x3))))))) : am_R K12_findChances q 62 [aR 44, aI v1, aI v2, aI v3, aI v4, aJ, aJ, aJ] [] M := by
  refine s_iload 34 rfl rfl ?_
  refine s_push 35 rfl ?_
  refine s_ic 36 rfl (fun h1 => ?_) (fun h1 => ?_)
  · refine s_push 49 rfl ?_
    refine s_lstore [aR 44, aI v1, aI v2, aI v3, aL 1, aJ, aJ, aJ] 50 rfl rfl ?_
    refine s_push 51 rfl ?_
    refine s_istore [aR 44, aI v1, aI v2, aI v3, aL 1, aJ, aI 0, aJ] 52 rfl rfl ?_
    exact am_R.jk (ls := [aR 44, aJ, aI v2, aI v3, aL 1, aJ, aI 0, aJ]) ⟨Or.inr rfl, Or.inl rfl, Or.inr rfl, Or.inr rfl, Or.inr rfl, Or.inr rfl, Or.inr rfl, Or.inr rfl, trivial⟩ (h.1 h1)
  · refine s_aload 37 rfl rfl ?_
    refine s_getR 62 38 rfl rfl ?_
    refine s_iload 39 rfl rfl ?_
    refine s_iload 40 rfl rfl ?_
    refine s_iload 41 rfl rfl ?_
    have j4 : ∀ (x3 : Int) (ex3 : x3 = (if v4 = v1 then 1 else 0)), am_R K12_findChances q 86 [aR 44, aI v1, aI v2, aI v3, aI v4, aJ, aJ, aJ] [aL x3, aI v4, aR 62] M := by
      intro x3 ex3
      refine s_last 46 rfl rfl ((h.2 h1) x3 ex3).1 ?_
      refine s_iinc [aR 44, aI v1, aI v2, aI v3, aI (v4 + 1), aJ, aJ, aJ] 47 rfl rfl ((h.2 h1) x3 ex3).2.1 rfl ?_
      refine s_goto 48 rfl ?_
      exact ((h.2 h1) x3 ex3).2.2
    refine s_icne 42 rfl (fun h2 => ?_) (fun h2 => ?_)
    · refine s_push 45 rfl ?_
      exact j4 _ (by rw [if_neg h2])
    · refine s_push 43 rfl ?_
      refine s_goto 44 rfl ?_
      exact j4 _ (by rw [if_pos h2])
theorem g12_findChances_99 {q : am_Q} {M : am_M} {v2 v3 v4 v6 : Int} (h : (v2 ≤ v6 → (q (aL v4) M)) ∧ (¬ (v2 ≤ v6) → (am_R K12_findChances q 108 [aR 44, aJ, aI v2, aI v3, aL v4, aJ, aI v6, aI 0] [] M))) : am_R K12_findChances q 99 [aR 44, aJ, aI v2, aI v3, aL v4, aJ, aI v6, aJ] [] M := by
  refine s_iload 53 rfl rfl ?_
  refine s_iload 54 rfl rfl ?_
  refine s_ic 55 rfl (fun h1 => ?_) (fun h1 => ?_)
  · refine s_lload 143 rfl rfl ?_
    exact s_lret 144 rfl (h.1 h1)
  · refine s_push 56 rfl ?_
    refine s_istore [aR 44, aJ, aI v2, aI v3, aL v4, aJ, aI v6, aI 0] 57 rfl rfl ?_
    exact (h.2 h1)
theorem g12_findChances_108 {q : am_Q} {M : am_M} {v2 v3 v4 v6 v7 : Int} (h : (64 ≤ v7 → (am_R K12_findChances q 132 [aR 44, aJ, aI v2, aI v3, aL v4, aJ, aI v6, aI 0] [] M)) ∧ (¬ (64 ≤ v7) → ((0 ≤ v7 ∧ v7 < 64) ∧ ((-2147483648 ≤ v7 + 1 ∧ v7 + 1 < 2147483648) ∧ (am_R K12_findChances q 108 [aR 44, aJ, aI v2, aI v3, aL v4, aJ, aI v6, aI (v7 + 1)] [] (am_up M 63 (v7.toNat) 0)))))) : am_R K12_findChances q 108 [aR 44, aJ, aI v2, aI v3, aL v4, aJ, aI v6, aI v7] [] M := by
  refine s_iload 58 rfl rfl ?_
  refine s_push 59 rfl ?_
  refine s_ic 60 rfl (fun h1 => ?_) (fun h1 => ?_)
  · refine s_push 68 rfl ?_
    refine s_istore [aR 44, aJ, aI v2, aI v3, aL v4, aJ, aI v6, aI 0] 69 rfl rfl ?_
    exact (h.1 h1)
  · refine s_aload 61 rfl rfl ?_
    refine s_getR 63 62 rfl rfl ?_
    refine s_iload 63 rfl rfl ?_
    refine s_push 64 rfl ?_
    refine s_last 65 rfl rfl (h.2 h1).1 ?_
    refine s_iinc [aR 44, aJ, aI v2, aI v3, aL v4, aJ, aI v6, aI (v7 + 1)] 66 rfl rfl (h.2 h1).2.1 rfl ?_
    refine s_goto 67 rfl ?_
    exact (h.2 h1).2.2
theorem g12_findChances_132 {q : am_Q} {M : am_M} {v2 v3 v4 v6 v7 : Int} (h : (64 ≤ v7 → (am_R K12_findChances q 232 [aR 44, aJ, aI v2, aI v3, aL v4, aJ, aI v6, aI 0] [] M)) ∧ (¬ (64 ≤ v7) → ((0 ≤ v7 ∧ v7 < 64) ∧ (((M 62 (v7.toNat)) ≤ 0 → (((M 62 (v7.toNat)) ≤ 0 → (((M 62 (v7.toNat)) ≤ 0 → ((-2147483648 ≤ v7 + 1 ∧ v7 + 1 < 2147483648) ∧ (am_R K12_findChances q 132 [aR 44, aJ, aI v2, aI v3, aL v4, aJ, aI v6, aI (v7 + 1)] [] M))) ∧ (¬ ((M 62 (v7.toNat)) ≤ 0) → (S12_goesNearer [aR 44, aI v7] M (fun _ M5 => (-2147483648 ≤ v7 + 1 ∧ v7 + 1 < 2147483648) ∧ (am_R K12_findChances q 132 [aR 44, aJ, aI v2, aI v3, aL v4, aJ, aI v6, aI (v7 + 1)] [] M5)))))) ∧ (¬ ((M 62 (v7.toNat)) ≤ 0) → ((v3 = 1 → (S12_roams [aR 44, aI v7] M (fun _ M15 => (-2147483648 ≤ v7 + 1 ∧ v7 + 1 < 2147483648) ∧ (am_R K12_findChances q 132 [aR 44, aJ, aI v2, aI v3, aL v4, aJ, aI v6, aI (v7 + 1)] [] M15)))) ∧ (¬ (v3 = 1) → (((M 62 (v7.toNat)) ≤ 0 → ((-2147483648 ≤ v7 + 1 ∧ v7 + 1 < 2147483648) ∧ (am_R K12_findChances q 132 [aR 44, aJ, aI v2, aI v3, aL v4, aJ, aI v6, aI (v7 + 1)] [] M))) ∧ (¬ ((M 62 (v7.toNat)) ≤ 0) → (S12_goesNearer [aR 44, aI v7] M (fun _ M11 => (-2147483648 ≤ v7 + 1 ∧ v7 + 1 < 2147483648) ∧ (am_R K12_findChances q 132 [aR 44, aJ, aI v2, aI v3, aL v4, aJ, aI v6, aI (v7 + 1)] [] M11)))))))))) ∧ (¬ ((M 62 (v7.toNat)) ≤ 0) → ((v3 = 0 → ((-9223372036854775808 ≤ (M 62 (v7.toNat)) * 60 ∧ (M 62 (v7.toNat)) * 60 < 9223372036854775808) ∧ ((-9223372036854775808 ≤ (M 63 (v7.toNat)) + ((M 62 (v7.toNat)) * 60) ∧ (M 63 (v7.toNat)) + ((M 62 (v7.toNat)) * 60) < 9223372036854775808) ∧ (∀ x36 : Int, x36 = (M 63 (v7.toNat)) + ((M 62 (v7.toNat)) * 60) → ((-2147483648 ≤ v7 + 1 ∧ v7 + 1 < 2147483648) ∧ (am_R K12_findChances q 132 [aR 44, aJ, aI v2, aI v3, aL v4, aJ, aI v6, aI (v7 + 1)] [] (am_up M 63 (v7.toNat) x36))))))) ∧ (¬ (v3 = 0) → (((M 62 (v7.toNat)) ≤ 0 → (((M 62 (v7.toNat)) ≤ 0 → ((-2147483648 ≤ v7 + 1 ∧ v7 + 1 < 2147483648) ∧ (am_R K12_findChances q 132 [aR 44, aJ, aI v2, aI v3, aL v4, aJ, aI v6, aI (v7 + 1)] [] M))) ∧ (¬ ((M 62 (v7.toNat)) ≤ 0) → (S12_goesNearer [aR 44, aI v7] M (fun _ M22 => (-2147483648 ≤ v7 + 1 ∧ v7 + 1 < 2147483648) ∧ (am_R K12_findChances q 132 [aR 44, aJ, aI v2, aI v3, aL v4, aJ, aI v6, aI (v7 + 1)] [] M22)))))) ∧ (¬ ((M 62 (v7.toNat)) ≤ 0) → ((v3 = 1 → (S12_roams [aR 44, aI v7] M (fun _ M32 => (-2147483648 ≤ v7 + 1 ∧ v7 + 1 < 2147483648) ∧ (am_R K12_findChances q 132 [aR 44, aJ, aI v2, aI v3, aL v4, aJ, aI v6, aI (v7 + 1)] [] M32)))) ∧ (¬ (v3 = 1) → (((M 62 (v7.toNat)) ≤ 0 → ((-2147483648 ≤ v7 + 1 ∧ v7 + 1 < 2147483648) ∧ (am_R K12_findChances q 132 [aR 44, aJ, aI v2, aI v3, aL v4, aJ, aI v6, aI (v7 + 1)] [] M))) ∧ (¬ ((M 62 (v7.toNat)) ≤ 0) → (S12_goesNearer [aR 44, aI v7] M (fun _ M28 => (-2147483648 ≤ v7 + 1 ∧ v7 + 1 < 2147483648) ∧ (am_R K12_findChances q 132 [aR 44, aJ, aI v2, aI v3, aL v4, aJ, aI v6, aI (v7 + 1)] [] M28)))))))))))))))) : am_R K12_findChances q 132 [aR 44, aJ, aI v2, aI v3, aL v4, aJ, aI v6, aI v7] [] M := by
  refine s_iload 70 rfl rfl ?_
  refine s_push 71 rfl ?_
  refine s_ic 72 rfl (fun h1 => ?_) (fun h1 => ?_)
  · refine s_push 122 rfl ?_
    refine s_istore [aR 44, aJ, aI v2, aI v3, aL v4, aJ, aI v6, aI 0] 123 rfl rfl ?_
    exact (h.1 h1)
  · refine s_aload 73 rfl rfl ?_
    refine s_getR 62 74 rfl rfl ?_
    refine s_iload 75 rfl rfl ?_
    refine s_lald (v := M 62 (v7.toNat)) 76 rfl rfl (h.2 h1).1 rfl ?_
    refine s_push 77 rfl ?_
    refine s_lcmp 78 rfl ?_
    refine s_ifX (d := (M 62 (v7.toNat)) ≤ 0) 79 rfl (cq_le _ _) (fun h2 => ?_) (fun h2 => ?_)
    · refine s_aload 96 rfl rfl ?_
      refine s_getR 62 97 rfl rfl ?_
      refine s_iload 98 rfl rfl ?_
      refine s_lald (v := M 62 (v7.toNat)) 99 rfl rfl (h.2 h1).1 rfl ?_
      refine s_push 100 rfl ?_
      refine s_lcmp 101 rfl ?_
      refine s_ifX (d := (M 62 (v7.toNat)) ≤ 0) 102 rfl (cq_le _ _) (fun h3 => ?_) (fun h3 => ?_)
      · refine s_aload 110 rfl rfl ?_
        refine s_getR 62 111 rfl rfl ?_
        refine s_iload 112 rfl rfl ?_
        refine s_lald (v := M 62 (v7.toNat)) 113 rfl rfl (h.2 h1).1 rfl ?_
        refine s_push 114 rfl ?_
        refine s_lcmp 115 rfl ?_
        refine s_ifX (d := (M 62 (v7.toNat)) ≤ 0) 116 rfl (cq_le _ _) (fun h4 => ?_) (fun h4 => ?_)
        · refine s_iinc [aR 44, aJ, aI v2, aI v3, aL v4, aJ, aI v6, aI (v7 + 1)] 120 rfl rfl ((((h.2 h1).2.1 h2).1 h3).1 h4).1 rfl ?_
          refine s_goto 121 rfl ?_
          exact ((((h.2 h1).2.1 h2).1 h3).1 h4).2
        · refine s_aload 117 rfl rfl ?_
          refine s_iload 118 rfl rfl ?_
          refine s_callv (o := 44) 119 rfl rfl rfl rfl rfl (am_S.mono ((((h.2 h1).2.1 h2).1 h3).2 h4) ?_)
          intro r6 M5 g8
          show am_R K12_findChances q 223 [aR 44, aJ, aI v2, aI v3, aL v4, aJ, aI v6, aI v7] [] M5
          refine s_iinc [aR 44, aJ, aI v2, aI v3, aL v4, aJ, aI v6, aI (v7 + 1)] 120 rfl rfl g8.1 rfl ?_
          refine s_goto 121 rfl ?_
          exact g8.2
      · refine s_iload 103 rfl rfl ?_
        refine s_push 104 rfl ?_
        refine s_icne 105 rfl (fun h9 => ?_) (fun h9 => ?_)
        · refine s_aload 110 rfl rfl ?_
          refine s_getR 62 111 rfl rfl ?_
          refine s_iload 112 rfl rfl ?_
          refine s_lald (v := M 62 (v7.toNat)) 113 rfl rfl (h.2 h1).1 rfl ?_
          refine s_push 114 rfl ?_
          refine s_lcmp 115 rfl ?_
          refine s_ifX (d := (M 62 (v7.toNat)) ≤ 0) 116 rfl (cq_le _ _) (fun h10 => ?_) (fun h10 => ?_)
          · refine s_iinc [aR 44, aJ, aI v2, aI v3, aL v4, aJ, aI v6, aI (v7 + 1)] 120 rfl rfl (((((h.2 h1).2.1 h2).2 h3).2 h9).1 h10).1 rfl ?_
            refine s_goto 121 rfl ?_
            exact (((((h.2 h1).2.1 h2).2 h3).2 h9).1 h10).2
          · refine s_aload 117 rfl rfl ?_
            refine s_iload 118 rfl rfl ?_
            refine s_callv (o := 44) 119 rfl rfl rfl rfl rfl (am_S.mono (((((h.2 h1).2.1 h2).2 h3).2 h9).2 h10) ?_)
            intro r12 M11 g14
            show am_R K12_findChances q 223 [aR 44, aJ, aI v2, aI v3, aL v4, aJ, aI v6, aI v7] [] M11
            refine s_iinc [aR 44, aJ, aI v2, aI v3, aL v4, aJ, aI v6, aI (v7 + 1)] 120 rfl rfl g14.1 rfl ?_
            refine s_goto 121 rfl ?_
            exact g14.2
        · refine s_aload 106 rfl rfl ?_
          refine s_iload 107 rfl rfl ?_
          refine s_callv (o := 44) 108 rfl rfl rfl rfl rfl (am_S.mono ((((h.2 h1).2.1 h2).2 h3).1 h9) ?_)
          intro r16 M15 g18
          show am_R K12_findChances q 202 [aR 44, aJ, aI v2, aI v3, aL v4, aJ, aI v6, aI v7] [] M15
          refine s_goto 109 rfl ?_
          refine s_iinc [aR 44, aJ, aI v2, aI v3, aL v4, aJ, aI v6, aI (v7 + 1)] 120 rfl rfl g18.1 rfl ?_
          refine s_goto 121 rfl ?_
          exact g18.2
    · refine s_iload 80 rfl rfl ?_
      refine s_ifne 81 rfl (fun h19 => ?_) (fun h19 => ?_)
      · refine s_aload 96 rfl rfl ?_
        refine s_getR 62 97 rfl rfl ?_
        refine s_iload 98 rfl rfl ?_
        refine s_lald (v := M 62 (v7.toNat)) 99 rfl rfl (h.2 h1).1 rfl ?_
        refine s_push 100 rfl ?_
        refine s_lcmp 101 rfl ?_
        refine s_ifX (d := (M 62 (v7.toNat)) ≤ 0) 102 rfl (cq_le _ _) (fun h20 => ?_) (fun h20 => ?_)
        · refine s_aload 110 rfl rfl ?_
          refine s_getR 62 111 rfl rfl ?_
          refine s_iload 112 rfl rfl ?_
          refine s_lald (v := M 62 (v7.toNat)) 113 rfl rfl (h.2 h1).1 rfl ?_
          refine s_push 114 rfl ?_
          refine s_lcmp 115 rfl ?_
          refine s_ifX (d := (M 62 (v7.toNat)) ≤ 0) 116 rfl (cq_le _ _) (fun h21 => ?_) (fun h21 => ?_)
          · refine s_iinc [aR 44, aJ, aI v2, aI v3, aL v4, aJ, aI v6, aI (v7 + 1)] 120 rfl rfl (((((h.2 h1).2.2 h2).2 h19).1 h20).1 h21).1 rfl ?_
            refine s_goto 121 rfl ?_
            exact (((((h.2 h1).2.2 h2).2 h19).1 h20).1 h21).2
          · refine s_aload 117 rfl rfl ?_
            refine s_iload 118 rfl rfl ?_
            refine s_callv (o := 44) 119 rfl rfl rfl rfl rfl (am_S.mono (((((h.2 h1).2.2 h2).2 h19).1 h20).2 h21) ?_)
            intro r23 M22 g25
            show am_R K12_findChances q 223 [aR 44, aJ, aI v2, aI v3, aL v4, aJ, aI v6, aI v7] [] M22
            refine s_iinc [aR 44, aJ, aI v2, aI v3, aL v4, aJ, aI v6, aI (v7 + 1)] 120 rfl rfl g25.1 rfl ?_
            refine s_goto 121 rfl ?_
            exact g25.2
        · refine s_iload 103 rfl rfl ?_
          refine s_push 104 rfl ?_
          refine s_icne 105 rfl (fun h26 => ?_) (fun h26 => ?_)
          · refine s_aload 110 rfl rfl ?_
            refine s_getR 62 111 rfl rfl ?_
            refine s_iload 112 rfl rfl ?_
            refine s_lald (v := M 62 (v7.toNat)) 113 rfl rfl (h.2 h1).1 rfl ?_
            refine s_push 114 rfl ?_
            refine s_lcmp 115 rfl ?_
            refine s_ifX (d := (M 62 (v7.toNat)) ≤ 0) 116 rfl (cq_le _ _) (fun h27 => ?_) (fun h27 => ?_)
            · refine s_iinc [aR 44, aJ, aI v2, aI v3, aL v4, aJ, aI v6, aI (v7 + 1)] 120 rfl rfl ((((((h.2 h1).2.2 h2).2 h19).2 h20).2 h26).1 h27).1 rfl ?_
              refine s_goto 121 rfl ?_
              exact ((((((h.2 h1).2.2 h2).2 h19).2 h20).2 h26).1 h27).2
            · refine s_aload 117 rfl rfl ?_
              refine s_iload 118 rfl rfl ?_
              refine s_callv (o := 44) 119 rfl rfl rfl rfl rfl (am_S.mono ((((((h.2 h1).2.2 h2).2 h19).2 h20).2 h26).2 h27) ?_)
              intro r29 M28 g31
              show am_R K12_findChances q 223 [aR 44, aJ, aI v2, aI v3, aL v4, aJ, aI v6, aI v7] [] M28
              refine s_iinc [aR 44, aJ, aI v2, aI v3, aL v4, aJ, aI v6, aI (v7 + 1)] 120 rfl rfl g31.1 rfl ?_
              refine s_goto 121 rfl ?_
              exact g31.2
          · refine s_aload 106 rfl rfl ?_
            refine s_iload 107 rfl rfl ?_
            refine s_callv (o := 44) 108 rfl rfl rfl rfl rfl (am_S.mono (((((h.2 h1).2.2 h2).2 h19).2 h20).1 h26) ?_)
            intro r33 M32 g35
            show am_R K12_findChances q 202 [aR 44, aJ, aI v2, aI v3, aL v4, aJ, aI v6, aI v7] [] M32
            refine s_goto 109 rfl ?_
            refine s_iinc [aR 44, aJ, aI v2, aI v3, aL v4, aJ, aI v6, aI (v7 + 1)] 120 rfl rfl g35.1 rfl ?_
            refine s_goto 121 rfl ?_
            exact g35.2
      · refine s_aload 82 rfl rfl ?_
        refine s_getR 63 83 rfl rfl ?_
        refine s_iload 84 rfl rfl ?_
        refine s_dup2 85 rfl ?_
        refine s_lald (v := M 63 (v7.toNat)) 86 rfl rfl (h.2 h1).1 rfl ?_
        refine s_aload 87 rfl rfl ?_
        refine s_getR 62 88 rfl rfl ?_
        refine s_iload 89 rfl rfl ?_
        refine s_lald (v := M 62 (v7.toNat)) 90 rfl rfl (h.2 h1).1 rfl ?_
        refine s_push 91 rfl ?_
        refine s_binLX (v := (M 62 (v7.toNat)) * 60) 92 rfl (((h.2 h1).2.2 h2).1 h19).1 rfl ?_
        refine s_binLX (v := (M 63 (v7.toNat)) + ((M 62 (v7.toNat)) * 60)) 93 rfl (((h.2 h1).2.2 h2).1 h19).2.1 rfl ?_
        refine s_nameL (fun x36 ex36 => ?_)
        refine s_last 94 rfl rfl (h.2 h1).1 ?_
        refine s_goto 95 rfl ?_
        refine s_iinc [aR 44, aJ, aI v2, aI v3, aL v4, aJ, aI v6, aI (v7 + 1)] 120 rfl rfl ((((h.2 h1).2.2 h2).1 h19).2.2 x36 ex36).1 rfl ?_
        refine s_goto 121 rfl ?_
        exact ((((h.2 h1).2.2 h2).1 h19).2.2 x36 ex36).2
theorem g12_findChances_232 {q : am_Q} {M : am_M} {v2 v3 v4 v6 v7 : Int} (h : (64 ≤ v7 → ((-9223372036854775808 ≤ v4 * 60 ∧ v4 * 60 < 9223372036854775808) ∧ (∀ x2 : Int, x2 = v4 * 60 → ((-2147483648 ≤ v6 + 1 ∧ v6 + 1 < 2147483648) ∧ (am_R K12_findChances q 99 [aR 44, aJ, aI v2, aI v3, aL x2, aJ, aI (v6 + 1), aJ] [] M))))) ∧ (¬ (64 ≤ v7) → ((0 ≤ v7 ∧ v7 < 64) ∧ (∀ x3 : Int, x3 = M 63 (v7.toNat) → ((-2147483648 ≤ v7 + 1 ∧ v7 + 1 < 2147483648) ∧ (am_R K12_findChances q 232 [aR 44, aJ, aI v2, aI v3, aL v4, aJ, aI v6, aI (v7 + 1)] [] (am_up M 62 (v7.toNat) x3))))))) : am_R K12_findChances q 232 [aR 44, aJ, aI v2, aI v3, aL v4, aJ, aI v6, aI v7] [] M := by
  refine s_iload 124 rfl rfl ?_
  refine s_push 125 rfl ?_
  refine s_ic 126 rfl (fun h1 => ?_) (fun h1 => ?_)
  · refine s_lload 137 rfl rfl ?_
    refine s_push 138 rfl ?_
    refine s_binLX (v := v4 * 60) 139 rfl (h.1 h1).1 rfl ?_
    refine s_nameL (fun x2 ex2 => ?_)
    refine s_lstore [aR 44, aJ, aI v2, aI v3, aL x2, aJ, aI v6, aI v7] 140 rfl rfl ?_
    refine s_iinc [aR 44, aJ, aI v2, aI v3, aL x2, aJ, aI (v6 + 1), aI v7] 141 rfl rfl ((h.1 h1).2 x2 ex2).1 rfl ?_
    refine s_goto 142 rfl ?_
    exact am_R.jk (ls := [aR 44, aJ, aI v2, aI v3, aL x2, aJ, aI (v6 + 1), aJ]) ⟨Or.inr rfl, Or.inr rfl, Or.inr rfl, Or.inr rfl, Or.inr rfl, Or.inr rfl, Or.inr rfl, Or.inl rfl, trivial⟩ ((h.1 h1).2 x2 ex2).2
  · refine s_aload 127 rfl rfl ?_
    refine s_getR 62 128 rfl rfl ?_
    refine s_iload 129 rfl rfl ?_
    refine s_aload 130 rfl rfl ?_
    refine s_getR 63 131 rfl rfl ?_
    refine s_iload 132 rfl rfl ?_
    refine s_lald (v := M 63 (v7.toNat)) 133 rfl rfl (h.2 h1).1 rfl ?_
    refine s_nameL (fun x3 ex3 => ?_)
    refine s_last 134 rfl rfl (h.2 h1).1 ?_
    refine s_iinc [aR 44, aJ, aI v2, aI v3, aL v4, aJ, aI v6, aI (v7 + 1)] 135 rfl rfl ((h.2 h1).2 x3 ex3).1 rfl ?_
    refine s_goto 136 rfl ?_
    exact ((h.2 h1).2 x3 ex3).2
theorem e12_isOf {q : am_Q} {M : am_M} {v1 : Int} {v2 : Int} {v3 : Int} {v4 : Int} (h : S12_findChances [aR 44, aI v1, aI v2] M (fun r2 M1 => ∃ x3 : Int, r2 = aL x3 ∧ ((0 ≤ v3 ∧ v3 < 64) ∧ (S12_part [aL (M1 62 (v3.toNat)), aL x3, aI v4] M1 (fun r6 M5 => ∃ x7 : Int, r6 = aL x7 ∧ (q (aL x7) M5)))))) : S12_isOf [aR 44, aI v1, aI v2, aI v3, aI v4] M q := by
  refine am_S.intro rfl rfl ?_
  refine s_aload 0 rfl rfl ?_
  refine s_iload 1 rfl rfl ?_
  refine s_iload 2 rfl rfl ?_
  refine s_callv (o := 44) 3 rfl rfl rfl rfl rfl (am_S.mono h ?_)
  rintro r2 M1 ⟨x3, rfl, g4⟩
  show am_R K12_isOf q 6 [aR 44, aI v1, aI v2, aI v3, aI v4, aJ, aJ] [aL x3] M1
  refine s_lstore [aR 44, aI v1, aI v2, aI v3, aI v4, aL x3, aJ] 4 rfl rfl ?_
  refine s_aload 5 rfl rfl ?_
  refine s_getR 62 6 rfl rfl ?_
  refine s_iload 7 rfl rfl ?_
  refine s_lald (v := M1 62 (v3.toNat)) 8 rfl rfl g4.1 rfl ?_
  refine s_lload 9 rfl rfl ?_
  refine s_iload 10 rfl rfl ?_
  refine s_call 11 rfl rfl rfl rfl rfl (am_S.mono g4.2 ?_)
  rintro r6 M5 ⟨x7, rfl, g8⟩
  show am_R K12_isOf q 21 [aR 44, aI v1, aI v2, aI v3, aI v4, aL x3, aJ] [aL x7] M5
  exact s_lret 12 rfl g8
theorem e12_is {q : am_Q} {M : am_M} {v1 : Int} {v2 : Int} {v3 : Int} {v4 : Int} (h : S12_reads [aR 44] M (fun _ M1 => ((¬ (v1 < 0) ∧ ¬ (63 < v1)) ∧ ¬ ((M1 51) (v1.toNat) = 99) → ((¬ (v2 < 0) ∧ ¬ (5 < v2) → (((¬ (v3 < 0) ∧ ¬ (63 < v3)) ∧ ¬ ((M1 51) (v3.toNat) = 99) → ((¬ (v4 < 0) ∧ ¬ (1 < v4) → (S12_isOf [aR 44, aI v1, aI v2, aI v3, aI v4] M1 (fun r10 M9 => ∃ x11 : Int, r10 = aL x11 ∧ (q (aL x11) M9)))) ∧ (¬ (¬ (v4 < 0) ∧ ¬ (1 < v4)) → (q (aL (f_12_no (-2))) M1)))) ∧ (¬ ((¬ (v3 < 0) ∧ ¬ (63 < v3)) ∧ ¬ ((M1 51) (v3.toNat) = 99)) → (q (aL (f_12_no (-2))) M1)))) ∧ (¬ (¬ (v2 < 0) ∧ ¬ (5 < v2)) → (q (aL (f_12_no (-2))) M1)))) ∧ (¬ ((¬ (v1 < 0) ∧ ¬ (63 < v1)) ∧ ¬ ((M1 51) (v1.toNat) = 99)) → (q (aL (f_12_no (-2))) M1)))) : S12_is [aR 44, aI v1, aI v2, aI v3, aI v4] M q := by
  refine am_S.intro rfl rfl ?_
  refine s_aload 0 rfl rfl ?_
  refine s_callv (o := 44) 1 rfl rfl rfl rfl rfl (am_S.mono h ?_)
  intro r2 M1 g4
  show am_R K12_is q 4 [aR 44, aI v1, aI v2, aI v3, aI v4] [] M1
  refine s_aload 2 rfl rfl ?_
  refine s_iload 3 rfl rfl ?_
  refine s_callv (o := 44) 4 rfl rfl rfl rfl rfl (ct_12_isPlace ?_)
  show am_R K12_is q 9 [aR 44, aI v1, aI v2, aI v3, aI v4] [aI (if (¬ (v1 < 0) ∧ ¬ (63 < v1)) ∧ ¬ ((M1 51) (v1.toNat) = 99) then 1 else 0)] M1
  refine s_ifeqB 5 rfl (fun h5 => ?_) (fun h5 => ?_)
  · refine s_push 26 rfl ?_
    refine s_call 27 rfl rfl rfl rfl rfl (ct_12_no ?_)
    show am_R K12_is q 57 [aR 44, aI v1, aI v2, aI v3, aI v4] [aL (f_12_no (-2))] M1
    exact s_lret 28 rfl (g4.2 h5)
  · refine s_iload 6 rfl rfl ?_
    refine s_i2l 7 rfl ?_
    refine s_push 8 rfl ?_
    refine s_push 9 rfl ?_
    refine s_call 10 rfl rfl rfl rfl rfl (ct_12_in ?_)
    show am_R K12_is q 21 [aR 44, aI v1, aI v2, aI v3, aI v4] [aI (if ¬ (v2 < 0) ∧ ¬ (5 < v2) then 1 else 0)] M1
    refine s_ifeqB 11 rfl (fun h6 => ?_) (fun h6 => ?_)
    · refine s_push 26 rfl ?_
      refine s_call 27 rfl rfl rfl rfl rfl (ct_12_no ?_)
      show am_R K12_is q 57 [aR 44, aI v1, aI v2, aI v3, aI v4] [aL (f_12_no (-2))] M1
      exact s_lret 28 rfl ((g4.1 h5).2 h6)
    · refine s_aload 12 rfl rfl ?_
      refine s_iload 13 rfl rfl ?_
      refine s_callv (o := 44) 14 rfl rfl rfl rfl rfl (ct_12_isPlace ?_)
      show am_R K12_is q 29 [aR 44, aI v1, aI v2, aI v3, aI v4] [aI (if (¬ (v3 < 0) ∧ ¬ (63 < v3)) ∧ ¬ ((M1 51) (v3.toNat) = 99) then 1 else 0)] M1
      refine s_ifeqB 15 rfl (fun h7 => ?_) (fun h7 => ?_)
      · refine s_push 26 rfl ?_
        refine s_call 27 rfl rfl rfl rfl rfl (ct_12_no ?_)
        show am_R K12_is q 57 [aR 44, aI v1, aI v2, aI v3, aI v4] [aL (f_12_no (-2))] M1
        exact s_lret 28 rfl (((g4.1 h5).1 h6).2 h7)
      · refine s_iload 16 rfl rfl ?_
        refine s_call 17 rfl rfl rfl rfl rfl (ct_12_isTwo ?_)
        show am_R K12_is q 37 [aR 44, aI v1, aI v2, aI v3, aI v4] [aI (if ¬ (v4 < 0) ∧ ¬ (1 < v4) then 1 else 0)] M1
        refine s_ifeqB 18 rfl (fun h8 => ?_) (fun h8 => ?_)
        · refine s_push 26 rfl ?_
          refine s_call 27 rfl rfl rfl rfl rfl (ct_12_no ?_)
          show am_R K12_is q 57 [aR 44, aI v1, aI v2, aI v3, aI v4] [aL (f_12_no (-2))] M1
          exact s_lret 28 rfl ((((g4.1 h5).1 h6).1 h7).2 h8)
        · refine s_aload 19 rfl rfl ?_
          refine s_iload 20 rfl rfl ?_
          refine s_iload 21 rfl rfl ?_
          refine s_iload 22 rfl rfl ?_
          refine s_iload 23 rfl rfl ?_
          refine s_callv (o := 44) 24 rfl rfl rfl rfl rfl (am_S.mono ((((g4.1 h5).1 h6).1 h7).1 h8) ?_)
          rintro r10 M9 ⟨x11, rfl, g12⟩
          show am_R K12_is q 49 [aR 44, aI v1, aI v2, aI v3, aI v4] [aL x11] M9
          refine s_goto 25 rfl ?_
          exact s_lret 28 rfl g12
theorem e12_likeliestOf {q : am_Q} {M : am_M} {v1 : Int} {v2 : Int} (h : S12_findChances [aR 44, aI v1, aI v2] M (fun r2 M1 => ∃ x3 : Int, r2 = aL x3 ∧ (am_R K12_likeliestOf q 12 [aR 44, aJ, aJ, aI 0, aI 1] [] M1))) : S12_likeliestOf [aR 44, aI v1, aI v2] M q := by
  refine am_S.intro rfl rfl ?_
  refine s_aload 0 rfl rfl ?_
  refine s_iload 1 rfl rfl ?_
  refine s_iload 2 rfl rfl ?_
  refine s_callv (o := 44) 3 rfl rfl rfl rfl rfl (am_S.mono h ?_)
  rintro r2 M1 ⟨x3, rfl, g4⟩
  show am_R K12_likeliestOf q 6 [aR 44, aI v1, aI v2, aJ, aJ] [aL x3] M1
  refine s_pop2 4 rfl ?_
  refine s_push 5 rfl ?_
  refine s_istore [aR 44, aI v1, aI v2, aI 0, aJ] 6 rfl rfl ?_
  refine s_push 7 rfl ?_
  refine s_istore [aR 44, aI v1, aI v2, aI 0, aI 1] 8 rfl rfl ?_
  exact am_R.jk (ls := [aR 44, aJ, aJ, aI 0, aI 1]) ⟨Or.inr rfl, Or.inl rfl, Or.inl rfl, Or.inr rfl, Or.inr rfl, trivial⟩ g4
theorem g12_likeliestOf_12 {q : am_Q} {M : am_M} {v3 v4 : Int} (h : (64 ≤ v4 → (q (aI v3) M)) ∧ (¬ (64 ≤ v4) → ((0 ≤ v4 ∧ v4 < 64) ∧ ((0 ≤ v3 ∧ v3 < 64) ∧ (∀ x3 : Int, x3 = (if (M 62 (v4.toNat)) ≤ (M 62 (v3.toNat)) then v3 else v4) → ((-2147483648 ≤ v4 + 1 ∧ v4 + 1 < 2147483648) ∧ (am_R K12_likeliestOf q 12 [aR 44, aJ, aJ, aI x3, aI (v4 + 1)] [] M))))))) : am_R K12_likeliestOf q 12 [aR 44, aJ, aJ, aI v3, aI v4] [] M := by
  refine s_iload 9 rfl rfl ?_
  refine s_push 10 rfl ?_
  refine s_ic 11 rfl (fun h1 => ?_) (fun h1 => ?_)
  · refine s_iload 28 rfl rfl ?_
    exact s_iret 29 rfl (h.1 h1)
  · refine s_aload 12 rfl rfl ?_
    refine s_getR 62 13 rfl rfl ?_
    refine s_iload 14 rfl rfl ?_
    refine s_lald (v := M 62 (v4.toNat)) 15 rfl rfl (h.2 h1).1 rfl ?_
    refine s_aload 16 rfl rfl ?_
    refine s_getR 62 17 rfl rfl ?_
    refine s_iload 18 rfl rfl ?_
    refine s_lald (v := M 62 (v3.toNat)) 19 rfl rfl (h.2 h1).2.1 rfl ?_
    refine s_lcmp 20 rfl ?_
    have j4 : ∀ (x3 : Int) (ex3 : x3 = (if (M 62 (v4.toNat)) ≤ (M 62 (v3.toNat)) then v3 else v4)), am_R K12_likeliestOf q 42 [aR 44, aJ, aJ, aI v3, aI v4] [aI x3] M := by
      intro x3 ex3
      refine s_istore [aR 44, aJ, aJ, aI x3, aI v4] 25 rfl rfl ?_
      refine s_iinc [aR 44, aJ, aJ, aI x3, aI (v4 + 1)] 26 rfl rfl ((h.2 h1).2.2 x3 ex3).1 rfl ?_
      refine s_goto 27 rfl ?_
      exact ((h.2 h1).2.2 x3 ex3).2
    refine s_ifX (d := (M 62 (v4.toNat)) ≤ (M 62 (v3.toNat))) 21 rfl (cq_le _ _) (fun h2 => ?_) (fun h2 => ?_)
    · refine s_iload 24 rfl rfl ?_
      exact j4 _ (by rw [if_pos h2])
    · refine s_iload 22 rfl rfl ?_
      refine s_goto 23 rfl ?_
      exact j4 _ (by rw [if_neg h2])
theorem e12_likeliest {q : am_Q} {M : am_M} {v1 : Int} {v2 : Int} (h : S12_reads [aR 44] M (fun _ M1 => ((¬ (v1 < 0) ∧ ¬ (63 < v1)) ∧ ¬ ((M1 51) (v1.toNat) = 99) → ((¬ (v2 < 0) ∧ ¬ (5 < v2) → (S12_likeliestOf [aR 44, aI v1, aI v2] M1 (fun r8 M7 => ∃ x9 : Int, r8 = aI x9 ∧ (q (aI x9) M7)))) ∧ (¬ (¬ (v2 < 0) ∧ ¬ (5 < v2)) → (q (aI (-2)) M1)))) ∧ (¬ ((¬ (v1 < 0) ∧ ¬ (63 < v1)) ∧ ¬ ((M1 51) (v1.toNat) = 99)) → (q (aI (-2)) M1)))) : S12_likeliest [aR 44, aI v1, aI v2] M q := by
  refine am_S.intro rfl rfl ?_
  refine s_aload 0 rfl rfl ?_
  refine s_callv (o := 44) 1 rfl rfl rfl rfl rfl (am_S.mono h ?_)
  intro r2 M1 g4
  show am_R K12_likeliest q 4 [aR 44, aI v1, aI v2] [] M1
  refine s_aload 2 rfl rfl ?_
  refine s_iload 3 rfl rfl ?_
  refine s_callv (o := 44) 4 rfl rfl rfl rfl rfl (ct_12_isPlace ?_)
  show am_R K12_likeliest q 9 [aR 44, aI v1, aI v2] [aI (if (¬ (v1 < 0) ∧ ¬ (63 < v1)) ∧ ¬ ((M1 51) (v1.toNat) = 99) then 1 else 0)] M1
  refine s_ifeqB 5 rfl (fun h5 => ?_) (fun h5 => ?_)
  · refine s_push 17 rfl ?_
    exact s_iret 18 rfl (g4.2 h5)
  · refine s_iload 6 rfl rfl ?_
    refine s_i2l 7 rfl ?_
    refine s_push 8 rfl ?_
    refine s_push 9 rfl ?_
    refine s_call 10 rfl rfl rfl rfl rfl (ct_12_in ?_)
    show am_R K12_likeliest q 21 [aR 44, aI v1, aI v2] [aI (if ¬ (v2 < 0) ∧ ¬ (5 < v2) then 1 else 0)] M1
    refine s_ifeqB 11 rfl (fun h6 => ?_) (fun h6 => ?_)
    · refine s_push 17 rfl ?_
      exact s_iret 18 rfl ((g4.1 h5).2 h6)
    · refine s_aload 12 rfl rfl ?_
      refine s_iload 13 rfl rfl ?_
      refine s_iload 14 rfl rfl ?_
      refine s_callv (o := 44) 15 rfl rfl rfl rfl rfl (am_S.mono ((g4.1 h5).1 h6) ?_)
      rintro r8 M7 ⟨x9, rfl, g10⟩
      show am_R K12_likeliest q 30 [aR 44, aI v1, aI v2] [aI x9] M7
      refine s_goto 16 rfl ?_
      exact s_iret 18 rfl g10
theorem e12_partedOf {q : am_Q} {M : am_M} {v1 : Int} {v2 : Int} {v3 : Int} (h : S12_findWays [aR 44, aI v2] M (fun r2 M1 => ∃ x3 : Int, r2 = aI x3 ∧ ((x3 = 0 → (q (aL (f_12_no (-3))) M1)) ∧ (¬ (x3 = 0) → (S12_findWays [aR 44, aI v1] M1 (fun r7 M6 => ∃ x8 : Int, r7 = aI x8 ∧ ((x8 = 0 → (q (aL (f_12_no (-3))) M6)) ∧ (¬ (x8 = 0) → ((0 ≤ M6 44 28 ∧ M6 44 28 < 32) ∧ ((-2147483648 ≤ (am_shl 1 (M6 44 28)) - 1 ∧ (am_shl 1 (M6 44 28)) - 1 < 2147483648) ∧ (∀ x11 : Int, x11 = (am_shl 1 (M6 44 28)) - 1 → (am_R K12_partedOf q 35 [aR 44, aJ, aI v2, aI v3, aI x11, aI 0, aJ, aJ, aJ] [] M6)))))))))))) : S12_partedOf [aR 44, aI v1, aI v2, aI v3] M q := by
  refine am_S.intro rfl rfl ?_
  refine s_aload 0 rfl rfl ?_
  refine s_iload 1 rfl rfl ?_
  refine s_callv (o := 44) 2 rfl rfl rfl rfl rfl (am_S.mono h ?_)
  rintro r2 M1 ⟨x3, rfl, g4⟩
  show am_R K12_partedOf q 5 [aR 44, aI v1, aI v2, aI v3, aJ, aJ, aJ, aJ, aJ] [aI x3] M1
  refine s_if 3 rfl (fun h5 => ?_) (fun h5 => ?_)
  · refine s_push 8 rfl ?_
    refine s_call 9 rfl rfl rfl rfl rfl (ct_12_no ?_)
    show am_R K12_partedOf q 21 [aR 44, aI v1, aI v2, aI v3, aJ, aJ, aJ, aJ, aJ] [aL (f_12_no (-3))] M1
    exact s_lret 10 rfl (g4.1 h5)
  · refine s_aload 4 rfl rfl ?_
    refine s_iload 5 rfl rfl ?_
    refine s_callv (o := 44) 6 rfl rfl rfl rfl rfl (am_S.mono (g4.2 h5) ?_)
    rintro r7 M6 ⟨x8, rfl, g9⟩
    show am_R K12_partedOf q 13 [aR 44, aI v1, aI v2, aI v3, aJ, aJ, aJ, aJ, aJ] [aI x8] M6
    refine s_ifne 7 rfl (fun h10 => ?_) (fun h10 => ?_)
    · refine s_push 11 rfl ?_
      refine s_aload 12 rfl rfl ?_
      refine s_getI (v := M6 44 28) 13 rfl rfl rfl ?_
      refine s_sh 14 rfl (g9.2 h10).1 ?_
      refine s_push 15 rfl ?_
      refine s_binX (v := (am_shl 1 (M6 44 28)) - 1) 16 rfl (g9.2 h10).2.1 rfl ?_
      refine s_nameI (fun x11 ex11 => ?_)
      refine s_istore [aR 44, aI v1, aI v2, aI v3, aI x11, aJ, aJ, aJ, aJ] 17 rfl rfl ?_
      refine s_push 18 rfl ?_
      refine s_istore [aR 44, aI v1, aI v2, aI v3, aI x11, aI 0, aJ, aJ, aJ] 19 rfl rfl ?_
      exact am_R.jk (ls := [aR 44, aJ, aI v2, aI v3, aI x11, aI 0, aJ, aJ, aJ]) ⟨Or.inr rfl, Or.inl rfl, Or.inr rfl, Or.inr rfl, Or.inr rfl, Or.inr rfl, Or.inr rfl, Or.inr rfl, Or.inr rfl, trivial⟩ ((g9.2 h10).2.2 x11 ex11)
    · refine s_push 8 rfl ?_
      refine s_call 9 rfl rfl rfl rfl rfl (ct_12_no ?_)
      show am_R K12_partedOf q 21 [aR 44, aI v1, aI v2, aI v3, aJ, aJ, aJ, aJ, aJ] [aL (f_12_no (-3))] M6
      exact s_lret 10 rfl (g9.1 h10)
theorem g12_partedOf_35 {q : am_Q} {M : am_M} {v2 v3 v4 v5 : Int} (h : (v4 < v5 → (S12_findWays [aR 44, aI v2] M (fun r3 M2 => ∃ x4 : Int, r3 = aI x4 ∧ (am_R K12_partedOf q 76 [aR 44, aJ, aJ, aI v3, aI v4, aI (-1), aI 0, aI 0, aJ] [] M2)))) ∧ (¬ (v4 < v5) → (S12_findBest [aR 44, aI v5] M (fun r7 M6 => ∃ x8 : Int, r7 = aI x8 ∧ ((0 ≤ v5 ∧ v5 < 32) ∧ ((-2147483648 ≤ v5 + 1 ∧ v5 + 1 < 2147483648) ∧ (am_R K12_partedOf q 35 [aR 44, aJ, aI v2, aI v3, aI v4, aI (v5 + 1), aJ, aJ, aJ] [] (am_up M6 67 (v5.toNat) x8)))))))) : am_R K12_partedOf q 35 [aR 44, aJ, aI v2, aI v3, aI v4, aI v5, aJ, aJ, aJ] [] M := by
  refine s_iload 20 rfl rfl ?_
  refine s_iload 21 rfl rfl ?_
  refine s_ic 22 rfl (fun h1 => ?_) (fun h1 => ?_)
  · refine s_aload 32 rfl rfl ?_
    refine s_iload 33 rfl rfl ?_
    refine s_callv (o := 44) 34 rfl rfl rfl rfl rfl (am_S.mono (h.1 h1) ?_)
    rintro r3 M2 ⟨x4, rfl, g5⟩
    show am_R K12_partedOf q 66 [aR 44, aJ, aI v2, aI v3, aI v4, aI v5, aJ, aJ, aJ] [aI x4] M2
    refine s_pop 35 rfl ?_
    refine s_push 36 rfl ?_
    refine s_istore [aR 44, aJ, aI v2, aI v3, aI v4, aI (-1), aJ, aJ, aJ] 37 rfl rfl ?_
    refine s_push 38 rfl ?_
    refine s_istore [aR 44, aJ, aI v2, aI v3, aI v4, aI (-1), aI 0, aJ, aJ] 39 rfl rfl ?_
    refine s_push 40 rfl ?_
    refine s_istore [aR 44, aJ, aI v2, aI v3, aI v4, aI (-1), aI 0, aI 0, aJ] 41 rfl rfl ?_
    exact am_R.jk (ls := [aR 44, aJ, aJ, aI v3, aI v4, aI (-1), aI 0, aI 0, aJ]) ⟨Or.inr rfl, Or.inr rfl, Or.inl rfl, Or.inr rfl, Or.inr rfl, Or.inr rfl, Or.inr rfl, Or.inr rfl, Or.inr rfl, trivial⟩ g5
  · refine s_aload 23 rfl rfl ?_
    refine s_getR 67 24 rfl rfl ?_
    refine s_iload 25 rfl rfl ?_
    refine s_aload 26 rfl rfl ?_
    refine s_iload 27 rfl rfl ?_
    refine s_callv (o := 44) 28 rfl rfl rfl rfl rfl (am_S.mono (h.2 h1) ?_)
    rintro r7 M6 ⟨x8, rfl, g9⟩
    show am_R K12_partedOf q 54 [aR 44, aJ, aI v2, aI v3, aI v4, aI v5, aJ, aJ, aJ] [aI x8, aI v5, aR 67] M6
    refine s_iast 29 rfl rfl g9.1 ?_
    refine s_iinc [aR 44, aJ, aI v2, aI v3, aI v4, aI (v5 + 1), aJ, aJ, aJ] 30 rfl rfl g9.2.1 rfl ?_
    refine s_goto 31 rfl ?_
    exact g9.2.2
theorem g12_partedOf_76 {q : am_Q} {M : am_M} {v3 v4 v5 v6 v7 : Int} (h : (v4 < v7 → ((v3 = 2 → (q (aL v5) M)) ∧ (¬ (v3 = 2) → (S12_weights [aR 44] M (fun r4 M3 => ∃ x5 : Int, r4 = aI x5 ∧ (S12_part [aL v6, aL x5, aI v3] M3 (fun r8 M7 => ∃ x9 : Int, r8 = aL x9 ∧ (q (aL x9) M7)))))))) ∧ (¬ (v4 < v7) → ((0 ≤ v7 ∧ v7 < 32) ∧ (S12_findBest [aR 44, aI (am_and v4 (am_xor v7 (-1)))] M (fun r12 M11 => ∃ x13 : Int, r12 = aI x13 ∧ ((-2147483648 ≤ (M 67 (v7.toNat)) + x13 ∧ (M 67 (v7.toNat)) + x13 < 2147483648) ∧ (∀ x15 : Int, x15 = (M 67 (v7.toNat)) + x13 → (∀ x18 : Int, x18 = (if v5 = (-1) then v7 else if v6 ≤ x15 then v5 else v7) → (∀ x19 : Int, x19 = (if v5 = (-1) then x15 else if v6 ≤ x15 then v6 else x15) → ((-2147483648 ≤ v7 + 1 ∧ v7 + 1 < 2147483648) ∧ (am_R K12_partedOf q 76 [aR 44, aJ, aJ, aI v3, aI v4, aI x18, aI x19, aI (v7 + 1), aJ] [] M11))))))))))) : am_R K12_partedOf q 76 [aR 44, aJ, aJ, aI v3, aI v4, aI v5, aI v6, aI v7, aJ] [] M := by
  refine s_iload 42 rfl rfl ?_
  refine s_iload 43 rfl rfl ?_
  refine s_ic 44 rfl (fun h1 => ?_) (fun h1 => ?_)
  · refine s_iload 70 rfl rfl ?_
    refine s_push 71 rfl ?_
    refine s_icne 72 rfl (fun h2 => ?_) (fun h2 => ?_)
    · refine s_iload 76 rfl rfl ?_
      refine s_i2l 77 rfl ?_
      refine s_aload 78 rfl rfl ?_
      refine s_callv (o := 44) 79 rfl rfl rfl rfl rfl (am_S.mono ((h.1 h1).2 h2) ?_)
      rintro r4 M3 ⟨x5, rfl, g6⟩
      show am_R K12_partedOf q 149 [aR 44, aJ, aJ, aI v3, aI v4, aI v5, aI v6, aI v7, aJ] [aI x5, aL v6] M3
      refine s_i2l 80 rfl ?_
      refine s_iload 81 rfl rfl ?_
      refine s_call 82 rfl rfl rfl rfl rfl (am_S.mono g6 ?_)
      rintro r8 M7 ⟨x9, rfl, g10⟩
      show am_R K12_partedOf q 154 [aR 44, aJ, aJ, aI v3, aI v4, aI v5, aI v6, aI v7, aJ] [aL x9] M7
      exact s_lret 83 rfl g10
    · refine s_iload 73 rfl rfl ?_
      refine s_i2l 74 rfl ?_
      refine s_goto 75 rfl ?_
      exact s_lret 83 rfl ((h.1 h1).1 h2)
  · refine s_aload 45 rfl rfl ?_
    refine s_getR 67 46 rfl rfl ?_
    refine s_iload 47 rfl rfl ?_
    refine s_iald (v := M 67 (v7.toNat)) 48 rfl rfl (h.2 h1).1 rfl ?_
    refine s_aload 49 rfl rfl ?_
    refine s_iload 50 rfl rfl ?_
    refine s_iload 51 rfl rfl ?_
    refine s_push 52 rfl ?_
    refine s_bin 53 rfl ?_
    refine s_bin 54 rfl ?_
    refine s_callv (o := 44) 55 rfl rfl rfl rfl rfl (am_S.mono (h.2 h1).2 ?_)
    rintro r12 M11 ⟨x13, rfl, g14⟩
    show am_R K12_partedOf q 101 [aR 44, aJ, aJ, aI v3, aI v4, aI v5, aI v6, aI v7, aJ] [aI x13, aI (M 67 (v7.toNat))] M11
    refine s_binX (v := (M 67 (v7.toNat)) + x13) 56 rfl g14.1 rfl ?_
    refine s_nameI (fun x15 ex15 => ?_)
    refine s_istore [aR 44, aJ, aJ, aI v3, aI v4, aI v5, aI v6, aI v7, aI x15] 57 rfl rfl ?_
    refine s_iload 58 rfl rfl ?_
    refine s_push 59 rfl ?_
    have j20 : ∀ (x18 : Int) (ex18 : x18 = (if v5 = (-1) then v7 else if v6 ≤ x15 then v5 else v7)) (x19 : Int) (ex19 : x19 = (if v5 = (-1) then x15 else if v6 ≤ x15 then v6 else x15)), am_R K12_partedOf q 125 [aR 44, aJ, aJ, aI v3, aI v4, aI x18, aI x19, aI v7, aI x15] [] M11 := by
      intro x18 ex18 x19 ex19
      refine s_iinc [aR 44, aJ, aJ, aI v3, aI v4, aI x18, aI x19, aI (v7 + 1), aI x15] 68 rfl rfl ((g14.2 x15 ex15) x18 ex18 x19 ex19).1 rfl ?_
      refine s_goto 69 rfl ?_
      exact am_R.jk (ls := [aR 44, aJ, aJ, aI v3, aI v4, aI x18, aI x19, aI (v7 + 1), aJ]) ⟨Or.inr rfl, Or.inr rfl, Or.inr rfl, Or.inr rfl, Or.inr rfl, Or.inr rfl, Or.inr rfl, Or.inr rfl, Or.inl rfl, trivial⟩ ((g14.2 x15 ex15) x18 ex18 x19 ex19).2
    refine s_ic 60 rfl (fun h16 => ?_) (fun h16 => ?_)
    · refine s_iload 64 rfl rfl ?_
      refine s_istore [aR 44, aJ, aJ, aI v3, aI v4, aI v7, aI v6, aI v7, aI x15] 65 rfl rfl ?_
      refine s_iload 66 rfl rfl ?_
      refine s_istore [aR 44, aJ, aJ, aI v3, aI v4, aI v7, aI x15, aI v7, aI x15] 67 rfl rfl ?_
      exact j20 _ (by rw [if_pos h16]) _ (by rw [if_pos h16])
    · refine s_iload 61 rfl rfl ?_
      refine s_iload 62 rfl rfl ?_
      refine s_ic 63 rfl (fun h17 => ?_) (fun h17 => ?_)
      · exact j20 _ (by rw [if_neg h16, if_pos h17]) _ (by rw [if_neg h16, if_pos h17])
      · refine s_iload 64 rfl rfl ?_
        refine s_istore [aR 44, aJ, aJ, aI v3, aI v4, aI v7, aI v6, aI v7, aI x15] 65 rfl rfl ?_
        refine s_iload 66 rfl rfl ?_
        refine s_istore [aR 44, aJ, aJ, aI v3, aI v4, aI v7, aI x15, aI v7, aI x15] 67 rfl rfl ?_
        exact j20 _ (by rw [if_neg h16, if_neg h17]) _ (by rw [if_neg h16, if_neg h17])
