theorem e12_meetOf {q : am_Q} {M : am_M} {v1 : Int} {v2 : Int} (h : am_R K12_meetOf q 9 [aR 44, aI v1, aI v2, aI (-1), aI 1000000, aI 0, aJ, aJ, aJ] [] M) : S12_meetOf [aR 44, aI v1, aI v2] M q := by
  refine am_S.intro rfl rfl ?_
  refine s_push 0 rfl ?_
  refine s_istore [aR 44, aI v1, aI v2, aI (-1), aJ, aJ, aJ, aJ, aJ] 1 rfl rfl ?_
  refine s_push 2 rfl ?_
  refine s_istore [aR 44, aI v1, aI v2, aI (-1), aI 1000000, aJ, aJ, aJ, aJ] 3 rfl rfl ?_
  refine s_push 4 rfl ?_
  refine s_istore [aR 44, aI v1, aI v2, aI (-1), aI 1000000, aI 0, aJ, aJ, aJ] 5 rfl rfl ?_
  exact h
theorem g12_meetOf_9 {q : am_Q} {M : am_M} {v1 v2 v3 v4 v5 : Int} (h : (64 ≤ v5 → (∀ x4 : Int, x4 = (if v2 = 0 then v3 else if v3 = (-1) then v3 else v4) → (q (aI x4) M))) ∧ (¬ (64 ≤ v5) → ((0 ≤ v5 ∧ v5 < 64) ∧ ((M 51 (v5.toNat) = 99 → ((-2147483648 ≤ v5 + 1 ∧ v5 + 1 < 2147483648) ∧ (am_R K12_meetOf q 9 [aR 44, aI v1, aI v2, aI v3, aI v4, aI (v5 + 1), aJ, aJ, aJ] [] M))) ∧ (¬ (M 51 (v5.toNat) = 99) → (S12_findFar [aR 44, aI v5, aI 0] M (fun _ M6 => am_R K12_meetOf q 41 [aR 44, aI v1, aI v2, aI v3, aI v4, aI v5, aI 0, aI 0, aJ] [] M6))))))) : am_R K12_meetOf q 9 [aR 44, aI v1, aI v2, aI v3, aI v4, aI v5, aJ, aJ, aJ] [] M := by
  refine s_iload 6 rfl rfl ?_
  refine s_push 7 rfl ?_
  refine s_ic 8 rfl (fun h1 => ?_) (fun h1 => ?_)
  · refine s_iload 74 rfl rfl ?_
    have j10 : ∀ (x4 : Int) (ex4 : x4 = (if v2 = 0 then v3 else if v3 = (-1) then v3 else v4)), am_R K12_meetOf q 166 [aR 44, aI v1, aI v2, aI v3, aI v4, aI v5, aJ, aJ, aJ] [aI x4] M := by
      intro x4 ex4
      exact s_iret 82 rfl ((h.1 h1) x4 ex4)
    refine s_if 75 rfl (fun h2 => ?_) (fun h2 => ?_)
    · refine s_iload 79 rfl rfl ?_
      refine s_goto 80 rfl ?_
      exact j10 _ (by rw [if_pos h2])
    · refine s_iload 76 rfl rfl ?_
      refine s_push 77 rfl ?_
      refine s_icne 78 rfl (fun h3 => ?_) (fun h3 => ?_)
      · refine s_iload 81 rfl rfl ?_
        exact j10 _ (by rw [if_neg h2, if_neg h3])
      · refine s_iload 79 rfl rfl ?_
        refine s_goto 80 rfl ?_
        exact j10 _ (by rw [if_neg h2, if_pos h3])
  · refine s_aload 9 rfl rfl ?_
    refine s_getR 51 10 rfl rfl ?_
    refine s_iload 11 rfl rfl ?_
    refine s_iald (v := M 51 (v5.toNat)) 12 rfl rfl (h.2 h1).1 rfl ?_
    refine s_push 13 rfl ?_
    refine s_ic 14 rfl (fun h5 => ?_) (fun h5 => ?_)
    · refine s_iinc [aR 44, aI v1, aI v2, aI v3, aI v4, aI (v5 + 1), aJ, aJ, aJ] 72 rfl rfl ((h.2 h1).2.1 h5).1 rfl ?_
      refine s_goto 73 rfl ?_
      exact ((h.2 h1).2.1 h5).2
    · refine s_aload 15 rfl rfl ?_
      refine s_iload 16 rfl rfl ?_
      refine s_push 17 rfl ?_
      refine s_callv (o := 44) 18 rfl rfl rfl rfl rfl (am_S.mono ((h.2 h1).2.2 h5) ?_)
      intro r7 M6 g9
      show am_R K12_meetOf q 35 [aR 44, aI v1, aI v2, aI v3, aI v4, aI v5, aJ, aJ, aJ] [] M6
      refine s_push 19 rfl ?_
      refine s_istore [aR 44, aI v1, aI v2, aI v3, aI v4, aI v5, aI 0, aJ, aJ] 20 rfl rfl ?_
      refine s_push 21 rfl ?_
      refine s_istore [aR 44, aI v1, aI v2, aI v3, aI v4, aI v5, aI 0, aI 0, aJ] 22 rfl rfl ?_
      exact g9
theorem g12_meetOf_41 {q : am_Q} {M : am_M} {v1 v2 v3 v4 v5 v6 v7 : Int} (h : (5 ≤ v7 → (∀ x3 : Int, x3 = (if v4 ≤ v6 then v3 else v5) → (∀ x5 : Int, x5 = (if v4 ≤ v6 then v4 else v6) → ((-2147483648 ≤ v5 + 1 ∧ v5 + 1 < 2147483648) ∧ (am_R K12_meetOf q 9 [aR 44, aI v1, aI v2, aI x3, aI x5, aI (v5 + 1), aJ, aJ, aJ] [] M))))) ∧ (¬ (5 ≤ v7) → ((ob_12_isIn v1 v7) ∧ ((am_and (am_shr v1 v7) 1 = 1 → ((0 ≤ v7 ∧ v7 < 5) ∧ ((¬ ((M 57 (v7.toNat)) < 0) ∧ ¬ (63 < (M 57 (v7.toNat)))) ∧ ¬ ((M 51) ((M 57 (v7.toNat)).toNat) = 99) → (0 ≤ M 57 (v7.toNat) ∧ M 57 (v7.toNat) < 64)))) ∧ (∀ x8 : Int, x8 = (if am_and (am_shr v1 v7) 1 = 1 then (if (¬ ((M 57 (v7.toNat)) < 0) ∧ ¬ (63 < (M 57 (v7.toNat)))) ∧ ¬ ((M 51) ((M 57 (v7.toNat)).toNat) = 99) then M 59 ((M 57 (v7.toNat)).toNat) else 1000000) else 0) → (∀ x10 : Int, x10 = (if x8 ≤ v6 then v6 else x8) → ((-2147483648 ≤ v7 + 1 ∧ v7 + 1 < 2147483648) ∧ (am_R K12_meetOf q 41 [aR 44, aI v1, aI v2, aI v3, aI v4, aI v5, aI x10, aI (v7 + 1), aJ] [] M)))))))) : am_R K12_meetOf q 41 [aR 44, aI v1, aI v2, aI v3, aI v4, aI v5, aI v6, aI v7, aJ] [] M := by
  refine s_iload 23 rfl rfl ?_
  refine s_push 24 rfl ?_
  refine s_ic 25 rfl (fun h1 => ?_) (fun h1 => ?_)
  · refine s_iload 58 rfl rfl ?_
    refine s_iload 59 rfl rfl ?_
    have j11 : ∀ (x3 : Int) (ex3 : x3 = (if v4 ≤ v6 then v3 else v5)), am_R K12_meetOf q 128 [aR 44, aI v1, aI v2, aI v3, aI v4, aI v5, aI v6, aI v7, aJ] [aI x3] M := by
      intro x3 ex3
      refine s_istore [aR 44, aI v1, aI v2, aI x3, aI v4, aI v5, aI v6, aI v7, aJ] 64 rfl rfl ?_
      refine s_iload 65 rfl rfl ?_
      refine s_iload 66 rfl rfl ?_
      have j12 : ∀ (x5 : Int) (ex5 : x5 = (if v4 ≤ v6 then v4 else v6)), am_R K12_meetOf q 143 [aR 44, aI v1, aI v2, aI x3, aI v4, aI v5, aI v6, aI v7, aJ] [aI x5] M := by
        intro x5 ex5
        refine s_istore [aR 44, aI v1, aI v2, aI x3, aI x5, aI v5, aI v6, aI v7, aJ] 71 rfl rfl ?_
        refine s_iinc [aR 44, aI v1, aI v2, aI x3, aI x5, aI (v5 + 1), aI v6, aI v7, aJ] 72 rfl rfl (((h.1 h1) x3 ex3) x5 ex5).1 rfl ?_
        refine s_goto 73 rfl ?_
        exact am_R.jk (ls := [aR 44, aI v1, aI v2, aI x3, aI x5, aI (v5 + 1), aJ, aJ, aJ]) ⟨Or.inr rfl, Or.inr rfl, Or.inr rfl, Or.inr rfl, Or.inr rfl, Or.inr rfl, Or.inl rfl, Or.inl rfl, Or.inr rfl, trivial⟩ (((h.1 h1) x3 ex3) x5 ex5).2
      refine s_ic 67 rfl (fun h4 => ?_) (fun h4 => ?_)
      · refine s_iload 70 rfl rfl ?_
        exact j12 _ (by rw [if_pos h4])
      · refine s_iload 68 rfl rfl ?_
        refine s_goto 69 rfl ?_
        exact j12 _ (by rw [if_neg h4])
    refine s_ic 60 rfl (fun h2 => ?_) (fun h2 => ?_)
    · refine s_iload 63 rfl rfl ?_
      exact j11 _ (by rw [if_pos h2])
    · refine s_iload 61 rfl rfl ?_
      refine s_goto 62 rfl ?_
      exact j11 _ (by rw [if_neg h2])
  · refine s_iload 26 rfl rfl ?_
    refine s_iload 27 rfl rfl ?_
    refine s_call 28 rfl rfl rfl rfl rfl (ct_12_isIn (h.2 h1).1 ?_)
    show am_R K12_meetOf q 53 [aR 44, aI v1, aI v2, aI v3, aI v4, aI v5, aI v6, aI v7, aJ] [aI (if am_and (am_shr v1 v7) 1 = 1 then 1 else 0)] M
    have j13 : ∀ (x8 : Int) (ex8 : x8 = (if am_and (am_shr v1 v7) 1 = 1 then (if (¬ ((M 57 (v7.toNat)) < 0) ∧ ¬ (63 < (M 57 (v7.toNat)))) ∧ ¬ ((M 51) ((M 57 (v7.toNat)).toNat) = 99) then M 59 ((M 57 (v7.toNat)).toNat) else 1000000) else 0)), am_R K12_meetOf q 91 [aR 44, aI v1, aI v2, aI v3, aI v4, aI v5, aI v6, aI v7, aJ] [aI x8] M := by
      intro x8 ex8
      refine s_istore [aR 44, aI v1, aI v2, aI v3, aI v4, aI v5, aI v6, aI v7, aI x8] 48 rfl rfl ?_
      refine s_iload 49 rfl rfl ?_
      refine s_iload 50 rfl rfl ?_
      have j14 : ∀ (x10 : Int) (ex10 : x10 = (if x8 ≤ v6 then v6 else x8)), am_R K12_meetOf q 107 [aR 44, aI v1, aI v2, aI v3, aI v4, aI v5, aI v6, aI v7, aI x8] [aI x10] M := by
        intro x10 ex10
        refine s_istore [aR 44, aI v1, aI v2, aI v3, aI v4, aI v5, aI x10, aI v7, aI x8] 55 rfl rfl ?_
        refine s_iinc [aR 44, aI v1, aI v2, aI v3, aI v4, aI v5, aI x10, aI (v7 + 1), aI x8] 56 rfl rfl (((h.2 h1).2.2 x8 ex8) x10 ex10).1 rfl ?_
        refine s_goto 57 rfl ?_
        exact am_R.jk (ls := [aR 44, aI v1, aI v2, aI v3, aI v4, aI v5, aI x10, aI (v7 + 1), aJ]) ⟨Or.inr rfl, Or.inr rfl, Or.inr rfl, Or.inr rfl, Or.inr rfl, Or.inr rfl, Or.inr rfl, Or.inr rfl, Or.inl rfl, trivial⟩ (((h.2 h1).2.2 x8 ex8) x10 ex10).2
      refine s_ic 51 rfl (fun h9 => ?_) (fun h9 => ?_)
      · refine s_iload 54 rfl rfl ?_
        exact j14 _ (by rw [if_pos h9])
      · refine s_iload 52 rfl rfl ?_
        refine s_goto 53 rfl ?_
        exact j14 _ (by rw [if_neg h9])
    refine s_ifneB 29 rfl (fun h6 => ?_) (fun h6 => ?_)
    · refine s_aload 32 rfl rfl ?_
      refine s_aload 33 rfl rfl ?_
      refine s_getR 57 34 rfl rfl ?_
      refine s_iload 35 rfl rfl ?_
      refine s_iald (v := M 57 (v7.toNat)) 36 rfl rfl ((h.2 h1).2.1 h6).1 rfl ?_
      refine s_callv (o := 44) 37 rfl rfl rfl rfl rfl (ct_12_isPlace ?_)
      show am_R K12_meetOf q 71 [aR 44, aI v1, aI v2, aI v3, aI v4, aI v5, aI v6, aI v7, aJ] [aI (if (¬ ((M 57 (v7.toNat)) < 0) ∧ ¬ (63 < (M 57 (v7.toNat)))) ∧ ¬ ((M 51) ((M 57 (v7.toNat)).toNat) = 99) then 1 else 0)] M
      refine s_ifeqB 38 rfl (fun h7 => ?_) (fun h7 => ?_)
      · refine s_push 47 rfl ?_
        exact j13 _ (by rw [if_pos h6, if_neg h7])
      · refine s_aload 39 rfl rfl ?_
        refine s_getR 59 40 rfl rfl ?_
        refine s_aload 41 rfl rfl ?_
        refine s_getR 57 42 rfl rfl ?_
        refine s_iload 43 rfl rfl ?_
        refine s_iald (v := M 57 (v7.toNat)) 44 rfl rfl ((h.2 h1).2.1 h6).1 rfl ?_
        refine s_iald (v := M 59 ((M 57 (v7.toNat)).toNat)) 45 rfl rfl (((h.2 h1).2.1 h6).2 h7) rfl ?_
        refine s_goto 46 rfl ?_
        exact j13 _ (by rw [if_pos h6, if_pos h7])
    · refine s_push 30 rfl ?_
      refine s_goto 31 rfl ?_
      exact j13 _ (by rw [if_neg h6])
theorem e12_digest {q : am_Q} {M : am_M}  (h : am_R K12_digest q 6 [aR 44, aL 17, aJ, aI 0] [] M) : S12_digest [aR 44] M q := by
  refine am_S.intro rfl rfl ?_
  refine s_push 0 rfl ?_
  refine s_lstore [aR 44, aL 17, aJ, aJ] 1 rfl rfl ?_
  refine s_push 2 rfl ?_
  refine s_istore [aR 44, aL 17, aJ, aI 0] 3 rfl rfl ?_
  exact h
theorem g12_digest_6 {q : am_Q} {M : am_M} {v1 v3 : Int} (h : (8 ≤ v3 → (am_R K12_digest q 33 [aR 44, aL v1, aJ, aI 0] [] M)) ∧ (¬ (8 ≤ v3) → (S12_count [aR 44, aI v3] M (fun r3 M2 => ∃ x4 : Int, r3 = aI x4 ∧ (∀ x6 : Int, x6 = w64 ((w64 (31 * v1)) + x4) → ((-2147483648 ≤ v3 + 1 ∧ v3 + 1 < 2147483648) ∧ (am_R K12_digest q 6 [aR 44, aL x6, aJ, aI (v3 + 1)] [] M2))))))) : am_R K12_digest q 6 [aR 44, aL v1, aJ, aI v3] [] M := by
  refine s_iload 4 rfl rfl ?_
  refine s_push 5 rfl ?_
  refine s_ic 6 rfl (fun h1 => ?_) (fun h1 => ?_)
  · refine s_push 18 rfl ?_
    refine s_istore [aR 44, aL v1, aJ, aI 0] 19 rfl rfl ?_
    exact (h.1 h1)
  · refine s_push 7 rfl ?_
    refine s_lload 8 rfl rfl ?_
    refine s_binL 9 rfl ?_
    refine s_aload 10 rfl rfl ?_
    refine s_iload 11 rfl rfl ?_
    refine s_callv (o := 44) 12 rfl rfl rfl rfl rfl (am_S.mono (h.2 h1) ?_)
    rintro r3 M2 ⟨x4, rfl, g5⟩
    show am_R K12_digest q 22 [aR 44, aL v1, aJ, aI v3] [aI x4, aL (w64 (31 * v1))] M2
    refine s_i2l 13 rfl ?_
    refine s_binL 14 rfl ?_
    refine s_nameL (fun x6 ex6 => ?_)
    refine s_lstore [aR 44, aL x6, aJ, aI v3] 15 rfl rfl ?_
    refine s_iinc [aR 44, aL x6, aJ, aI (v3 + 1)] 16 rfl rfl (g5 x6 ex6).1 rfl ?_
    refine s_goto 17 rfl ?_
    exact (g5 x6 ex6).2
theorem g12_digest_33 {q : am_Q} {M : am_M} {v1 v3 : Int} (h : (3 ≤ v3 → (S12_judged [aR 44] M (fun r3 M2 => ∃ x4 : Int, r3 = aI x4 ∧ (∀ x6 : Int, x6 = w64 ((w64 (31 * v1)) + x4) → (S12_at [aR 44, aI (M2 44 17)] M2 (fun r8 M7 => ∃ x9 : Int, r8 = aI x9 ∧ (∀ x11 : Int, x11 = w64 ((w64 (31 * x6)) + x9) → (S12_looseNow [aR 44] M7 (fun r13 M12 => ∃ x14 : Int, r13 = aI x14 ∧ (∀ x16 : Int, x16 = w64 ((w64 (31 * x11)) + x14) → (S12_riskNow [aR 44] M12 (fun r18 M17 => ∃ x19 : Int, r18 = aI x19 ∧ (∀ x21 : Int, x21 = w64 ((w64 (31 * x16)) + x19) → (am_R K12_digest q 111 [aR 44, aL x21, aJ, aI 0] [] M17)))))))))))))) ∧ (¬ (3 ≤ v3) → (S12_fault [aR 44, aI v3] M (fun r23 M22 => ∃ x24 : Int, r23 = aI x24 ∧ (∀ x26 : Int, x26 = w64 ((w64 (31 * v1)) + x24) → ((-2147483648 ≤ v3 + 1 ∧ v3 + 1 < 2147483648) ∧ (am_R K12_digest q 33 [aR 44, aL x26, aJ, aI (v3 + 1)] [] M22))))))) : am_R K12_digest q 33 [aR 44, aL v1, aJ, aI v3] [] M := by
  refine s_iload 20 rfl rfl ?_
  refine s_push 21 rfl ?_
  refine s_ic 22 rfl (fun h1 => ?_) (fun h1 => ?_)
  · refine s_push 34 rfl ?_
    refine s_lload 35 rfl rfl ?_
    refine s_binL 36 rfl ?_
    refine s_aload 37 rfl rfl ?_
    refine s_callv (o := 44) 38 rfl rfl rfl rfl rfl (am_S.mono (h.1 h1) ?_)
    rintro r3 M2 ⟨x4, rfl, g5⟩
    show am_R K12_digest q 66 [aR 44, aL v1, aJ, aI v3] [aI x4, aL (w64 (31 * v1))] M2
    refine s_i2l 39 rfl ?_
    refine s_binL 40 rfl ?_
    refine s_nameL (fun x6 ex6 => ?_)
    refine s_lstore [aR 44, aL x6, aJ, aI v3] 41 rfl rfl ?_
    refine s_push 42 rfl ?_
    refine s_lload 43 rfl rfl ?_
    refine s_binL 44 rfl ?_
    refine s_aload 45 rfl rfl ?_
    refine s_aload 46 rfl rfl ?_
    refine s_getI (v := M2 44 17) 47 rfl rfl rfl ?_
    refine s_callv (o := 44) 48 rfl rfl rfl rfl rfl (am_S.mono (g5 x6 ex6) ?_)
    rintro r8 M7 ⟨x9, rfl, g10⟩
    show am_R K12_digest q 82 [aR 44, aL x6, aJ, aI v3] [aI x9, aL (w64 (31 * x6))] M7
    refine s_i2l 49 rfl ?_
    refine s_binL 50 rfl ?_
    refine s_nameL (fun x11 ex11 => ?_)
    refine s_lstore [aR 44, aL x11, aJ, aI v3] 51 rfl rfl ?_
    refine s_push 52 rfl ?_
    refine s_lload 53 rfl rfl ?_
    refine s_binL 54 rfl ?_
    refine s_aload 55 rfl rfl ?_
    refine s_callv (o := 44) 56 rfl rfl rfl rfl rfl (am_S.mono (g10 x11 ex11) ?_)
    rintro r13 M12 ⟨x14, rfl, g15⟩
    show am_R K12_digest q 94 [aR 44, aL x11, aJ, aI v3] [aI x14, aL (w64 (31 * x11))] M12
    refine s_i2l 57 rfl ?_
    refine s_binL 58 rfl ?_
    refine s_nameL (fun x16 ex16 => ?_)
    refine s_lstore [aR 44, aL x16, aJ, aI v3] 59 rfl rfl ?_
    refine s_push 60 rfl ?_
    refine s_lload 61 rfl rfl ?_
    refine s_binL 62 rfl ?_
    refine s_aload 63 rfl rfl ?_
    refine s_callv (o := 44) 64 rfl rfl rfl rfl rfl (am_S.mono (g15 x16 ex16) ?_)
    rintro r18 M17 ⟨x19, rfl, g20⟩
    show am_R K12_digest q 106 [aR 44, aL x16, aJ, aI v3] [aI x19, aL (w64 (31 * x16))] M17
    refine s_i2l 65 rfl ?_
    refine s_binL 66 rfl ?_
    refine s_nameL (fun x21 ex21 => ?_)
    refine s_lstore [aR 44, aL x21, aJ, aI v3] 67 rfl rfl ?_
    refine s_push 68 rfl ?_
    refine s_istore [aR 44, aL x21, aJ, aI 0] 69 rfl rfl ?_
    exact (g20 x21 ex21)
  · refine s_push 23 rfl ?_
    refine s_lload 24 rfl rfl ?_
    refine s_binL 25 rfl ?_
    refine s_aload 26 rfl rfl ?_
    refine s_iload 27 rfl rfl ?_
    refine s_callv (o := 44) 28 rfl rfl rfl rfl rfl (am_S.mono (h.2 h1) ?_)
    rintro r23 M22 ⟨x24, rfl, g25⟩
    show am_R K12_digest q 48 [aR 44, aL v1, aJ, aI v3] [aI x24, aL (w64 (31 * v1))] M22
    refine s_i2l 29 rfl ?_
    refine s_binL 30 rfl ?_
    refine s_nameL (fun x26 ex26 => ?_)
    refine s_lstore [aR 44, aL x26, aJ, aI v3] 31 rfl rfl ?_
    refine s_iinc [aR 44, aL x26, aJ, aI (v3 + 1)] 32 rfl rfl (g25 x26 ex26).1 rfl ?_
    refine s_goto 33 rfl ?_
    exact (g25 x26 ex26).2
theorem g12_digest_111 {q : am_Q} {M : am_M} {v1 v3 : Int} (h : (2 ≤ v3 → (am_R K12_digest q 136 [aR 44, aL v1, aJ, aI 0] [] M)) ∧ (¬ (2 ≤ v3) → (S12_alikeOf [aR 44, aI v3] M (fun r3 M2 => ∃ x4 : Int, r3 = aL x4 ∧ (∀ x6 : Int, x6 = w64 ((w64 (31 * v1)) + x4) → ((-2147483648 ≤ v3 + 1 ∧ v3 + 1 < 2147483648) ∧ (am_R K12_digest q 111 [aR 44, aL x6, aJ, aI (v3 + 1)] [] M2))))))) : am_R K12_digest q 111 [aR 44, aL v1, aJ, aI v3] [] M := by
  refine s_iload 70 rfl rfl ?_
  refine s_push 71 rfl ?_
  refine s_ic 72 rfl (fun h1 => ?_) (fun h1 => ?_)
  · refine s_push 83 rfl ?_
    refine s_istore [aR 44, aL v1, aJ, aI 0] 84 rfl rfl ?_
    exact (h.1 h1)
  · refine s_push 73 rfl ?_
    refine s_lload 74 rfl rfl ?_
    refine s_binL 75 rfl ?_
    refine s_aload 76 rfl rfl ?_
    refine s_iload 77 rfl rfl ?_
    refine s_callv (o := 44) 78 rfl rfl rfl rfl rfl (am_S.mono (h.2 h1) ?_)
    rintro r3 M2 ⟨x4, rfl, g5⟩
    show am_R K12_digest q 126 [aR 44, aL v1, aJ, aI v3] [aL x4, aL (w64 (31 * v1))] M2
    refine s_binL 79 rfl ?_
    refine s_nameL (fun x6 ex6 => ?_)
    refine s_lstore [aR 44, aL x6, aJ, aI v3] 80 rfl rfl ?_
    refine s_iinc [aR 44, aL x6, aJ, aI (v3 + 1)] 81 rfl rfl (g5 x6 ex6).1 rfl ?_
    refine s_goto 82 rfl ?_
    exact (g5 x6 ex6).2
theorem g12_digest_136 {q : am_Q} {M : am_M} {v1 v3 : Int} (h : (5 ≤ v3 → (S12_near [aR 44, aI 0, aI 9] M (fun r3 M2 => ∃ x4 : Int, r3 = aI x4 ∧ (∀ x6 : Int, x6 = w64 ((w64 (31 * v1)) + x4) → (am_R K12_digest q 218 [aR 44, aL x6, aJ, aI (-2)] [] M2))))) ∧ (¬ (5 ≤ v3) → ((ob_12_orderOf (M 44) (M 52) v3) ∧ (∀ x7 : Int, x7 = w64 ((w64 (31 * v1)) + (f_12_orderOf (M 44) (M 52) v3)) → (S12_seekOf [aR 44, aI v3, aI (-2)] M (fun r9 M8 => ∃ x10 : Int, r9 = aL x10 ∧ (∀ x12 : Int, x12 = w64 ((w64 (31 * x7)) + x10) → (S12_seekOf [aR 44, aI v3, aI (-1)] M8 (fun r14 M13 => ∃ x15 : Int, r14 = aL x15 ∧ (∀ x17 : Int, x17 = w64 ((w64 (31 * x12)) + x15) → (S12_seekOf [aR 44, aI v3, aI 0] M13 (fun r19 M18 => ∃ x20 : Int, r19 = aL x20 ∧ (∀ x22 : Int, x22 = w64 ((w64 (31 * x17)) + x20) → ((-2147483648 ≤ v3 + 1 ∧ v3 + 1 < 2147483648) ∧ (am_R K12_digest q 136 [aR 44, aL x22, aJ, aI (v3 + 1)] [] M18))))))))))))))) : am_R K12_digest q 136 [aR 44, aL v1, aJ, aI v3] [] M := by
  refine s_iload 85 rfl rfl ?_
  refine s_push 86 rfl ?_
  refine s_ic 87 rfl (fun h1 => ?_) (fun h1 => ?_)
  · refine s_push 126 rfl ?_
    refine s_lload 127 rfl rfl ?_
    refine s_binL 128 rfl ?_
    refine s_aload 129 rfl rfl ?_
    refine s_push 130 rfl ?_
    refine s_push 131 rfl ?_
    refine s_callv (o := 44) 132 rfl rfl rfl rfl rfl (am_S.mono (h.1 h1) ?_)
    rintro r3 M2 ⟨x4, rfl, g5⟩
    show am_R K12_digest q 212 [aR 44, aL v1, aJ, aI v3] [aI x4, aL (w64 (31 * v1))] M2
    refine s_i2l 133 rfl ?_
    refine s_binL 134 rfl ?_
    refine s_nameL (fun x6 ex6 => ?_)
    refine s_lstore [aR 44, aL x6, aJ, aI v3] 135 rfl rfl ?_
    refine s_push 136 rfl ?_
    refine s_istore [aR 44, aL x6, aJ, aI (-2)] 137 rfl rfl ?_
    exact (g5 x6 ex6)
  · refine s_push 88 rfl ?_
    refine s_lload 89 rfl rfl ?_
    refine s_binL 90 rfl ?_
    refine s_aload 91 rfl rfl ?_
    refine s_iload 92 rfl rfl ?_
    refine s_callv (o := 44) 93 rfl rfl rfl rfl rfl (ct_12_orderOf (h.2 h1).1 ?_)
    show am_R K12_digest q 151 [aR 44, aL v1, aJ, aI v3] [aI (f_12_orderOf (M 44) (M 52) v3), aL (w64 (31 * v1))] M
    refine s_i2l 94 rfl ?_
    refine s_binL 95 rfl ?_
    refine s_nameL (fun x7 ex7 => ?_)
    refine s_lstore [aR 44, aL x7, aJ, aI v3] 96 rfl rfl ?_
    refine s_push 97 rfl ?_
    refine s_lload 98 rfl rfl ?_
    refine s_binL 99 rfl ?_
    refine s_aload 100 rfl rfl ?_
    refine s_iload 101 rfl rfl ?_
    refine s_push 102 rfl ?_
    refine s_callv (o := 44) 103 rfl rfl rfl rfl rfl (am_S.mono ((h.2 h1).2 x7 ex7) ?_)
    rintro r9 M8 ⟨x10, rfl, g11⟩
    show am_R K12_digest q 166 [aR 44, aL x7, aJ, aI v3] [aL x10, aL (w64 (31 * x7))] M8
    refine s_binL 104 rfl ?_
    refine s_nameL (fun x12 ex12 => ?_)
    refine s_lstore [aR 44, aL x12, aJ, aI v3] 105 rfl rfl ?_
    refine s_push 106 rfl ?_
    refine s_lload 107 rfl rfl ?_
    refine s_binL 108 rfl ?_
    refine s_aload 109 rfl rfl ?_
    refine s_iload 110 rfl rfl ?_
    refine s_push 111 rfl ?_
    refine s_callv (o := 44) 112 rfl rfl rfl rfl rfl (am_S.mono (g11 x12 ex12) ?_)
    rintro r14 M13 ⟨x15, rfl, g16⟩
    show am_R K12_digest q 179 [aR 44, aL x12, aJ, aI v3] [aL x15, aL (w64 (31 * x12))] M13
    refine s_binL 113 rfl ?_
    refine s_nameL (fun x17 ex17 => ?_)
    refine s_lstore [aR 44, aL x17, aJ, aI v3] 114 rfl rfl ?_
    refine s_push 115 rfl ?_
    refine s_lload 116 rfl rfl ?_
    refine s_binL 117 rfl ?_
    refine s_aload 118 rfl rfl ?_
    refine s_iload 119 rfl rfl ?_
    refine s_push 120 rfl ?_
    refine s_callv (o := 44) 121 rfl rfl rfl rfl rfl (am_S.mono (g16 x17 ex17) ?_)
    rintro r19 M18 ⟨x20, rfl, g21⟩
    show am_R K12_digest q 192 [aR 44, aL x17, aJ, aI v3] [aL x20, aL (w64 (31 * x17))] M18
    refine s_binL 122 rfl ?_
    refine s_nameL (fun x22 ex22 => ?_)
    refine s_lstore [aR 44, aL x22, aJ, aI v3] 123 rfl rfl ?_
    refine s_iinc [aR 44, aL x22, aJ, aI (v3 + 1)] 124 rfl rfl (g21 x22 ex22).1 rfl ?_
    refine s_goto 125 rfl ?_
    exact (g21 x22 ex22).2
theorem g12_digest_218 {q : am_Q} {M : am_M} {v1 v3 : Int} (h : (2 ≤ v3 → (am_R K12_digest q 247 [aR 44, aL v1, aJ, aI (-1)] [] M)) ∧ (¬ (2 ≤ v3) → (S12_easiest [aR 44, aI 0, aI 9, aI v3] M (fun r3 M2 => ∃ x4 : Int, r3 = aI x4 ∧ (∀ x6 : Int, x6 = w64 ((w64 (31 * v1)) + x4) → ((-2147483648 ≤ v3 + 1 ∧ v3 + 1 < 2147483648) ∧ (am_R K12_digest q 218 [aR 44, aL x6, aJ, aI (v3 + 1)] [] M2))))))) : am_R K12_digest q 218 [aR 44, aL v1, aJ, aI v3] [] M := by
  refine s_iload 138 rfl rfl ?_
  refine s_push 139 rfl ?_
  refine s_ic 140 rfl (fun h1 => ?_) (fun h1 => ?_)
  · refine s_push 154 rfl ?_
    refine s_istore [aR 44, aL v1, aJ, aI (-1)] 155 rfl rfl ?_
    exact (h.1 h1)
  · refine s_push 141 rfl ?_
    refine s_lload 142 rfl rfl ?_
    refine s_binL 143 rfl ?_
    refine s_aload 144 rfl rfl ?_
    refine s_push 145 rfl ?_
    refine s_push 146 rfl ?_
    refine s_iload 147 rfl rfl ?_
    refine s_callv (o := 44) 148 rfl rfl rfl rfl rfl (am_S.mono (h.2 h1) ?_)
    rintro r3 M2 ⟨x4, rfl, g5⟩
    show am_R K12_digest q 236 [aR 44, aL v1, aJ, aI v3] [aI x4, aL (w64 (31 * v1))] M2
    refine s_i2l 149 rfl ?_
    refine s_binL 150 rfl ?_
    refine s_nameL (fun x6 ex6 => ?_)
    refine s_lstore [aR 44, aL x6, aJ, aI v3] 151 rfl rfl ?_
    refine s_iinc [aR 44, aL x6, aJ, aI (v3 + 1)] 152 rfl rfl (g5 x6 ex6).1 rfl ?_
    refine s_goto 153 rfl ?_
    exact (g5 x6 ex6).2
theorem g12_digest_247 {q : am_Q} {M : am_M} {v1 v3 : Int} (h : (5 ≤ v3 → (S12_holds [aR 44, aI 0, aI 0, aI 2, aI 0] M (fun r3 M2 => ∃ x4 : Int, r3 = aL x4 ∧ (∀ x6 : Int, x6 = w64 ((w64 (31 * v1)) + x4) → (am_R K12_digest q 290 [aR 44, aL x6, aJ, aI 0] [] M2))))) ∧ (¬ (5 ≤ v3) → (S12_bestOf [aR 44, aI 31, aI v3] M (fun r8 M7 => ∃ x9 : Int, r8 = aI x9 ∧ (∀ x11 : Int, x11 = w64 ((w64 (31 * v1)) + x9) → ((-2147483648 ≤ v3 + 1 ∧ v3 + 1 < 2147483648) ∧ (am_R K12_digest q 247 [aR 44, aL x11, aJ, aI (v3 + 1)] [] M7))))))) : am_R K12_digest q 247 [aR 44, aL v1, aJ, aI v3] [] M := by
  refine s_iload 156 rfl rfl ?_
  refine s_push 157 rfl ?_
  refine s_ic 158 rfl (fun h1 => ?_) (fun h1 => ?_)
  · refine s_push 171 rfl ?_
    refine s_lload 172 rfl rfl ?_
    refine s_binL 173 rfl ?_
    refine s_aload 174 rfl rfl ?_
    refine s_push 175 rfl ?_
    refine s_push 176 rfl ?_
    refine s_push 177 rfl ?_
    refine s_push 178 rfl ?_
    refine s_callv (o := 44) 179 rfl rfl rfl rfl rfl (am_S.mono (h.1 h1) ?_)
    rintro r3 M2 ⟨x4, rfl, g5⟩
    show am_R K12_digest q 286 [aR 44, aL v1, aJ, aI v3] [aL x4, aL (w64 (31 * v1))] M2
    refine s_binL 180 rfl ?_
    refine s_nameL (fun x6 ex6 => ?_)
    refine s_lstore [aR 44, aL x6, aJ, aI v3] 181 rfl rfl ?_
    refine s_push 182 rfl ?_
    refine s_istore [aR 44, aL x6, aJ, aI 0] 183 rfl rfl ?_
    exact (g5 x6 ex6)
  · refine s_push 159 rfl ?_
    refine s_lload 160 rfl rfl ?_
    refine s_binL 161 rfl ?_
    refine s_aload 162 rfl rfl ?_
    refine s_push 163 rfl ?_
    refine s_iload 164 rfl rfl ?_
    refine s_callv (o := 44) 165 rfl rfl rfl rfl rfl (am_S.mono (h.2 h1) ?_)
    rintro r8 M7 ⟨x9, rfl, g10⟩
    show am_R K12_digest q 264 [aR 44, aL v1, aJ, aI v3] [aI x9, aL (w64 (31 * v1))] M7
    refine s_i2l 166 rfl ?_
    refine s_binL 167 rfl ?_
    refine s_nameL (fun x11 ex11 => ?_)
    refine s_lstore [aR 44, aL x11, aJ, aI v3] 168 rfl rfl ?_
    refine s_iinc [aR 44, aL x11, aJ, aI (v3 + 1)] 169 rfl rfl (g10 x11 ex11).1 rfl ?_
    refine s_goto 170 rfl ?_
    exact (g10 x11 ex11).2
theorem g12_digest_290 {q : am_Q} {M : am_M} {v1 v3 : Int} (h : (4 ≤ v3 → (S12_fairsOf [aR 44, aI 7, aI 9] M (fun r3 M2 => ∃ x4 : Int, r3 = aI x4 ∧ (∀ x6 : Int, x6 = w64 ((w64 (31 * v1)) + x4) → (am_R K12_digest q 334 [aR 44, aL x6, aJ, aI 0] [] M2))))) ∧ (¬ (4 ≤ v3) → (S12_tornOf [aR 44, aI 7, aI v3] M (fun r8 M7 => ∃ x9 : Int, r8 = aI x9 ∧ (∀ x11 : Int, x11 = w64 ((w64 (31 * v1)) + x9) → ((-2147483648 ≤ v3 + 1 ∧ v3 + 1 < 2147483648) ∧ (am_R K12_digest q 290 [aR 44, aL x11, aJ, aI (v3 + 1)] [] M7))))))) : am_R K12_digest q 290 [aR 44, aL v1, aJ, aI v3] [] M := by
  refine s_iload 184 rfl rfl ?_
  refine s_push 185 rfl ?_
  refine s_ic 186 rfl (fun h1 => ?_) (fun h1 => ?_)
  · refine s_push 199 rfl ?_
    refine s_lload 200 rfl rfl ?_
    refine s_binL 201 rfl ?_
    refine s_aload 202 rfl rfl ?_
    refine s_push 203 rfl ?_
    refine s_push 204 rfl ?_
    refine s_callv (o := 44) 205 rfl rfl rfl rfl rfl (am_S.mono (h.1 h1) ?_)
    rintro r3 M2 ⟨x4, rfl, g5⟩
    show am_R K12_digest q 329 [aR 44, aL v1, aJ, aI v3] [aI x4, aL (w64 (31 * v1))] M2
    refine s_i2l 206 rfl ?_
    refine s_binL 207 rfl ?_
    refine s_nameL (fun x6 ex6 => ?_)
    refine s_lstore [aR 44, aL x6, aJ, aI v3] 208 rfl rfl ?_
    refine s_push 209 rfl ?_
    refine s_istore [aR 44, aL x6, aJ, aI 0] 210 rfl rfl ?_
    exact (g5 x6 ex6)
  · refine s_push 187 rfl ?_
    refine s_lload 188 rfl rfl ?_
    refine s_binL 189 rfl ?_
    refine s_aload 190 rfl rfl ?_
    refine s_push 191 rfl ?_
    refine s_iload 192 rfl rfl ?_
    refine s_callv (o := 44) 193 rfl rfl rfl rfl rfl (am_S.mono (h.2 h1) ?_)
    rintro r8 M7 ⟨x9, rfl, g10⟩
    show am_R K12_digest q 307 [aR 44, aL v1, aJ, aI v3] [aI x9, aL (w64 (31 * v1))] M7
    refine s_i2l 194 rfl ?_
    refine s_binL 195 rfl ?_
    refine s_nameL (fun x11 ex11 => ?_)
    refine s_lstore [aR 44, aL x11, aJ, aI v3] 196 rfl rfl ?_
    refine s_iinc [aR 44, aL x11, aJ, aI (v3 + 1)] 197 rfl rfl (g10 x11 ex11).1 rfl ?_
    refine s_goto 198 rfl ?_
    exact (g10 x11 ex11).2
theorem g12_digest_334 {q : am_Q} {M : am_M} {v1 v3 : Int} (h : (2 ≤ v3 → (S12_likeliest [aR 44, aI 0, aI 4] M (fun r3 M2 => ∃ x4 : Int, r3 = aI x4 ∧ (∀ x6 : Int, x6 = w64 ((w64 (31 * v1)) + x4) → (am_R K12_digest q 376 [aR 44, aL x6, aJ, aI 0] [] M2))))) ∧ (¬ (2 ≤ v3) → (S12_is [aR 44, aI 0, aI 3, aI 1, aI v3] M (fun r8 M7 => ∃ x9 : Int, r8 = aL x9 ∧ (∀ x11 : Int, x11 = w64 ((w64 (31 * v1)) + x9) → ((-2147483648 ≤ v3 + 1 ∧ v3 + 1 < 2147483648) ∧ (am_R K12_digest q 334 [aR 44, aL x11, aJ, aI (v3 + 1)] [] M7))))))) : am_R K12_digest q 334 [aR 44, aL v1, aJ, aI v3] [] M := by
  refine s_iload 211 rfl rfl ?_
  refine s_push 212 rfl ?_
  refine s_ic 213 rfl (fun h1 => ?_) (fun h1 => ?_)
  · refine s_push 227 rfl ?_
    refine s_lload 228 rfl rfl ?_
    refine s_binL 229 rfl ?_
    refine s_aload 230 rfl rfl ?_
    refine s_push 231 rfl ?_
    refine s_push 232 rfl ?_
    refine s_callv (o := 44) 233 rfl rfl rfl rfl rfl (am_S.mono (h.1 h1) ?_)
    rintro r3 M2 ⟨x4, rfl, g5⟩
    show am_R K12_digest q 371 [aR 44, aL v1, aJ, aI v3] [aI x4, aL (w64 (31 * v1))] M2
    refine s_i2l 234 rfl ?_
    refine s_binL 235 rfl ?_
    refine s_nameL (fun x6 ex6 => ?_)
    refine s_lstore [aR 44, aL x6, aJ, aI v3] 236 rfl rfl ?_
    refine s_push 237 rfl ?_
    refine s_istore [aR 44, aL x6, aJ, aI 0] 238 rfl rfl ?_
    exact (g5 x6 ex6)
  · refine s_push 214 rfl ?_
    refine s_lload 215 rfl rfl ?_
    refine s_binL 216 rfl ?_
    refine s_aload 217 rfl rfl ?_
    refine s_push 218 rfl ?_
    refine s_push 219 rfl ?_
    refine s_push 220 rfl ?_
    refine s_iload 221 rfl rfl ?_
    refine s_callv (o := 44) 222 rfl rfl rfl rfl rfl (am_S.mono (h.2 h1) ?_)
    rintro r8 M7 ⟨x9, rfl, g10⟩
    show am_R K12_digest q 352 [aR 44, aL v1, aJ, aI v3] [aL x9, aL (w64 (31 * v1))] M7
    refine s_binL 223 rfl ?_
    refine s_nameL (fun x11 ex11 => ?_)
    refine s_lstore [aR 44, aL x11, aJ, aI v3] 224 rfl rfl ?_
    refine s_iinc [aR 44, aL x11, aJ, aI (v3 + 1)] 225 rfl rfl (g10 x11 ex11).1 rfl ?_
    refine s_goto 226 rfl ?_
    exact (g10 x11 ex11).2
theorem g12_digest_376 {q : am_Q} {M : am_M} {v1 v3 : Int} (h : (3 ≤ v3 → (am_R K12_digest q 403 [aR 44, aL v1, aJ, aI 0] [] M)) ∧ (¬ (3 ≤ v3) → (S12_partedOf [aR 44, aI 0, aI 1, aI v3] M (fun r3 M2 => ∃ x4 : Int, r3 = aL x4 ∧ (∀ x6 : Int, x6 = w64 ((w64 (31 * v1)) + x4) → ((-2147483648 ≤ v3 + 1 ∧ v3 + 1 < 2147483648) ∧ (am_R K12_digest q 376 [aR 44, aL x6, aJ, aI (v3 + 1)] [] M2))))))) : am_R K12_digest q 376 [aR 44, aL v1, aJ, aI v3] [] M := by
  refine s_iload 239 rfl rfl ?_
  refine s_push 240 rfl ?_
  refine s_ic 241 rfl (fun h1 => ?_) (fun h1 => ?_)
  · refine s_push 254 rfl ?_
    refine s_istore [aR 44, aL v1, aJ, aI 0] 255 rfl rfl ?_
    exact (h.1 h1)
  · refine s_push 242 rfl ?_
    refine s_lload 243 rfl rfl ?_
    refine s_binL 244 rfl ?_
    refine s_aload 245 rfl rfl ?_
    refine s_push 246 rfl ?_
    refine s_push 247 rfl ?_
    refine s_iload 248 rfl rfl ?_
    refine s_callv (o := 44) 249 rfl rfl rfl rfl rfl (am_S.mono (h.2 h1) ?_)
    rintro r3 M2 ⟨x4, rfl, g5⟩
    show am_R K12_digest q 393 [aR 44, aL v1, aJ, aI v3] [aL x4, aL (w64 (31 * v1))] M2
    refine s_binL 250 rfl ?_
    refine s_nameL (fun x6 ex6 => ?_)
    refine s_lstore [aR 44, aL x6, aJ, aI v3] 251 rfl rfl ?_
    refine s_iinc [aR 44, aL x6, aJ, aI (v3 + 1)] 252 rfl rfl (g5 x6 ex6).1 rfl ?_
    refine s_goto 253 rfl ?_
    exact (g5 x6 ex6).2
theorem g12_digest_403 {q : am_Q} {M : am_M} {v1 v3 : Int} (h : (2 ≤ v3 → (S12_countsOf [aI 60, aI 3, aI 2] M (fun r3 M2 => ∃ x4 : Int, r3 = aI x4 ∧ (q (aL (w64 ((w64 (31 * v1)) + x4))) M2)))) ∧ (¬ (2 ≤ v3) → (S12_meetOf [aR 44, aI 7, aI v3] M (fun r7 M6 => ∃ x8 : Int, r7 = aI x8 ∧ (∀ x10 : Int, x10 = w64 ((w64 (31 * v1)) + x8) → ((-2147483648 ≤ v3 + 1 ∧ v3 + 1 < 2147483648) ∧ (am_R K12_digest q 403 [aR 44, aL x10, aJ, aI (v3 + 1)] [] M6))))))) : am_R K12_digest q 403 [aR 44, aL v1, aJ, aI v3] [] M := by
  refine s_iload 256 rfl rfl ?_
  refine s_push 257 rfl ?_
  refine s_ic 258 rfl (fun h1 => ?_) (fun h1 => ?_)
  · refine s_push 271 rfl ?_
    refine s_lload 272 rfl rfl ?_
    refine s_binL 273 rfl ?_
    refine s_push 274 rfl ?_
    refine s_push 275 rfl ?_
    refine s_push 276 rfl ?_
    refine s_call 277 rfl rfl rfl rfl rfl (am_S.mono (h.1 h1) ?_)
    rintro r3 M2 ⟨x4, rfl, g5⟩
    show am_R K12_digest q 441 [aR 44, aL v1, aJ, aI v3] [aI x4, aL (w64 (31 * v1))] M2
    refine s_i2l 278 rfl ?_
    refine s_binL 279 rfl ?_
    exact s_lret 280 rfl g5
  · refine s_push 259 rfl ?_
    refine s_lload 260 rfl rfl ?_
    refine s_binL 261 rfl ?_
    refine s_aload 262 rfl rfl ?_
    refine s_push 263 rfl ?_
    refine s_iload 264 rfl rfl ?_
    refine s_callv (o := 44) 265 rfl rfl rfl rfl rfl (am_S.mono (h.2 h1) ?_)
    rintro r7 M6 ⟨x8, rfl, g9⟩
    show am_R K12_digest q 420 [aR 44, aL v1, aJ, aI v3] [aI x8, aL (w64 (31 * v1))] M6
    refine s_i2l 266 rfl ?_
    refine s_binL 267 rfl ?_
    refine s_nameL (fun x10 ex10 => ?_)
    refine s_lstore [aR 44, aL x10, aJ, aI v3] 268 rfl rfl ?_
    refine s_iinc [aR 44, aL x10, aJ, aI (v3 + 1)] 269 rfl rfl (g9 x10 ex10).1 rfl ?_
    refine s_goto 270 rfl ?_
    exact (g9 x10 ex10).2
theorem e12_fairs {q : am_Q} {M : am_M} {v1 : Int} {v2 : Int} (h : S12_reads [aR 44] M (fun _ M1 => (¬ (v2 < 1) ∧ ¬ (60 < v2) → (S12_fairsOf [aR 44, aI v1, aI v2] M1 (fun r7 M6 => ∃ x8 : Int, r7 = aI x8 ∧ (q (aI x8) M6)))) ∧ (¬ (¬ (v2 < 1) ∧ ¬ (60 < v2)) → (q (aI (-2)) M1)))) : S12_fairs [aR 44, aI v1, aI v2] M q := by
  refine am_S.intro rfl rfl ?_
  refine s_aload 0 rfl rfl ?_
  refine s_callv (o := 44) 1 rfl rfl rfl rfl rfl (am_S.mono h ?_)
  intro r2 M1 g4
  show am_R K12_fairs q 4 [aR 44, aI v1, aI v2] [] M1
  refine s_iload 2 rfl rfl ?_
  refine s_i2l 3 rfl ?_
  refine s_push 4 rfl ?_
  refine s_push 5 rfl ?_
  refine s_call 6 rfl rfl rfl rfl rfl (ct_12_in ?_)
  show am_R K12_fairs q 13 [aR 44, aI v1, aI v2] [aI (if ¬ (v2 < 1) ∧ ¬ (60 < v2) then 1 else 0)] M1
  refine s_ifeqB 7 rfl (fun h5 => ?_) (fun h5 => ?_)
  · refine s_push 13 rfl ?_
    exact s_iret 14 rfl (g4.2 h5)
  · refine s_aload 8 rfl rfl ?_
    refine s_iload 9 rfl rfl ?_
    refine s_iload 10 rfl rfl ?_
    refine s_callv (o := 44) 11 rfl rfl rfl rfl rfl (am_S.mono (g4.1 h5) ?_)
    rintro r7 M6 ⟨x8, rfl, g9⟩
    show am_R K12_fairs q 22 [aR 44, aI v1, aI v2] [aI x8] M6
    refine s_goto 12 rfl ?_
    exact s_iret 14 rfl g9
theorem e12_forget {q : am_Q} {M : am_M}  (h : ∀ x1 : Int, x1 = M 44 28 → (q (aI x1) (am_up M 44 28 0))) : S12_forget [aR 44] M q := by
  refine am_S.intro rfl rfl ?_
  refine s_aload 0 rfl rfl ?_
  refine s_getI (v := M 44 28) 1 rfl rfl rfl ?_
  refine s_nameI (fun x1 ex1 => ?_)
  refine s_istore [aR 44, aI x1] 2 rfl rfl ?_
  refine s_aload 3 rfl rfl ?_
  refine s_push 4 rfl ?_
  refine s_putI 5 rfl rfl ?_
  refine s_iload 6 rfl rfl ?_
  exact s_iret 7 rfl (h x1 ex1)
theorem e12_lacks {q : am_Q} {M : am_M} {v1 : Int} {v2 : Int} {v3 : Int} (h : (0 ≤ v1 ∧ v1 < 4) ∧ ((0 ≤ M 45 (v1.toNat) → ((M 45 (v1.toNat) = v2 → ((-2147483648 ≤ (M 46 (v1.toNat)) - 1 ∧ (M 46 (v1.toNat)) - 1 < 2147483648) ∧ ((¬ (v3 < 0) ∧ ¬ (((M 46 (v1.toNat)) - 1) < v3) → (q (aI 0) M)) ∧ (¬ (¬ (v3 < 0) ∧ ¬ (((M 46 (v1.toNat)) - 1) < v3)) → (S12_met [aR 44, aI 2] M (fun r5 M4 => ∃ x6 : Int, r5 = aI x6 ∧ (q (aI x6) M4))))))) ∧ (¬ (M 45 (v1.toNat) = v2) → (S12_met [aR 44, aI 3] M (fun r9 M8 => ∃ x10 : Int, r9 = aI x10 ∧ (q (aI x10) M8)))))) ∧ (¬ (0 ≤ M 45 (v1.toNat)) → (S12_met [aR 44, aI 1] M (fun r13 M12 => ∃ x14 : Int, r13 = aI x14 ∧ (q (aI x14) M12)))))) : S12_lacks [aR 44, aI v1, aI v2, aI v3] M q := by
  refine am_S.intro rfl rfl ?_
  refine s_aload 0 rfl rfl ?_
  refine s_getR 45 1 rfl rfl ?_
  refine s_iload 2 rfl rfl ?_
  refine s_iald (v := M 45 (v1.toNat)) 3 rfl rfl h.1 rfl ?_
  refine s_if 4 rfl (fun h1 => ?_) (fun h1 => ?_)
  · refine s_aload 9 rfl rfl ?_
    refine s_getR 45 10 rfl rfl ?_
    refine s_iload 11 rfl rfl ?_
    refine s_iald (v := M 45 (v1.toNat)) 12 rfl rfl h.1 rfl ?_
    refine s_iload 13 rfl rfl ?_
    refine s_ic 14 rfl (fun h2 => ?_) (fun h2 => ?_)
    · refine s_iload 19 rfl rfl ?_
      refine s_i2l 20 rfl ?_
      refine s_push 21 rfl ?_
      refine s_aload 22 rfl rfl ?_
      refine s_getR 46 23 rfl rfl ?_
      refine s_iload 24 rfl rfl ?_
      refine s_iald (v := M 46 (v1.toNat)) 25 rfl rfl h.1 rfl ?_
      refine s_push 26 rfl ?_
      refine s_binX (v := (M 46 (v1.toNat)) - 1) 27 rfl ((h.2.1 h1).1 h2).1 rfl ?_
      refine s_i2l 28 rfl ?_
      refine s_call 29 rfl rfl rfl rfl rfl (ct_12_in ?_)
      show am_R K12_lacks q 46 [aR 44, aI v1, aI v2, aI v3] [aI (if ¬ (v3 < 0) ∧ ¬ (((M 46 (v1.toNat)) - 1) < v3) then 1 else 0)] M
      refine s_ifeqB 30 rfl (fun h3 => ?_) (fun h3 => ?_)
      · refine s_aload 33 rfl rfl ?_
        refine s_push 34 rfl ?_
        refine s_callv (o := 44) 35 rfl rfl rfl rfl rfl (am_S.mono (((h.2.1 h1).1 h2).2.2 h3) ?_)
        rintro r5 M4 ⟨x6, rfl, g7⟩
        show am_R K12_lacks q 58 [aR 44, aI v1, aI v2, aI v3] [aI x6] M4
        exact s_iret 36 rfl g7
      · refine s_push 31 rfl ?_
        refine s_goto 32 rfl ?_
        exact s_iret 36 rfl (((h.2.1 h1).1 h2).2.1 h3)
    · refine s_aload 15 rfl rfl ?_
      refine s_push 16 rfl ?_
      refine s_callv (o := 44) 17 rfl rfl rfl rfl rfl (am_S.mono ((h.2.1 h1).2 h2) ?_)
      rintro r9 M8 ⟨x10, rfl, g11⟩
      show am_R K12_lacks q 30 [aR 44, aI v1, aI v2, aI v3] [aI x10] M8
      exact s_iret 18 rfl g11
  · refine s_aload 5 rfl rfl ?_
    refine s_push 6 rfl ?_
    refine s_callv (o := 44) 7 rfl rfl rfl rfl rfl (am_S.mono (h.2.2 h1) ?_)
    rintro r13 M12 ⟨x14, rfl, g15⟩
    show am_R K12_lacks q 14 [aR 44, aI v1, aI v2, aI v3] [aI x14] M12
    exact s_iret 8 rfl g15
theorem e12_get {q : am_Q} {M : am_M} {v1 : Int} {v2 : Int} {v3 : Int} (h : (¬ (v1 < 0) ∧ ¬ (3 < v1) → ((¬ (v2 < 0) ∧ ¬ (2 < v2) → (S12_lacks [aR 44, aI v1, aI v2, aI v3] M (fun r4 M3 => ∃ x5 : Int, r4 = aI x5 ∧ ((x5 = 0 → ((-2147483648 ≤ 64 * v1 ∧ 64 * v1 < 2147483648) ∧ ((-2147483648 ≤ (64 * v1) + v3 ∧ (64 * v1) + v3 < 2147483648) ∧ ((0 ≤ (64 * v1) + v3 ∧ (64 * v1) + v3 < 256) ∧ (q (aI (M3 47 (((64 * v1) + v3).toNat))) M3))))) ∧ (¬ (x5 = 0) → (q (aI (-2147483648)) M3)))))) ∧ (¬ (¬ (v2 < 0) ∧ ¬ (2 < v2)) → (q (aI (-2147483648)) M)))) ∧ (¬ (¬ (v1 < 0) ∧ ¬ (3 < v1)) → (q (aI (-2147483648)) M))) : S12_get [aR 44, aI v1, aI v2, aI v3] M q := by
  refine am_S.intro rfl rfl ?_
  refine s_iload 0 rfl rfl ?_
  refine s_call 1 rfl rfl rfl rfl rfl (ct_12_isSheet ?_)
  show am_R K12_get q 4 [aR 44, aI v1, aI v2, aI v3] [aI (if ¬ (v1 < 0) ∧ ¬ (3 < v1) then 1 else 0)] M
  refine s_ifeqB 2 rfl (fun h1 => ?_) (fun h1 => ?_)
  · refine s_push 15 rfl ?_
    exact s_iret 16 rfl (h.2 h1)
  · refine s_iload 3 rfl rfl ?_
    refine s_i2l 4 rfl ?_
    refine s_push 5 rfl ?_
    refine s_push 6 rfl ?_
    refine s_call 7 rfl rfl rfl rfl rfl (ct_12_in ?_)
    show am_R K12_get q 16 [aR 44, aI v1, aI v2, aI v3] [aI (if ¬ (v2 < 0) ∧ ¬ (2 < v2) then 1 else 0)] M
    refine s_ifeqB 8 rfl (fun h2 => ?_) (fun h2 => ?_)
    · refine s_push 15 rfl ?_
      exact s_iret 16 rfl ((h.1 h1).2 h2)
    · refine s_aload 9 rfl rfl ?_
      refine s_iload 10 rfl rfl ?_
      refine s_iload 11 rfl rfl ?_
      refine s_iload 12 rfl rfl ?_
      refine s_callv (o := 44) 13 rfl rfl rfl rfl rfl (am_S.mono ((h.1 h1).1 h2) ?_)
      rintro r4 M3 ⟨x5, rfl, g6⟩
      show am_R K12_get q 26 [aR 44, aI v1, aI v2, aI v3] [aI x5] M3
      refine s_if 14 rfl (fun h7 => ?_) (fun h7 => ?_)
      · refine s_aload 17 rfl rfl ?_
        refine s_getR 47 18 rfl rfl ?_
        refine s_push 19 rfl ?_
        refine s_iload 20 rfl rfl ?_
        refine s_binX (v := 64 * v1) 21 rfl (g6.1 h7).1 rfl ?_
        refine s_iload 22 rfl rfl ?_
        refine s_binX (v := (64 * v1) + v3) 23 rfl (g6.1 h7).2.1 rfl ?_
        refine s_iald (v := M3 47 (((64 * v1) + v3).toNat)) 24 rfl rfl (g6.1 h7).2.2.1 rfl ?_
        exact s_iret 25 rfl (g6.1 h7).2.2.2
      · refine s_push 15 rfl ?_
        exact s_iret 16 rfl (g6.2 h7)
theorem e12_grip {q : am_Q} {M : am_M} {v1 : Int} {v2 : Int} {v3 : Int} (h : (¬ (v1 < 0) ∧ ¬ (4 < v1) → ((¬ (v2 < 0) ∧ ¬ (4 < v2) → ((v1 = v2 → (q (aI (-2)) M)) ∧ (¬ (v1 = v2) → ((¬ (v3 < 0) ∧ ¬ (16 < v3) → ((-2147483648 ≤ 5 * v1 ∧ 5 * v1 < 2147483648) ∧ ((-2147483648 ≤ (5 * v1) + v2 ∧ (5 * v1) + v2 < 2147483648) ∧ ((0 ≤ (5 * v1) + v2 ∧ (5 * v1) + v2 < 25) ∧ (∀ x5 : Int, x5 = M 55 (((5 * v1) + v2).toNat) → ((-2147483648 ≤ 5 * v2 ∧ 5 * v2 < 2147483648) ∧ ((-2147483648 ≤ (5 * v2) + v1 ∧ (5 * v2) + v1 < 2147483648) ∧ ((0 ≤ (5 * v2) + v1 ∧ (5 * v2) + v1 < 25) ∧ (q (aI x5) (am_up (am_up M 55 (((5 * v1) + v2).toNat) v3) 55 (((5 * v2) + v1).toNat) v3)))))))))) ∧ (¬ (¬ (v3 < 0) ∧ ¬ (16 < v3)) → (q (aI (-2)) M)))))) ∧ (¬ (¬ (v2 < 0) ∧ ¬ (4 < v2)) → (q (aI (-2)) M)))) ∧ (¬ (¬ (v1 < 0) ∧ ¬ (4 < v1)) → (q (aI (-2)) M))) : S12_grip [aR 44, aI v1, aI v2, aI v3] M q := by
  refine am_S.intro rfl rfl ?_
  refine s_iload 0 rfl rfl ?_
  refine s_call 1 rfl rfl rfl rfl rfl (ct_12_isPerson ?_)
  show am_R K12_grip q 4 [aR 44, aI v1, aI v2, aI v3, aJ] [aI (if ¬ (v1 < 0) ∧ ¬ (4 < v1) then 1 else 0)] M
  refine s_ifeqB 2 rfl (fun h1 => ?_) (fun h1 => ?_)
  · refine s_push 15 rfl ?_
    exact s_iret 16 rfl (h.2 h1)
  · refine s_iload 3 rfl rfl ?_
    refine s_call 4 rfl rfl rfl rfl rfl (ct_12_isPerson ?_)
    show am_R K12_grip q 11 [aR 44, aI v1, aI v2, aI v3, aJ] [aI (if ¬ (v2 < 0) ∧ ¬ (4 < v2) then 1 else 0)] M
    refine s_ifeqB 5 rfl (fun h2 => ?_) (fun h2 => ?_)
    · refine s_push 15 rfl ?_
      exact s_iret 16 rfl ((h.1 h1).2 h2)
    · refine s_iload 6 rfl rfl ?_
      refine s_iload 7 rfl rfl ?_
      refine s_ic 8 rfl (fun h3 => ?_) (fun h3 => ?_)
      · refine s_push 15 rfl ?_
        exact s_iret 16 rfl (((h.1 h1).1 h2).1 h3)
      · refine s_iload 9 rfl rfl ?_
        refine s_i2l 10 rfl ?_
        refine s_push 11 rfl ?_
        refine s_push 12 rfl ?_
        refine s_call 13 rfl rfl rfl rfl rfl (ct_12_in ?_)
        show am_R K12_grip q 28 [aR 44, aI v1, aI v2, aI v3, aJ] [aI (if ¬ (v3 < 0) ∧ ¬ (16 < v3) then 1 else 0)] M
        refine s_ifneB 14 rfl (fun h4 => ?_) (fun h4 => ?_)
        · refine s_aload 17 rfl rfl ?_
          refine s_getR 55 18 rfl rfl ?_
          refine s_push 19 rfl ?_
          refine s_iload 20 rfl rfl ?_
          refine s_binX (v := 5 * v1) 21 rfl ((((h.1 h1).1 h2).2 h3).1 h4).1 rfl ?_
          refine s_iload 22 rfl rfl ?_
          refine s_binX (v := (5 * v1) + v2) 23 rfl ((((h.1 h1).1 h2).2 h3).1 h4).2.1 rfl ?_
          refine s_iald (v := M 55 (((5 * v1) + v2).toNat)) 24 rfl rfl ((((h.1 h1).1 h2).2 h3).1 h4).2.2.1 rfl ?_
          refine s_nameI (fun x5 ex5 => ?_)
          refine s_istore [aR 44, aI v1, aI v2, aI v3, aI x5] 25 rfl rfl ?_
          refine s_aload 26 rfl rfl ?_
          refine s_getR 55 27 rfl rfl ?_
          refine s_push 28 rfl ?_
          refine s_iload 29 rfl rfl ?_
          refine s_binX (v := 5 * v1) 30 rfl ((((h.1 h1).1 h2).2 h3).1 h4).1 rfl ?_
          refine s_iload 31 rfl rfl ?_
          refine s_binX (v := (5 * v1) + v2) 32 rfl ((((h.1 h1).1 h2).2 h3).1 h4).2.1 rfl ?_
          refine s_iload 33 rfl rfl ?_
          refine s_iast 34 rfl rfl ((((h.1 h1).1 h2).2 h3).1 h4).2.2.1 ?_
          refine s_aload 35 rfl rfl ?_
          refine s_getR 55 36 rfl rfl ?_
          refine s_push 37 rfl ?_
          refine s_iload 38 rfl rfl ?_
          refine s_binX (v := 5 * v2) 39 rfl (((((h.1 h1).1 h2).2 h3).1 h4).2.2.2 x5 ex5).1 rfl ?_
          refine s_iload 40 rfl rfl ?_
          refine s_binX (v := (5 * v2) + v1) 41 rfl (((((h.1 h1).1 h2).2 h3).1 h4).2.2.2 x5 ex5).2.1 rfl ?_
          refine s_iload 42 rfl rfl ?_
          refine s_iast 43 rfl rfl (((((h.1 h1).1 h2).2 h3).1 h4).2.2.2 x5 ex5).2.2.1 ?_
          refine s_iload 44 rfl rfl ?_
          exact s_iret 45 rfl (((((h.1 h1).1 h2).2 h3).1 h4).2.2.2 x5 ex5).2.2.2
        · refine s_push 15 rfl ?_
          exact s_iret 16 rfl ((((h.1 h1).1 h2).2 h3).2 h4)
theorem e12_lay {q : am_Q} {M : am_M} {v1 : Int} {v2 : Int} {v3 : Int} {v4 : Int} (h : (¬ (v1 < 0) ∧ ¬ (3 < v1) → ((¬ (v2 < 0) ∧ ¬ (2 < v2) → (S12_lacks [aR 44, aI v1, aI v2, aI v3] M (fun r4 M3 => ∃ x5 : Int, r4 = aI x5 ∧ ((x5 = 0 → ((-2147483648 ≤ 64 * v1 ∧ 64 * v1 < 2147483648) ∧ ((-2147483648 ≤ (64 * v1) + v3 ∧ (64 * v1) + v3 < 2147483648) ∧ (∀ x8 : Int, x8 = f_12_cut v2 v4 → ((0 ≤ (64 * v1) + v3 ∧ (64 * v1) + v3 < 256) ∧ (q (aI 1) (am_up M3 47 (((64 * v1) + v3).toNat) x8))))))) ∧ (¬ (x5 = 0) → (q (aI x5) M3)))))) ∧ (¬ (¬ (v2 < 0) ∧ ¬ (2 < v2)) → (q (aI (-2)) M)))) ∧ (¬ (¬ (v1 < 0) ∧ ¬ (3 < v1)) → (q (aI (-2)) M))) : S12_lay [aR 44, aI v1, aI v2, aI v3, aI v4] M q := by
  refine am_S.intro rfl rfl ?_
  refine s_iload 0 rfl rfl ?_
  refine s_call 1 rfl rfl rfl rfl rfl (ct_12_isSheet ?_)
  show am_R K12_lay q 4 [aR 44, aI v1, aI v2, aI v3, aI v4, aJ] [aI (if ¬ (v1 < 0) ∧ ¬ (3 < v1) then 1 else 0)] M
  refine s_ifeqB 2 rfl (fun h1 => ?_) (fun h1 => ?_)
  · refine s_push 9 rfl ?_
    exact s_iret 10 rfl (h.2 h1)
  · refine s_iload 3 rfl rfl ?_
    refine s_i2l 4 rfl ?_
    refine s_push 5 rfl ?_
    refine s_push 6 rfl ?_
    refine s_call 7 rfl rfl rfl rfl rfl (ct_12_in ?_)
    show am_R K12_lay q 16 [aR 44, aI v1, aI v2, aI v3, aI v4, aJ] [aI (if ¬ (v2 < 0) ∧ ¬ (2 < v2) then 1 else 0)] M
    refine s_ifneB 8 rfl (fun h2 => ?_) (fun h2 => ?_)
    · refine s_aload 11 rfl rfl ?_
      refine s_iload 12 rfl rfl ?_
      refine s_iload 13 rfl rfl ?_
      refine s_iload 14 rfl rfl ?_
      refine s_callv (o := 44) 15 rfl rfl rfl rfl rfl (am_S.mono ((h.1 h1).1 h2) ?_)
      rintro r4 M3 ⟨x5, rfl, g6⟩
      show am_R K12_lay q 29 [aR 44, aI v1, aI v2, aI v3, aI v4, aJ] [aI x5] M3
      refine s_istore [aR 44, aI v1, aI v2, aI v3, aI v4, aI x5] 16 rfl rfl ?_
      refine s_iload 17 rfl rfl ?_
      refine s_if 18 rfl (fun h7 => ?_) (fun h7 => ?_)
      · refine s_aload 21 rfl rfl ?_
        refine s_getR 47 22 rfl rfl ?_
        refine s_push 23 rfl ?_
        refine s_iload 24 rfl rfl ?_
        refine s_binX (v := 64 * v1) 25 rfl (g6.1 h7).1 rfl ?_
        refine s_iload 26 rfl rfl ?_
        refine s_binX (v := (64 * v1) + v3) 27 rfl (g6.1 h7).2.1 rfl ?_
        refine s_iload 28 rfl rfl ?_
        refine s_iload 29 rfl rfl ?_
        refine s_call 30 rfl rfl rfl rfl rfl (ct_12_cut ?_)
        show am_R K12_lay q 55 [aR 44, aI v1, aI v2, aI v3, aI v4, aI x5] [aI (f_12_cut v2 v4), aI ((64 * v1) + v3), aR 47] M3
        refine s_nameI (fun x8 ex8 => ?_)
        refine s_iast 31 rfl rfl ((g6.1 h7).2.2 x8 ex8).1 ?_
        refine s_push 32 rfl ?_
        exact s_iret 33 rfl ((g6.1 h7).2.2 x8 ex8).2
      · refine s_iload 19 rfl rfl ?_
        exact s_iret 20 rfl (g6.2 h7)
    · refine s_push 9 rfl ?_
      exact s_iret 10 rfl ((h.1 h1).2 h2)
theorem e12_look {q : am_Q} {M : am_M} {v1 : Int} {v2 : Int} (h : (¬ (v1 < 0) ∧ ¬ (63 < v1) → ((¬ (v2 < 1) ∧ ¬ (9 < v2) → ((M 44 28 = 5 → (q (aI (-4)) M)) ∧ (¬ (M 44 28 = 5) → ((-2147483648 ≤ 2 * (M 44 28) ∧ 2 * (M 44 28) < 2147483648) ∧ ((0 ≤ 2 * (M 44 28) ∧ 2 * (M 44 28) < 10) ∧ ((-2147483648 ≤ (2 * (M 44 28)) + 1 ∧ (2 * (M 44 28)) + 1 < 2147483648) ∧ ((0 ≤ (2 * (M 44 28)) + 1 ∧ (2 * (M 44 28)) + 1 < 10) ∧ ((-2147483648 ≤ (M 44 28) + 1 ∧ (M 44 28) + 1 < 2147483648) ∧ (∀ x4 : Int, x4 = (M 44 28) + 1 → (q (aI x4) (am_up (am_up (am_up M 64 ((2 * (M 44 28)).toNat) v1) 64 (((2 * (M 44 28)) + 1).toNat) v2) 44 28 x4))))))))))) ∧ (¬ (¬ (v2 < 1) ∧ ¬ (9 < v2)) → (q (aI (-2)) M)))) ∧ (¬ (¬ (v1 < 0) ∧ ¬ (63 < v1)) → (q (aI (-2)) M))) : S12_look [aR 44, aI v1, aI v2] M q := by
  refine am_S.intro rfl rfl ?_
  refine s_iload 0 rfl rfl ?_
  refine s_i2l 1 rfl ?_
  refine s_push 2 rfl ?_
  refine s_push 3 rfl ?_
  refine s_call 4 rfl rfl rfl rfl rfl (ct_12_in ?_)
  show am_R K12_look q 9 [aR 44, aI v1, aI v2] [aI (if ¬ (v1 < 0) ∧ ¬ (63 < v1) then 1 else 0)] M
  refine s_ifeqB 5 rfl (fun h1 => ?_) (fun h1 => ?_)
  · refine s_push 12 rfl ?_
    exact s_iret 13 rfl (h.2 h1)
  · refine s_iload 6 rfl rfl ?_
    refine s_i2l 7 rfl ?_
    refine s_push 8 rfl ?_
    refine s_push 9 rfl ?_
    refine s_call 10 rfl rfl rfl rfl rfl (ct_12_in ?_)
    show am_R K12_look q 21 [aR 44, aI v1, aI v2] [aI (if ¬ (v2 < 1) ∧ ¬ (9 < v2) then 1 else 0)] M
    refine s_ifneB 11 rfl (fun h2 => ?_) (fun h2 => ?_)
    · refine s_aload 14 rfl rfl ?_
      refine s_getI (v := M 44 28) 15 rfl rfl rfl ?_
      refine s_push 16 rfl ?_
      refine s_icne 17 rfl (fun h3 => ?_) (fun h3 => ?_)
      · refine s_aload 20 rfl rfl ?_
        refine s_getR 64 21 rfl rfl ?_
        refine s_push 22 rfl ?_
        refine s_aload 23 rfl rfl ?_
        refine s_getI (v := M 44 28) 24 rfl rfl rfl ?_
        refine s_binX (v := 2 * (M 44 28)) 25 rfl (((h.1 h1).1 h2).2 h3).1 rfl ?_
        refine s_iload 26 rfl rfl ?_
        refine s_iast 27 rfl rfl (((h.1 h1).1 h2).2 h3).2.1 ?_
        refine s_aload 28 rfl rfl ?_
        refine s_getR 64 29 rfl rfl ?_
        refine s_push 30 rfl ?_
        refine s_aload 31 rfl rfl ?_
        refine s_getI (v := M 44 28) 32 rfl rfl rfl ?_
        refine s_binX (v := 2 * (M 44 28)) 33 rfl (((h.1 h1).1 h2).2 h3).1 rfl ?_
        refine s_push 34 rfl ?_
        refine s_binX (v := (2 * (M 44 28)) + 1) 35 rfl (((h.1 h1).1 h2).2 h3).2.2.1 rfl ?_
        refine s_iload 36 rfl rfl ?_
        refine s_iast 37 rfl rfl (((h.1 h1).1 h2).2 h3).2.2.2.1 ?_
        refine s_aload 38 rfl rfl ?_
        refine s_dupR 39 rfl ?_
        refine s_getI (v := M 44 28) 40 rfl rfl rfl ?_
        refine s_push 41 rfl ?_
        refine s_binX (v := (M 44 28) + 1) 42 rfl (((h.1 h1).1 h2).2 h3).2.2.2.2.1 rfl ?_
        refine s_nameI (fun x4 ex4 => ?_)
        refine s_putI 43 rfl rfl ?_
        refine s_aload 44 rfl rfl ?_
        refine s_getI (v := x4) 45 rfl rfl (by simp [am_up, am_set]) ?_
        exact s_iret 46 rfl ((((h.1 h1).1 h2).2 h3).2.2.2.2.2 x4 ex4)
      · refine s_push 18 rfl ?_
        exact s_iret 19 rfl (((h.1 h1).1 h2).1 h3)
    · refine s_push 12 rfl ?_
      exact s_iret 13 rfl ((h.1 h1).2 h2)
theorem e12_loose {q : am_Q} {M : am_M}  (h : S12_reads [aR 44] M (fun _ M1 => S12_looseNow [aR 44] M1 (fun r6 M5 => ∃ x7 : Int, r6 = aI x7 ∧ (q (aI x7) M5)))) : S12_loose [aR 44] M q := by
  refine am_S.intro rfl rfl ?_
  refine s_aload 0 rfl rfl ?_
  refine s_callv (o := 44) 1 rfl rfl rfl rfl rfl (am_S.mono h ?_)
  intro r2 M1 g4
  show am_R K12_loose q 4 [aR 44] [] M1
  refine s_aload 2 rfl rfl ?_
  refine s_callv (o := 44) 3 rfl rfl rfl rfl rfl (am_S.mono g4 ?_)
  rintro r6 M5 ⟨x7, rfl, g8⟩
  show am_R K12_loose q 8 [aR 44] [aI x7] M5
  exact s_iret 4 rfl g8
theorem e12_lose {q : am_Q} {M : am_M} {v1 : Int} (h : (¬ (v1 < 0) ∧ ¬ (3 < v1) → ((0 ≤ v1 ∧ v1 < 4) ∧ ((0 ≤ M 45 (v1.toNat) → (q (aI (M 46 (v1.toNat))) (am_up M 45 (v1.toNat) (-1)))) ∧ (¬ (0 ≤ M 45 (v1.toNat)) → (S12_met [aR 44, aI 1] M (fun r4 M3 => ∃ x5 : Int, r4 = aI x5 ∧ (q (aI x5) M3))))))) ∧ (¬ (¬ (v1 < 0) ∧ ¬ (3 < v1)) → (q (aI (-2)) M))) : S12_lose [aR 44, aI v1] M q := by
  refine am_S.intro rfl rfl ?_
  refine s_iload 0 rfl rfl ?_
  refine s_call 1 rfl rfl rfl rfl rfl (ct_12_isSheet ?_)
  show am_R K12_lose q 4 [aR 44, aI v1] [aI (if ¬ (v1 < 0) ∧ ¬ (3 < v1) then 1 else 0)] M
  refine s_ifneB 2 rfl (fun h1 => ?_) (fun h1 => ?_)
  · refine s_aload 5 rfl rfl ?_
    refine s_getR 45 6 rfl rfl ?_
    refine s_iload 7 rfl rfl ?_
    refine s_iald (v := M 45 (v1.toNat)) 8 rfl rfl (h.1 h1).1 rfl ?_
    refine s_if 9 rfl (fun h2 => ?_) (fun h2 => ?_)
    · refine s_aload 14 rfl rfl ?_
      refine s_getR 45 15 rfl rfl ?_
      refine s_iload 16 rfl rfl ?_
      refine s_push 17 rfl ?_
      refine s_iast 18 rfl rfl (h.1 h1).1 ?_
      refine s_aload 19 rfl rfl ?_
      refine s_getR 46 20 rfl rfl ?_
      refine s_iload 21 rfl rfl ?_
      refine s_iald (v := M 46 (v1.toNat)) 22 rfl rfl (h.1 h1).1 rfl ?_
      exact s_iret 23 rfl ((h.1 h1).2.1 h2)
    · refine s_aload 10 rfl rfl ?_
      refine s_push 11 rfl ?_
      refine s_callv (o := 44) 12 rfl rfl rfl rfl rfl (am_S.mono ((h.1 h1).2.2 h2) ?_)
      rintro r4 M3 ⟨x5, rfl, g6⟩
      show am_R K12_lose q 24 [aR 44, aI v1] [aI x5] M3
      exact s_iret 13 rfl g6
  · refine s_push 3 rfl ?_
    exact s_iret 4 rfl (h.2 h1)
theorem e12_meet {q : am_Q} {M : am_M} {v1 : Int} {v2 : Int} (h : S12_reads [aR 44] M (fun _ M1 => (¬ (v1 < 1) ∧ ¬ (31 < v1) → ((¬ (v2 < 0) ∧ ¬ (1 < v2) → (S12_meetOf [aR 44, aI v1, aI v2] M1 (fun r8 M7 => ∃ x9 : Int, r8 = aI x9 ∧ (q (aI x9) M7)))) ∧ (¬ (¬ (v2 < 0) ∧ ¬ (1 < v2)) → (q (aI (-2)) M1)))) ∧ (¬ (¬ (v1 < 1) ∧ ¬ (31 < v1)) → (q (aI (-2)) M1)))) : S12_meet [aR 44, aI v1, aI v2] M q := by
  refine am_S.intro rfl rfl ?_
  refine s_aload 0 rfl rfl ?_
  refine s_callv (o := 44) 1 rfl rfl rfl rfl rfl (am_S.mono h ?_)
  intro r2 M1 g4
  show am_R K12_meet q 4 [aR 44, aI v1, aI v2] [] M1
  refine s_iload 2 rfl rfl ?_
  refine s_i2l 3 rfl ?_
  refine s_push 4 rfl ?_
  refine s_push 5 rfl ?_
  refine s_call 6 rfl rfl rfl rfl rfl (ct_12_in ?_)
  show am_R K12_meet q 13 [aR 44, aI v1, aI v2] [aI (if ¬ (v1 < 1) ∧ ¬ (31 < v1) then 1 else 0)] M1
  refine s_ifeqB 7 rfl (fun h5 => ?_) (fun h5 => ?_)
  · refine s_push 16 rfl ?_
    exact s_iret 17 rfl (g4.2 h5)
  · refine s_iload 8 rfl rfl ?_
    refine s_call 9 rfl rfl rfl rfl rfl (ct_12_isTwo ?_)
    show am_R K12_meet q 20 [aR 44, aI v1, aI v2] [aI (if ¬ (v2 < 0) ∧ ¬ (1 < v2) then 1 else 0)] M1
    refine s_ifeqB 10 rfl (fun h6 => ?_) (fun h6 => ?_)
    · refine s_push 16 rfl ?_
      exact s_iret 17 rfl ((g4.1 h5).2 h6)
    · refine s_aload 11 rfl rfl ?_
      refine s_iload 12 rfl rfl ?_
      refine s_iload 13 rfl rfl ?_
      refine s_callv (o := 44) 14 rfl rfl rfl rfl rfl (am_S.mono ((g4.1 h5).1 h6) ?_)
      rintro r8 M7 ⟨x9, rfl, g10⟩
      show am_R K12_meet q 29 [aR 44, aI v1, aI v2] [aI x9] M7
      refine s_goto 15 rfl ?_
      exact s_iret 17 rfl g10
theorem e12_order {q : am_Q} {M : am_M} {v1 : Int} (h : S12_reads [aR 44] M (fun _ M1 => (¬ (v1 < 0) ∧ ¬ (4 < v1) → (ob_12_orderOf (M1 44) (M1 52) v1)) ∧ (∀ x6 : Int, x6 = (if ¬ (v1 < 0) ∧ ¬ (4 < v1) then f_12_orderOf (M1 44) (M1 52) v1 else (-2)) → (q (aI x6) M1)))) : S12_order [aR 44, aI v1] M q := by
  refine am_S.intro rfl rfl ?_
  refine s_aload 0 rfl rfl ?_
  refine s_callv (o := 44) 1 rfl rfl rfl rfl rfl (am_S.mono h ?_)
  intro r2 M1 g4
  show am_R K12_order q 4 [aR 44, aI v1] [] M1
  refine s_iload 2 rfl rfl ?_
  refine s_i2l 3 rfl ?_
  refine s_push 4 rfl ?_
  refine s_push 5 rfl ?_
  refine s_call 6 rfl rfl rfl rfl rfl (ct_12_in ?_)
  show am_R K12_order q 13 [aR 44, aI v1] [aI (if ¬ (v1 < 0) ∧ ¬ (4 < v1) then 1 else 0)] M1
  have j7 : ∀ (x6 : Int) (ex6 : x6 = (if ¬ (v1 < 0) ∧ ¬ (4 < v1) then f_12_orderOf (M1 44) (M1 52) v1 else (-2))), am_R K12_order q 26 [aR 44, aI v1] [aI x6] M1 := by
    intro x6 ex6
    exact s_iret 13 rfl (g4.2 x6 ex6)
  refine s_ifeqB 7 rfl (fun h5 => ?_) (fun h5 => ?_)
  · refine s_push 12 rfl ?_
    exact j7 _ (by rw [if_neg h5])
  · refine s_aload 8 rfl rfl ?_
    refine s_iload 9 rfl rfl ?_
    refine s_callv (o := 44) 10 rfl rfl rfl rfl rfl (ct_12_orderOf (g4.1 h5) ?_)
    show am_R K12_order q 21 [aR 44, aI v1] [aI (f_12_orderOf (M1 44) (M1 52) v1)] M1
    refine s_goto 11 rfl ?_
    exact j7 _ (by rw [if_pos h5])
theorem e12_parted {q : am_Q} {M : am_M} {v1 : Int} {v2 : Int} {v3 : Int} (h : S12_reads [aR 44] M (fun _ M1 => (¬ (v1 < 0) ∧ ¬ (4 < v1) → ((¬ (v2 < 0) ∧ ¬ (4 < v2) → ((v1 = v2 → (q (aL (f_12_no (-2))) M1)) ∧ (¬ (v1 = v2) → ((¬ (v3 < 0) ∧ ¬ (2 < v3) → (S12_partedOf [aR 44, aI v1, aI v2, aI v3] M1 (fun r10 M9 => ∃ x11 : Int, r10 = aL x11 ∧ (q (aL x11) M9)))) ∧ (¬ (¬ (v3 < 0) ∧ ¬ (2 < v3)) → (q (aL (f_12_no (-2))) M1)))))) ∧ (¬ (¬ (v2 < 0) ∧ ¬ (4 < v2)) → (q (aL (f_12_no (-2))) M1)))) ∧ (¬ (¬ (v1 < 0) ∧ ¬ (4 < v1)) → (q (aL (f_12_no (-2))) M1)))) : S12_parted [aR 44, aI v1, aI v2, aI v3] M q := by
  refine am_S.intro rfl rfl ?_
  refine s_aload 0 rfl rfl ?_
  refine s_callv (o := 44) 1 rfl rfl rfl rfl rfl (am_S.mono h ?_)
  intro r2 M1 g4
  show am_R K12_parted q 4 [aR 44, aI v1, aI v2, aI v3] [] M1
  refine s_iload 2 rfl rfl ?_
  refine s_call 3 rfl rfl rfl rfl rfl (ct_12_isPerson ?_)
  show am_R K12_parted q 8 [aR 44, aI v1, aI v2, aI v3] [aI (if ¬ (v1 < 0) ∧ ¬ (4 < v1) then 1 else 0)] M1
  refine s_ifeqB 4 rfl (fun h5 => ?_) (fun h5 => ?_)
  · refine s_push 23 rfl ?_
    refine s_call 24 rfl rfl rfl rfl rfl (ct_12_no ?_)
    show am_R K12_parted q 50 [aR 44, aI v1, aI v2, aI v3] [aL (f_12_no (-2))] M1
    exact s_lret 25 rfl (g4.2 h5)
  · refine s_iload 5 rfl rfl ?_
    refine s_call 6 rfl rfl rfl rfl rfl (ct_12_isPerson ?_)
    show am_R K12_parted q 15 [aR 44, aI v1, aI v2, aI v3] [aI (if ¬ (v2 < 0) ∧ ¬ (4 < v2) then 1 else 0)] M1
    refine s_ifeqB 7 rfl (fun h6 => ?_) (fun h6 => ?_)
    · refine s_push 23 rfl ?_
      refine s_call 24 rfl rfl rfl rfl rfl (ct_12_no ?_)
      show am_R K12_parted q 50 [aR 44, aI v1, aI v2, aI v3] [aL (f_12_no (-2))] M1
      exact s_lret 25 rfl ((g4.1 h5).2 h6)
    · refine s_iload 8 rfl rfl ?_
      refine s_iload 9 rfl rfl ?_
      refine s_ic 10 rfl (fun h7 => ?_) (fun h7 => ?_)
      · refine s_push 23 rfl ?_
        refine s_call 24 rfl rfl rfl rfl rfl (ct_12_no ?_)
        show am_R K12_parted q 50 [aR 44, aI v1, aI v2, aI v3] [aL (f_12_no (-2))] M1
        exact s_lret 25 rfl (((g4.1 h5).1 h6).1 h7)
      · refine s_iload 11 rfl rfl ?_
        refine s_i2l 12 rfl ?_
        refine s_push 13 rfl ?_
        refine s_push 14 rfl ?_
        refine s_call 15 rfl rfl rfl rfl rfl (ct_12_in ?_)
        show am_R K12_parted q 32 [aR 44, aI v1, aI v2, aI v3] [aI (if ¬ (v3 < 0) ∧ ¬ (2 < v3) then 1 else 0)] M1
        refine s_ifeqB 16 rfl (fun h8 => ?_) (fun h8 => ?_)
        · refine s_push 23 rfl ?_
          refine s_call 24 rfl rfl rfl rfl rfl (ct_12_no ?_)
          show am_R K12_parted q 50 [aR 44, aI v1, aI v2, aI v3] [aL (f_12_no (-2))] M1
          exact s_lret 25 rfl ((((g4.1 h5).1 h6).2 h7).2 h8)
        · refine s_aload 17 rfl rfl ?_
          refine s_iload 18 rfl rfl ?_
          refine s_iload 19 rfl rfl ?_
          refine s_iload 20 rfl rfl ?_
          refine s_callv (o := 44) 21 rfl rfl rfl rfl rfl (am_S.mono ((((g4.1 h5).1 h6).2 h7).1 h8) ?_)
          rintro r10 M9 ⟨x11, rfl, g12⟩
          show am_R K12_parted q 42 [aR 44, aI v1, aI v2, aI v3] [aL x11] M9
          refine s_goto 22 rfl ?_
          exact s_lret 25 rfl g12
theorem e12_person {q : am_Q} {M : am_M} {v1 : Int} {v2 : Int} {v3 : Int} (h : (¬ (v1 < 0) ∧ ¬ (4 < v1) → ((¬ (v2 < 0) ∧ ¬ (1 < v2) → (∀ x4 : Int, x4 = (if v2 = 0 then 16 else 63) → ((¬ (v3 < 0) ∧ ¬ (x4 < v3) → (((v2 = 0 → (0 ≤ v1 ∧ v1 < 5)) ∧ (¬ (v2 = 0) → (0 ≤ v1 ∧ v1 < 5))) ∧ (∀ x7 : Int, x7 = (if v2 = 0 then M 56 (v1.toNat) else M 57 (v1.toNat)) → ((¬ (v2 = 0) → (0 ≤ v1 ∧ v1 < 5)) ∧ (∀ x9 : Int, x9 = (if v2 = 0 then v3 else M 56 (v1.toNat)) → ((0 ≤ v1 ∧ v1 < 5) ∧ (∀ x11 : Int, x11 = (if v2 = 1 then v3 else M 57 (v1.toNat)) → (q (aI x7) (am_up (am_up M 56 (v1.toNat) x9) 57 (v1.toNat) x11))))))))) ∧ (¬ (¬ (v3 < 0) ∧ ¬ (x4 < v3)) → (q (aI (-2)) M))))) ∧ (¬ (¬ (v2 < 0) ∧ ¬ (1 < v2)) → (q (aI (-2)) M)))) ∧ (¬ (¬ (v1 < 0) ∧ ¬ (4 < v1)) → (q (aI (-2)) M))) : S12_person [aR 44, aI v1, aI v2, aI v3] M q := by
  refine am_S.intro rfl rfl ?_
  refine s_iload 0 rfl rfl ?_
  refine s_call 1 rfl rfl rfl rfl rfl (ct_12_isPerson ?_)
  show am_R K12_person q 4 [aR 44, aI v1, aI v2, aI v3, aJ] [aI (if ¬ (v1 < 0) ∧ ¬ (4 < v1) then 1 else 0)] M
  refine s_ifeqB 2 rfl (fun h1 => ?_) (fun h1 => ?_)
  · refine s_push 16 rfl ?_
    exact s_iret 17 rfl (h.2 h1)
  · refine s_iload 3 rfl rfl ?_
    refine s_call 4 rfl rfl rfl rfl rfl (ct_12_isTwo ?_)
    show am_R K12_person q 11 [aR 44, aI v1, aI v2, aI v3, aJ] [aI (if ¬ (v2 < 0) ∧ ¬ (1 < v2) then 1 else 0)] M
    refine s_ifeqB 5 rfl (fun h2 => ?_) (fun h2 => ?_)
    · refine s_push 16 rfl ?_
      exact s_iret 17 rfl ((h.1 h1).2 h2)
    · refine s_iload 6 rfl rfl ?_
      refine s_i2l 7 rfl ?_
      refine s_push 8 rfl ?_
      refine s_iload 9 rfl rfl ?_
      have j12 : ∀ (x4 : Int) (ex4 : x4 = (if v2 = 0 then 16 else 63)), am_R K12_person q 30 [aR 44, aI v1, aI v2, aI v3, aJ] [aL x4, aL 0, aL v3] M := by
        intro x4 ex4
        refine s_call 14 rfl rfl rfl rfl rfl (ct_12_in ?_)
        show am_R K12_person q 33 [aR 44, aI v1, aI v2, aI v3, aJ] [aI (if ¬ (v3 < 0) ∧ ¬ (x4 < v3) then 1 else 0)] M
        refine s_ifneB 15 rfl (fun h5 => ?_) (fun h5 => ?_)
        · refine s_iload 18 rfl rfl ?_
          have j13 : ∀ (x7 : Int) (ex7 : x7 = (if v2 = 0 then M 56 (v1.toNat) else M 57 (v1.toNat))), am_R K12_person q 58 [aR 44, aI v1, aI v2, aI v3, aJ] [aI x7] M := by
            intro x7 ex7
            refine s_istore [aR 44, aI v1, aI v2, aI v3, aI x7] 29 rfl rfl ?_
            refine s_aload 30 rfl rfl ?_
            refine s_getR 56 31 rfl rfl ?_
            refine s_iload 32 rfl rfl ?_
            refine s_iload 33 rfl rfl ?_
            have j14 : ∀ (x9 : Int) (ex9 : x9 = (if v2 = 0 then v3 else M 56 (v1.toNat))), am_R K12_person q 79 [aR 44, aI v1, aI v2, aI v3, aI x7] [aI x9, aI v1, aR 56] M := by
              intro x9 ex9
              refine s_iast 41 rfl rfl ((((((h.1 h1).1 h2) x4 ex4).1 h5).2 x7 ex7).2 x9 ex9).1 ?_
              refine s_aload 42 rfl rfl ?_
              refine s_getR 57 43 rfl rfl ?_
              refine s_iload 44 rfl rfl ?_
              refine s_iload 45 rfl rfl ?_
              refine s_push 46 rfl ?_
              have j15 : ∀ (x11 : Int) (ex11 : x11 = (if v2 = 1 then v3 else M 57 (v1.toNat))), am_R K12_person q 100 [aR 44, aI v1, aI v2, aI v3, aI x7] [aI x11, aI v1, aR 57] (am_up M 56 (v1.toNat) x9) := by
                intro x11 ex11
                refine s_iast 54 rfl rfl ((((((h.1 h1).1 h2) x4 ex4).1 h5).2 x7 ex7).2 x9 ex9).1 ?_
                refine s_iload 55 rfl rfl ?_
                exact s_iret 56 rfl (((((((h.1 h1).1 h2) x4 ex4).1 h5).2 x7 ex7).2 x9 ex9).2 x11 ex11)
              refine s_icne 47 rfl (fun h10 => ?_) (fun h10 => ?_)
              · refine s_aload 50 rfl rfl ?_
                refine s_getR 57 51 rfl rfl ?_
                refine s_iload 52 rfl rfl ?_
                refine s_iald (v := M 57 (v1.toNat)) 53 rfl rfl ((((((h.1 h1).1 h2) x4 ex4).1 h5).2 x7 ex7).2 x9 ex9).1 rfl ?_
                exact j15 _ (by rw [if_neg h10])
              · refine s_iload 48 rfl rfl ?_
                refine s_goto 49 rfl ?_
                exact j15 _ (by rw [if_pos h10])
            refine s_ifne 34 rfl (fun h8 => ?_) (fun h8 => ?_)
            · refine s_aload 37 rfl rfl ?_
              refine s_getR 56 38 rfl rfl ?_
              refine s_iload 39 rfl rfl ?_
              refine s_iald (v := M 56 (v1.toNat)) 40 rfl rfl ((((((h.1 h1).1 h2) x4 ex4).1 h5).2 x7 ex7).1 h8) rfl ?_
              exact j14 _ (by rw [if_neg h8])
            · refine s_iload 35 rfl rfl ?_
              refine s_goto 36 rfl ?_
              exact j14 _ (by rw [if_pos h8])
          refine s_ifne 19 rfl (fun h6 => ?_) (fun h6 => ?_)
          · refine s_aload 25 rfl rfl ?_
            refine s_getR 57 26 rfl rfl ?_
            refine s_iload 27 rfl rfl ?_
            refine s_iald (v := M 57 (v1.toNat)) 28 rfl rfl (((((h.1 h1).1 h2) x4 ex4).1 h5).1.2 h6) rfl ?_
            exact j13 _ (by rw [if_neg h6])
          · refine s_aload 20 rfl rfl ?_
            refine s_getR 56 21 rfl rfl ?_
            refine s_iload 22 rfl rfl ?_
            refine s_iald (v := M 56 (v1.toNat)) 23 rfl rfl (((((h.1 h1).1 h2) x4 ex4).1 h5).1.1 h6) rfl ?_
            refine s_goto 24 rfl ?_
            exact j13 _ (by rw [if_pos h6])
        · refine s_push 16 rfl ?_
          exact s_iret 17 rfl ((((h.1 h1).1 h2) x4 ex4).2 h5)
      refine s_ifne 10 rfl (fun h3 => ?_) (fun h3 => ?_)
      · refine s_push 13 rfl ?_
        exact j12 _ (by rw [if_neg h3])
      · refine s_push 11 rfl ?_
        refine s_goto 12 rfl ?_
        exact j12 _ (by rw [if_pos h3])
theorem e12_read {q : am_Q} {M : am_M} {v1 : Int} (h : (¬ (v1 < 0) ∧ ¬ (3 < v1) → ((0 ≤ v1 ∧ v1 < 4) ∧ ((0 ≤ M 45 (v1.toNat) → (am_R K12_read q 27 [aR 44, aI v1, aI 0] [] M)) ∧ (¬ (0 ≤ M 45 (v1.toNat)) → (S12_met [aR 44, aI 1] M (fun r4 M3 => ∃ x5 : Int, r4 = aI x5 ∧ (q (aI x5) M3))))))) ∧ (¬ (¬ (v1 < 0) ∧ ¬ (3 < v1)) → (q (aI (-2)) M))) : S12_read [aR 44, aI v1] M q := by
  refine am_S.intro rfl rfl ?_
  refine s_iload 0 rfl rfl ?_
  refine s_call 1 rfl rfl rfl rfl rfl (ct_12_isSheet ?_)
  show am_R K12_read q 4 [aR 44, aI v1, aJ] [aI (if ¬ (v1 < 0) ∧ ¬ (3 < v1) then 1 else 0)] M
  refine s_ifneB 2 rfl (fun h1 => ?_) (fun h1 => ?_)
  · refine s_aload 5 rfl rfl ?_
    refine s_getR 45 6 rfl rfl ?_
    refine s_iload 7 rfl rfl ?_
    refine s_iald (v := M 45 (v1.toNat)) 8 rfl rfl (h.1 h1).1 rfl ?_
    refine s_if 9 rfl (fun h2 => ?_) (fun h2 => ?_)
    · refine s_push 14 rfl ?_
      refine s_istore [aR 44, aI v1, aI 0] 15 rfl rfl ?_
      exact ((h.1 h1).2.1 h2)
    · refine s_aload 10 rfl rfl ?_
      refine s_push 11 rfl ?_
      refine s_callv (o := 44) 12 rfl rfl rfl rfl rfl (am_S.mono ((h.1 h1).2.2 h2) ?_)
      rintro r4 M3 ⟨x5, rfl, g6⟩
      show am_R K12_read q 24 [aR 44, aI v1, aJ] [aI x5] M3
      exact s_iret 13 rfl g6
  · refine s_push 3 rfl ?_
    exact s_iret 4 rfl (h.2 h1)
theorem g12_read_27 {q : am_Q} {M : am_M} {v1 v2 : Int} (h : (0 ≤ v1 ∧ v1 < 4) ∧ ((M 46 (v1.toNat) ≤ v2 → (q (aI v2) M)) ∧ (¬ (M 46 (v1.toNat) ≤ v2) → ((-2147483648 ≤ 64 * v1 ∧ 64 * v1 < 2147483648) ∧ ((-2147483648 ≤ (64 * v1) + v2 ∧ (64 * v1) + v2 < 2147483648) ∧ ((0 ≤ (64 * v1) + v2 ∧ (64 * v1) + v2 < 256) ∧ (S12_person [aR 44, aI v2, aI 0, aI (M 47 (((64 * v1) + v2).toNat))] M (fun r3 M2 => ∃ x4 : Int, r3 = aI x4 ∧ ((x4 < 0 → (q (aI v2) M2)) ∧ (¬ (x4 < 0) → ((-2147483648 ≤ v2 + 1 ∧ v2 + 1 < 2147483648) ∧ (am_R K12_read q 27 [aR 44, aI v1, aI (v2 + 1)] [] M2)))))))))))) : am_R K12_read q 27 [aR 44, aI v1, aI v2] [] M := by
  refine s_iload 16 rfl rfl ?_
  refine s_aload 17 rfl rfl ?_
  refine s_getR 46 18 rfl rfl ?_
  refine s_iload 19 rfl rfl ?_
  refine s_iald (v := M 46 (v1.toNat)) 20 rfl rfl h.1 rfl ?_
  refine s_ic 21 rfl (fun h1 => ?_) (fun h1 => ?_)
  · refine s_iload 37 rfl rfl ?_
    exact s_iret 38 rfl (h.2.1 h1)
  · refine s_aload 22 rfl rfl ?_
    refine s_iload 23 rfl rfl ?_
    refine s_push 24 rfl ?_
    refine s_aload 25 rfl rfl ?_
    refine s_getR 47 26 rfl rfl ?_
    refine s_push 27 rfl ?_
    refine s_iload 28 rfl rfl ?_
    refine s_binX (v := 64 * v1) 29 rfl (h.2.2 h1).1 rfl ?_
    refine s_iload 30 rfl rfl ?_
    refine s_binX (v := (64 * v1) + v2) 31 rfl (h.2.2 h1).2.1 rfl ?_
    refine s_iald (v := M 47 (((64 * v1) + v2).toNat)) 32 rfl rfl (h.2.2 h1).2.2.1 rfl ?_
    refine s_callv (o := 44) 33 rfl rfl rfl rfl rfl (am_S.mono (h.2.2 h1).2.2.2 ?_)
    rintro r3 M2 ⟨x4, rfl, g5⟩
    show am_R K12_read q 54 [aR 44, aI v1, aI v2] [aI x4] M2
    refine s_if 34 rfl (fun h6 => ?_) (fun h6 => ?_)
    · refine s_iload 37 rfl rfl ?_
      exact s_iret 38 rfl (g5.1 h6)
    · refine s_iinc [aR 44, aI v1, aI (v2 + 1)] 35 rfl rfl (g5.2 h6).1 rfl ?_
      refine s_goto 36 rfl ?_
      exact (g5.2 h6).2
theorem e12_risk {q : am_Q} {M : am_M}  (h : S12_reads [aR 44] M (fun _ M1 => S12_riskNow [aR 44] M1 (fun r6 M5 => ∃ x7 : Int, r6 = aI x7 ∧ (q (aI x7) M5)))) : S12_risk [aR 44] M q := by
  refine am_S.intro rfl rfl ?_
  refine s_aload 0 rfl rfl ?_
  refine s_callv (o := 44) 1 rfl rfl rfl rfl rfl (am_S.mono h ?_)
  intro r2 M1 g4
  show am_R K12_risk q 4 [aR 44] [] M1
  refine s_aload 2 rfl rfl ?_
  refine s_callv (o := 44) 3 rfl rfl rfl rfl rfl (am_S.mono g4 ?_)
  rintro r6 M5 ⟨x7, rfl, g8⟩
  show am_R K12_risk q 8 [aR 44] [aI x7] M5
  exact s_iret 4 rfl g8
theorem e12_seek {q : am_Q} {M : am_M} {v1 : Int} {v2 : Int} (h : S12_reads [aR 44] M (fun _ M1 => (¬ (v1 < 0) ∧ ¬ (4 < v1) → ((¬ (v2 < (-2)) ∧ ¬ (4 < v2) → (S12_seekOf [aR 44, aI v1, aI v2] M1 (fun r8 M7 => ∃ x9 : Int, r8 = aL x9 ∧ (q (aL x9) M7)))) ∧ (¬ (¬ (v2 < (-2)) ∧ ¬ (4 < v2)) → (q (aL (f_12_no (-2))) M1)))) ∧ (¬ (¬ (v1 < 0) ∧ ¬ (4 < v1)) → (q (aL (f_12_no (-2))) M1)))) : S12_seek [aR 44, aI v1, aI v2] M q := by
  refine am_S.intro rfl rfl ?_
  refine s_aload 0 rfl rfl ?_
  refine s_callv (o := 44) 1 rfl rfl rfl rfl rfl (am_S.mono h ?_)
  intro r2 M1 g4
  show am_R K12_seek q 4 [aR 44, aI v1, aI v2] [] M1
  refine s_iload 2 rfl rfl ?_
  refine s_call 3 rfl rfl rfl rfl rfl (ct_12_isPerson ?_)
  show am_R K12_seek q 8 [aR 44, aI v1, aI v2] [aI (if ¬ (v1 < 0) ∧ ¬ (4 < v1) then 1 else 0)] M1
  refine s_ifeqB 4 rfl (fun h5 => ?_) (fun h5 => ?_)
  · refine s_push 16 rfl ?_
    refine s_call 17 rfl rfl rfl rfl rfl (ct_12_no ?_)
    show am_R K12_seek q 39 [aR 44, aI v1, aI v2] [aL (f_12_no (-2))] M1
    exact s_lret 18 rfl (g4.2 h5)
  · refine s_iload 5 rfl rfl ?_
    refine s_i2l 6 rfl ?_
    refine s_push 7 rfl ?_
    refine s_push 8 rfl ?_
    refine s_call 9 rfl rfl rfl rfl rfl (ct_12_in ?_)
    show am_R K12_seek q 22 [aR 44, aI v1, aI v2] [aI (if ¬ (v2 < (-2)) ∧ ¬ (4 < v2) then 1 else 0)] M1
    refine s_ifeqB 10 rfl (fun h6 => ?_) (fun h6 => ?_)
    · refine s_push 16 rfl ?_
      refine s_call 17 rfl rfl rfl rfl rfl (ct_12_no ?_)
      show am_R K12_seek q 39 [aR 44, aI v1, aI v2] [aL (f_12_no (-2))] M1
      exact s_lret 18 rfl ((g4.1 h5).2 h6)
    · refine s_aload 11 rfl rfl ?_
      refine s_iload 12 rfl rfl ?_
      refine s_iload 13 rfl rfl ?_
      refine s_callv (o := 44) 14 rfl rfl rfl rfl rfl (am_S.mono ((g4.1 h5).1 h6) ?_)
      rintro r8 M7 ⟨x9, rfl, g10⟩
      show am_R K12_seek q 31 [aR 44, aI v1, aI v2] [aL x9] M7
      refine s_goto 15 rfl ?_
      exact s_lret 18 rfl g10
theorem e12_set {q : am_Q} {M : am_M} {v1 : Int} {v2 : Int} (h : (¬ (v1 < 0) ∧ ¬ (2 < v1) → (∀ x3 : Int, x3 = (if v1 = 2 then 2 else 63) → ((¬ (v2 < 0) ∧ ¬ (x3 < v2) → ((0 ≤ v1 ∧ v1 < 3) ∧ (∀ x5 : Int, x5 = M 54 (v1.toNat) → (q (aI x5) (am_up M 54 (v1.toNat) v2))))) ∧ (¬ (¬ (v2 < 0) ∧ ¬ (x3 < v2)) → (q (aI (-2)) M))))) ∧ (¬ (¬ (v1 < 0) ∧ ¬ (2 < v1)) → (q (aI (-2)) M))) : S12_set [aR 44, aI v1, aI v2] M q := by
  refine am_S.intro rfl rfl ?_
  refine s_iload 0 rfl rfl ?_
  refine s_i2l 1 rfl ?_
  refine s_push 2 rfl ?_
  refine s_push 3 rfl ?_
  refine s_call 4 rfl rfl rfl rfl rfl (ct_12_in ?_)
  show am_R K12_set q 9 [aR 44, aI v1, aI v2, aJ] [aI (if ¬ (v1 < 0) ∧ ¬ (2 < v1) then 1 else 0)] M
  refine s_ifeqB 5 rfl (fun h1 => ?_) (fun h1 => ?_)
  · refine s_push 17 rfl ?_
    exact s_iret 18 rfl (h.2 h1)
  · refine s_iload 6 rfl rfl ?_
    refine s_i2l 7 rfl ?_
    refine s_push 8 rfl ?_
    refine s_iload 9 rfl rfl ?_
    refine s_push 10 rfl ?_
    have j6 : ∀ (x3 : Int) (ex3 : x3 = (if v1 = 2 then 2 else 63)), am_R K12_set q 29 [aR 44, aI v1, aI v2, aJ] [aL x3, aL 0, aL v2] M := by
      intro x3 ex3
      refine s_call 15 rfl rfl rfl rfl rfl (ct_12_in ?_)
      show am_R K12_set q 32 [aR 44, aI v1, aI v2, aJ] [aI (if ¬ (v2 < 0) ∧ ¬ (x3 < v2) then 1 else 0)] M
      refine s_ifneB 16 rfl (fun h4 => ?_) (fun h4 => ?_)
      · refine s_aload 19 rfl rfl ?_
        refine s_getR 54 20 rfl rfl ?_
        refine s_iload 21 rfl rfl ?_
        refine s_iald (v := M 54 (v1.toNat)) 22 rfl rfl (((h.1 h1) x3 ex3).1 h4).1 rfl ?_
        refine s_nameI (fun x5 ex5 => ?_)
        refine s_istore [aR 44, aI v1, aI v2, aI x5] 23 rfl rfl ?_
        refine s_aload 24 rfl rfl ?_
        refine s_getR 54 25 rfl rfl ?_
        refine s_iload 26 rfl rfl ?_
        refine s_iload 27 rfl rfl ?_
        refine s_iast 28 rfl rfl (((h.1 h1) x3 ex3).1 h4).1 ?_
        refine s_iload 29 rfl rfl ?_
        exact s_iret 30 rfl ((((h.1 h1) x3 ex3).1 h4).2 x5 ex5)
      · refine s_push 17 rfl ?_
        exact s_iret 18 rfl (((h.1 h1) x3 ex3).2 h4)
    refine s_icne 11 rfl (fun h2 => ?_) (fun h2 => ?_)
    · refine s_push 14 rfl ?_
      exact j6 _ (by rw [if_neg h2])
    · refine s_push 12 rfl ?_
      refine s_goto 13 rfl ?_
      exact j6 _ (by rw [if_pos h2])
theorem e12_sheet {q : am_Q} {M : am_M} {v1 : Int} {v2 : Int} {v3 : Int} (h : (¬ (v1 < 0) ∧ ¬ (3 < v1) → ((¬ (v2 < 0) ∧ ¬ (2 < v2) → ((v3 ≤ 64 → ((0 ≤ v3 → ((0 ≤ v1 ∧ v1 < 4) ∧ (am_R K12_sheet q 55 [aR 44, aI v1, aJ, aI v3, aI 0] [] (am_up (am_up M 45 (v1.toNat) v2) 46 (v1.toNat) v3)))) ∧ (¬ (0 ≤ v3) → (S12_met [aR 44, aI 5] M (fun r6 M5 => ∃ x7 : Int, r6 = aI x7 ∧ (q (aI x7) M5)))))) ∧ (¬ (v3 ≤ 64) → (q (aI (-2)) M)))) ∧ (¬ (¬ (v2 < 0) ∧ ¬ (2 < v2)) → (q (aI (-2)) M)))) ∧ (¬ (¬ (v1 < 0) ∧ ¬ (3 < v1)) → (q (aI (-2)) M))) : S12_sheet [aR 44, aI v1, aI v2, aI v3] M q := by
  refine am_S.intro rfl rfl ?_
  refine s_iload 0 rfl rfl ?_
  refine s_call 1 rfl rfl rfl rfl rfl (ct_12_isSheet ?_)
  show am_R K12_sheet q 4 [aR 44, aI v1, aI v2, aI v3, aJ] [aI (if ¬ (v1 < 0) ∧ ¬ (3 < v1) then 1 else 0)] M
  refine s_ifeqB 2 rfl (fun h1 => ?_) (fun h1 => ?_)
  · refine s_push 12 rfl ?_
    exact s_iret 13 rfl (h.2 h1)
  · refine s_iload 3 rfl rfl ?_
    refine s_i2l 4 rfl ?_
    refine s_push 5 rfl ?_
    refine s_push 6 rfl ?_
    refine s_call 7 rfl rfl rfl rfl rfl (ct_12_in ?_)
    show am_R K12_sheet q 16 [aR 44, aI v1, aI v2, aI v3, aJ] [aI (if ¬ (v2 < 0) ∧ ¬ (2 < v2) then 1 else 0)] M
    refine s_ifeqB 8 rfl (fun h2 => ?_) (fun h2 => ?_)
    · refine s_push 12 rfl ?_
      exact s_iret 13 rfl ((h.1 h1).2 h2)
    · refine s_iload 9 rfl rfl ?_
      refine s_push 10 rfl ?_
      refine s_ic 11 rfl (fun h3 => ?_) (fun h3 => ?_)
      · refine s_iload 14 rfl rfl ?_
        refine s_if 15 rfl (fun h4 => ?_) (fun h4 => ?_)
        · refine s_aload 20 rfl rfl ?_
          refine s_getR 45 21 rfl rfl ?_
          refine s_iload 22 rfl rfl ?_
          refine s_iload 23 rfl rfl ?_
          refine s_iast 24 rfl rfl ((((h.1 h1).1 h2).1 h3).1 h4).1 ?_
          refine s_aload 25 rfl rfl ?_
          refine s_getR 46 26 rfl rfl ?_
          refine s_iload 27 rfl rfl ?_
          refine s_iload 28 rfl rfl ?_
          refine s_iast 29 rfl rfl ((((h.1 h1).1 h2).1 h3).1 h4).1 ?_
          refine s_push 30 rfl ?_
          refine s_istore [aR 44, aI v1, aI v2, aI v3, aI 0] 31 rfl rfl ?_
          exact am_R.jk (ls := [aR 44, aI v1, aJ, aI v3, aI 0]) ⟨Or.inr rfl, Or.inr rfl, Or.inl rfl, Or.inr rfl, Or.inr rfl, trivial⟩ ((((h.1 h1).1 h2).1 h3).1 h4).2
        · refine s_aload 16 rfl rfl ?_
          refine s_push 17 rfl ?_
          refine s_callv (o := 44) 18 rfl rfl rfl rfl rfl (am_S.mono ((((h.1 h1).1 h2).1 h3).2 h4) ?_)
          rintro r6 M5 ⟨x7, rfl, g8⟩
          show am_R K12_sheet q 37 [aR 44, aI v1, aI v2, aI v3, aJ] [aI x7] M5
          exact s_iret 19 rfl g8
      · refine s_push 12 rfl ?_
        exact s_iret 13 rfl (((h.1 h1).1 h2).2 h3)
theorem g12_sheet_55 {q : am_Q} {M : am_M} {v1 v3 v4 : Int} (h : (v3 ≤ v4 → (q (aI v3) M)) ∧ (¬ (v3 ≤ v4) → ((-2147483648 ≤ 64 * v1 ∧ 64 * v1 < 2147483648) ∧ ((-2147483648 ≤ (64 * v1) + v4 ∧ (64 * v1) + v4 < 2147483648) ∧ ((0 ≤ (64 * v1) + v4 ∧ (64 * v1) + v4 < 256) ∧ ((-2147483648 ≤ v4 + 1 ∧ v4 + 1 < 2147483648) ∧ (am_R K12_sheet q 55 [aR 44, aI v1, aJ, aI v3, aI (v4 + 1)] [] (am_up M 47 (((64 * v1) + v4).toNat) 0)))))))) : am_R K12_sheet q 55 [aR 44, aI v1, aJ, aI v3, aI v4] [] M := by
  refine s_iload 32 rfl rfl ?_
  refine s_iload 33 rfl rfl ?_
  refine s_ic 34 rfl (fun h1 => ?_) (fun h1 => ?_)
  · refine s_iload 46 rfl rfl ?_
    exact s_iret 47 rfl (h.1 h1)
  · refine s_aload 35 rfl rfl ?_
    refine s_getR 47 36 rfl rfl ?_
    refine s_push 37 rfl ?_
    refine s_iload 38 rfl rfl ?_
    refine s_binX (v := 64 * v1) 39 rfl (h.2 h1).1 rfl ?_
    refine s_iload 40 rfl rfl ?_
    refine s_binX (v := (64 * v1) + v4) 41 rfl (h.2 h1).2.1 rfl ?_
    refine s_push 42 rfl ?_
    refine s_iast 43 rfl rfl (h.2 h1).2.2.1 ?_
    refine s_iinc [aR 44, aI v1, aJ, aI v3, aI (v4 + 1)] 44 rfl rfl (h.2 h1).2.2.2.1 rfl ?_
    refine s_goto 45 rfl ?_
    exact (h.2 h1).2.2.2.2
theorem e12_torn {q : am_Q} {M : am_M} {v1 : Int} {v2 : Int} (h : S12_reads [aR 44] M (fun _ M1 => (¬ (v2 < 0) ∧ ¬ (3 < v2) → (S12_tornOf [aR 44, aI v1, aI v2] M1 (fun r7 M6 => ∃ x8 : Int, r7 = aI x8 ∧ (q (aI x8) M6)))) ∧ (¬ (¬ (v2 < 0) ∧ ¬ (3 < v2)) → (q (aI (-2)) M1)))) : S12_torn [aR 44, aI v1, aI v2] M q := by
  refine am_S.intro rfl rfl ?_
  refine s_aload 0 rfl rfl ?_
  refine s_callv (o := 44) 1 rfl rfl rfl rfl rfl (am_S.mono h ?_)
  intro r2 M1 g4
  show am_R K12_torn q 4 [aR 44, aI v1, aI v2] [] M1
  refine s_iload 2 rfl rfl ?_
  refine s_i2l 3 rfl ?_
  refine s_push 4 rfl ?_
  refine s_push 5 rfl ?_
  refine s_call 6 rfl rfl rfl rfl rfl (ct_12_in ?_)
  show am_R K12_torn q 13 [aR 44, aI v1, aI v2] [aI (if ¬ (v2 < 0) ∧ ¬ (3 < v2) then 1 else 0)] M1
  refine s_ifeqB 7 rfl (fun h5 => ?_) (fun h5 => ?_)
  · refine s_push 13 rfl ?_
    exact s_iret 14 rfl (g4.2 h5)
  · refine s_aload 8 rfl rfl ?_
    refine s_iload 9 rfl rfl ?_
    refine s_iload 10 rfl rfl ?_
    refine s_callv (o := 44) 11 rfl rfl rfl rfl rfl (am_S.mono (g4.1 h5) ?_)
    rintro r7 M6 ⟨x8, rfl, g9⟩
    show am_R K12_torn q 22 [aR 44, aI v1, aI v2] [aI x8] M6
    refine s_goto 12 rfl ?_
    exact s_iret 14 rfl g9
theorem e12_type {q : am_Q} {M : am_M} {v1 : Int} {v2 : Int} (h : (¬ (v1 < 0) ∧ ¬ (2 < v1) → ((¬ (v2 < 0) ∧ ¬ (255 < v2) → ((0 ≤ v1 ∧ v1 < 3) ∧ ((M 50 (v1.toNat) = f_12_room v1 → (q (aI (-4)) M)) ∧ (¬ (M 50 (v1.toNat) = f_12_room v1) → ((-2147483648 ≤ 80 * v1 ∧ 80 * v1 < 2147483648) ∧ ((-2147483648 ≤ (80 * v1) + (M 50 (v1.toNat)) ∧ (80 * v1) + (M 50 (v1.toNat)) < 2147483648) ∧ ((0 ≤ (80 * v1) + (M 50 (v1.toNat)) ∧ (80 * v1) + (M 50 (v1.toNat)) < 240) ∧ ((-2147483648 ≤ (M 50 (v1.toNat)) + 1 ∧ (M 50 (v1.toNat)) + 1 < 2147483648) ∧ (∀ x4 : Int, x4 = (M 50 (v1.toNat)) + 1 → (q (aI x4) (am_up (am_up M 49 (((80 * v1) + (M 50 (v1.toNat))).toNat) v2) 50 (v1.toNat) x4))))))))))) ∧ (¬ (¬ (v2 < 0) ∧ ¬ (255 < v2)) → (q (aI (-2)) M)))) ∧ (¬ (¬ (v1 < 0) ∧ ¬ (2 < v1)) → (q (aI (-2)) M))) : S12_type [aR 44, aI v1, aI v2] M q := by
  refine am_S.intro rfl rfl ?_
  refine s_iload 0 rfl rfl ?_
  refine s_i2l 1 rfl ?_
  refine s_push 2 rfl ?_
  refine s_push 3 rfl ?_
  refine s_call 4 rfl rfl rfl rfl rfl (ct_12_in ?_)
  show am_R K12_type q 9 [aR 44, aI v1, aI v2] [aI (if ¬ (v1 < 0) ∧ ¬ (2 < v1) then 1 else 0)] M
  refine s_ifeqB 5 rfl (fun h1 => ?_) (fun h1 => ?_)
  · refine s_push 12 rfl ?_
    exact s_iret 13 rfl (h.2 h1)
  · refine s_iload 6 rfl rfl ?_
    refine s_i2l 7 rfl ?_
    refine s_push 8 rfl ?_
    refine s_push 9 rfl ?_
    refine s_call 10 rfl rfl rfl rfl rfl (ct_12_in ?_)
    show am_R K12_type q 21 [aR 44, aI v1, aI v2] [aI (if ¬ (v2 < 0) ∧ ¬ (255 < v2) then 1 else 0)] M
    refine s_ifneB 11 rfl (fun h2 => ?_) (fun h2 => ?_)
    · refine s_aload 14 rfl rfl ?_
      refine s_getR 50 15 rfl rfl ?_
      refine s_iload 16 rfl rfl ?_
      refine s_iald (v := M 50 (v1.toNat)) 17 rfl rfl ((h.1 h1).1 h2).1 rfl ?_
      refine s_iload 18 rfl rfl ?_
      refine s_call 19 rfl rfl rfl rfl rfl (ct_12_room ?_)
      show am_R K12_type q 37 [aR 44, aI v1, aI v2] [aI (f_12_room v1), aI (M 50 (v1.toNat))] M
      refine s_icne 20 rfl (fun h3 => ?_) (fun h3 => ?_)
      · refine s_aload 23 rfl rfl ?_
        refine s_getR 49 24 rfl rfl ?_
        refine s_push 25 rfl ?_
        refine s_iload 26 rfl rfl ?_
        refine s_binX (v := 80 * v1) 27 rfl (((h.1 h1).1 h2).2.2 h3).1 rfl ?_
        refine s_aload 28 rfl rfl ?_
        refine s_getR 50 29 rfl rfl ?_
        refine s_iload 30 rfl rfl ?_
        refine s_iald (v := M 50 (v1.toNat)) 31 rfl rfl ((h.1 h1).1 h2).1 rfl ?_
        refine s_binX (v := (80 * v1) + (M 50 (v1.toNat))) 32 rfl (((h.1 h1).1 h2).2.2 h3).2.1 rfl ?_
        refine s_iload 33 rfl rfl ?_
        refine s_iast 34 rfl rfl (((h.1 h1).1 h2).2.2 h3).2.2.1 ?_
        refine s_aload 35 rfl rfl ?_
        refine s_getR 50 36 rfl rfl ?_
        refine s_iload 37 rfl rfl ?_
        refine s_dup2 38 rfl ?_
        refine s_iald (v := M 50 (v1.toNat)) 39 rfl rfl ((h.1 h1).1 h2).1 rfl ?_
        refine s_push 40 rfl ?_
        refine s_binX (v := (M 50 (v1.toNat)) + 1) 41 rfl (((h.1 h1).1 h2).2.2 h3).2.2.2.1 rfl ?_
        refine s_nameI (fun x4 ex4 => ?_)
        refine s_iast 42 rfl rfl ((h.1 h1).1 h2).1 ?_
        refine s_aload 43 rfl rfl ?_
        refine s_getR 50 44 rfl rfl ?_
        refine s_iload 45 rfl rfl ?_
        refine s_iald (v := x4) 46 rfl rfl ((h.1 h1).1 h2).1 (by simp [am_up, am_set]) ?_
        exact s_iret 47 rfl ((((h.1 h1).1 h2).2.2 h3).2.2.2.2 x4 ex4)
      · refine s_push 21 rfl ?_
        exact s_iret 22 rfl (((h.1 h1).1 h2).2.1 h3)
    · refine s_push 12 rfl ?_
      exact s_iret 13 rfl ((h.1 h1).2 h2)
theorem e12_undo {q : am_Q} {M : am_M} {v1 : Int} (h : (¬ (v1 < 0) ∧ ¬ (2 < v1) → ((0 ≤ v1 ∧ v1 < 3) ∧ ((M 50 (v1.toNat) = 0 → (q (aI (-3)) M)) ∧ (¬ (M 50 (v1.toNat) = 0) → ((-2147483648 ≤ (M 50 (v1.toNat)) - 1 ∧ (M 50 (v1.toNat)) - 1 < 2147483648) ∧ (∀ x3 : Int, x3 = (M 50 (v1.toNat)) - 1 → (q (aI x3) (am_up M 50 (v1.toNat) x3)))))))) ∧ (¬ (¬ (v1 < 0) ∧ ¬ (2 < v1)) → (q (aI (-2)) M))) : S12_undo [aR 44, aI v1] M q := by
  refine am_S.intro rfl rfl ?_
  refine s_iload 0 rfl rfl ?_
  refine s_i2l 1 rfl ?_
  refine s_push 2 rfl ?_
  refine s_push 3 rfl ?_
  refine s_call 4 rfl rfl rfl rfl rfl (ct_12_in ?_)
  show am_R K12_undo q 9 [aR 44, aI v1] [aI (if ¬ (v1 < 0) ∧ ¬ (2 < v1) then 1 else 0)] M
  refine s_ifneB 5 rfl (fun h1 => ?_) (fun h1 => ?_)
  · refine s_aload 8 rfl rfl ?_
    refine s_getR 50 9 rfl rfl ?_
    refine s_iload 10 rfl rfl ?_
    refine s_iald (v := M 50 (v1.toNat)) 11 rfl rfl (h.1 h1).1 rfl ?_
    refine s_ifne 12 rfl (fun h2 => ?_) (fun h2 => ?_)
    · refine s_aload 15 rfl rfl ?_
      refine s_getR 50 16 rfl rfl ?_
      refine s_iload 17 rfl rfl ?_
      refine s_dup2 18 rfl ?_
      refine s_iald (v := M 50 (v1.toNat)) 19 rfl rfl (h.1 h1).1 rfl ?_
      refine s_push 20 rfl ?_
      refine s_binX (v := (M 50 (v1.toNat)) - 1) 21 rfl ((h.1 h1).2.2 h2).1 rfl ?_
      refine s_nameI (fun x3 ex3 => ?_)
      refine s_iast 22 rfl rfl (h.1 h1).1 ?_
      refine s_aload 23 rfl rfl ?_
      refine s_getR 50 24 rfl rfl ?_
      refine s_iload 25 rfl rfl ?_
      refine s_iald (v := x3) 26 rfl rfl (h.1 h1).1 (by simp [am_up, am_set]) ?_
      exact s_iret 27 rfl (((h.1 h1).2.2 h2).2 x3 ex3)
    · refine s_push 13 rfl ?_
      exact s_iret 14 rfl ((h.1 h1).2.1 h2)
  · refine s_push 6 rfl ?_
    exact s_iret 7 rfl (h.2 h1)
theorem e12_wipe {q : am_Q} {M : am_M} {v1 : Int} (h : (¬ (v1 < 0) ∧ ¬ (2 < v1) → ((0 ≤ v1 ∧ v1 < 3) ∧ (∀ x2 : Int, x2 = M 50 (v1.toNat) → (q (aI x2) (am_up M 50 (v1.toNat) 0))))) ∧ (¬ (¬ (v1 < 0) ∧ ¬ (2 < v1)) → (q (aI (-2)) M))) : S12_wipe [aR 44, aI v1] M q := by
  refine am_S.intro rfl rfl ?_
  refine s_iload 0 rfl rfl ?_
  refine s_i2l 1 rfl ?_
  refine s_push 2 rfl ?_
  refine s_push 3 rfl ?_
  refine s_call 4 rfl rfl rfl rfl rfl (ct_12_in ?_)
  show am_R K12_wipe q 9 [aR 44, aI v1, aJ] [aI (if ¬ (v1 < 0) ∧ ¬ (2 < v1) then 1 else 0)] M
  refine s_ifneB 5 rfl (fun h1 => ?_) (fun h1 => ?_)
  · refine s_aload 8 rfl rfl ?_
    refine s_getR 50 9 rfl rfl ?_
    refine s_iload 10 rfl rfl ?_
    refine s_iald (v := M 50 (v1.toNat)) 11 rfl rfl (h.1 h1).1 rfl ?_
    refine s_nameI (fun x2 ex2 => ?_)
    refine s_istore [aR 44, aI v1, aI x2] 12 rfl rfl ?_
    refine s_aload 13 rfl rfl ?_
    refine s_getR 50 14 rfl rfl ?_
    refine s_iload 15 rfl rfl ?_
    refine s_push 16 rfl ?_
    refine s_iast 17 rfl rfl (h.1 h1).1 ?_
    refine s_iload 18 rfl rfl ?_
    exact s_iret 19 rfl ((h.1 h1).2 x2 ex2)
  · refine s_push 6 rfl ?_
    exact s_iret 7 rfl (h.2 h1)
theorem e12_write {q : am_Q} {M : am_M} {v1 : Int} {v2 : Int} (h : S12_reads [aR 44] M (fun _ M1 => ((¬ (v1 < 0) ∧ ¬ (63 < v1)) ∧ ¬ ((M1 51) (v1.toNat) = 99) → ((¬ (v2 < 0) ∧ ¬ (3 < v2) → ((0 ≤ v2 ∧ v2 < 4) ∧ ((0 ≤ M1 45 (v2.toNat) → (S12_findFar [aR 44, aI v1, aI 0] M1 (fun _ M8 => am_R K12_write q 45 [aR 44, aJ, aI v2, aI 0] [] M8))) ∧ (¬ (0 ≤ M1 45 (v2.toNat)) → (S12_met [aR 44, aI 1] M1 (fun r13 M12 => ∃ x14 : Int, r13 = aI x14 ∧ (q (aI x14) M12))))))) ∧ (¬ (¬ (v2 < 0) ∧ ¬ (3 < v2)) → (q (aI (-2)) M1)))) ∧ (¬ ((¬ (v1 < 0) ∧ ¬ (63 < v1)) ∧ ¬ ((M1 51) (v1.toNat) = 99)) → (q (aI (-2)) M1)))) : S12_write [aR 44, aI v1, aI v2] M q := by
  refine am_S.intro rfl rfl ?_
  refine s_aload 0 rfl rfl ?_
  refine s_callv (o := 44) 1 rfl rfl rfl rfl rfl (am_S.mono h ?_)
  intro r2 M1 g4
  show am_R K12_write q 4 [aR 44, aI v1, aI v2, aJ] [] M1
  refine s_aload 2 rfl rfl ?_
  refine s_iload 3 rfl rfl ?_
  refine s_callv (o := 44) 4 rfl rfl rfl rfl rfl (ct_12_isPlace ?_)
  show am_R K12_write q 9 [aR 44, aI v1, aI v2, aJ] [aI (if (¬ (v1 < 0) ∧ ¬ (63 < v1)) ∧ ¬ ((M1 51) (v1.toNat) = 99) then 1 else 0)] M1
  refine s_ifeqB 5 rfl (fun h5 => ?_) (fun h5 => ?_)
  · refine s_push 9 rfl ?_
    exact s_iret 10 rfl (g4.2 h5)
  · refine s_iload 6 rfl rfl ?_
    refine s_call 7 rfl rfl rfl rfl rfl (ct_12_isSheet ?_)
    show am_R K12_write q 16 [aR 44, aI v1, aI v2, aJ] [aI (if ¬ (v2 < 0) ∧ ¬ (3 < v2) then 1 else 0)] M1
    refine s_ifneB 8 rfl (fun h6 => ?_) (fun h6 => ?_)
    · refine s_aload 11 rfl rfl ?_
      refine s_getR 45 12 rfl rfl ?_
      refine s_iload 13 rfl rfl ?_
      refine s_iald (v := M1 45 (v2.toNat)) 14 rfl rfl ((g4.1 h5).1 h6).1 rfl ?_
      refine s_if 15 rfl (fun h7 => ?_) (fun h7 => ?_)
      · refine s_aload 20 rfl rfl ?_
        refine s_iload 21 rfl rfl ?_
        refine s_push 22 rfl ?_
        refine s_callv (o := 44) 23 rfl rfl rfl rfl rfl (am_S.mono (((g4.1 h5).1 h6).2.1 h7) ?_)
        intro r9 M8 g11
        show am_R K12_write q 43 [aR 44, aI v1, aI v2, aJ] [] M8
        refine s_push 24 rfl ?_
        refine s_istore [aR 44, aI v1, aI v2, aI 0] 25 rfl rfl ?_
        exact am_R.jk (ls := [aR 44, aJ, aI v2, aI 0]) ⟨Or.inr rfl, Or.inl rfl, Or.inr rfl, Or.inr rfl, trivial⟩ g11
      · refine s_aload 16 rfl rfl ?_
        refine s_push 17 rfl ?_
        refine s_callv (o := 44) 18 rfl rfl rfl rfl rfl (am_S.mono (((g4.1 h5).1 h6).2.2 h7) ?_)
        rintro r13 M12 ⟨x14, rfl, g15⟩
        show am_R K12_write q 36 [aR 44, aI v1, aI v2, aJ] [aI x14] M12
        exact s_iret 19 rfl g15
    · refine s_push 9 rfl ?_
      exact s_iret 10 rfl ((g4.1 h5).2 h6)
theorem g12_write_45 {q : am_Q} {M : am_M} {v2 v3 : Int} (h : (0 ≤ v2 ∧ v2 < 4) ∧ ((M 46 (v2.toNat) ≤ v3 → (q (aI (M 46 (v2.toNat))) M)) ∧ (¬ (M 46 (v2.toNat) ≤ v3) → ((-2147483648 ≤ 64 * v2 ∧ 64 * v2 < 2147483648) ∧ ((-2147483648 ≤ (64 * v2) + v3 ∧ (64 * v2) + v3 < 2147483648) ∧ ((0 ≤ v3 ∧ v3 < 64) ∧ (∀ x4 : Int, x4 = (if M 51 (v3.toNat) = 99 then (-1) else if M 59 (v3.toNat) < 1000000 then M 59 (v3.toNat) else (-1)) → (∀ x5 : Int, x5 = f_12_cut (M 45 (v2.toNat)) x4 → ((0 ≤ (64 * v2) + v3 ∧ (64 * v2) + v3 < 256) ∧ ((-2147483648 ≤ v3 + 1 ∧ v3 + 1 < 2147483648) ∧ (am_R K12_write q 45 [aR 44, aJ, aI v2, aI (v3 + 1)] [] (am_up M 47 (((64 * v2) + v3).toNat) x5)))))))))))) : am_R K12_write q 45 [aR 44, aJ, aI v2, aI v3] [] M := by
  refine s_iload 26 rfl rfl ?_
  refine s_aload 27 rfl rfl ?_
  refine s_getR 46 28 rfl rfl ?_
  refine s_iload 29 rfl rfl ?_
  refine s_iald (v := M 46 (v2.toNat)) 30 rfl rfl h.1 rfl ?_
  refine s_ic 31 rfl (fun h1 => ?_) (fun h1 => ?_)
  · refine s_aload 65 rfl rfl ?_
    refine s_getR 46 66 rfl rfl ?_
    refine s_iload 67 rfl rfl ?_
    refine s_iald (v := M 46 (v2.toNat)) 68 rfl rfl h.1 rfl ?_
    exact s_iret 69 rfl (h.2.1 h1)
  · refine s_aload 32 rfl rfl ?_
    refine s_getR 47 33 rfl rfl ?_
    refine s_push 34 rfl ?_
    refine s_iload 35 rfl rfl ?_
    refine s_binX (v := 64 * v2) 36 rfl (h.2.2 h1).1 rfl ?_
    refine s_iload 37 rfl rfl ?_
    refine s_binX (v := (64 * v2) + v3) 38 rfl (h.2.2 h1).2.1 rfl ?_
    refine s_aload 39 rfl rfl ?_
    refine s_getR 45 40 rfl rfl ?_
    refine s_iload 41 rfl rfl ?_
    refine s_iald (v := M 45 (v2.toNat)) 42 rfl rfl h.1 rfl ?_
    refine s_aload 43 rfl rfl ?_
    refine s_getR 51 44 rfl rfl ?_
    refine s_iload 45 rfl rfl ?_
    refine s_iald (v := M 51 (v3.toNat)) 46 rfl rfl (h.2.2 h1).2.2.1 rfl ?_
    refine s_push 47 rfl ?_
    have j6 : ∀ (x4 : Int) (ex4 : x4 = (if M 51 (v3.toNat) = 99 then (-1) else if M 59 (v3.toNat) < 1000000 then M 59 (v3.toNat) else (-1))), am_R K12_write q 103 [aR 44, aJ, aI v2, aI v3] [aI x4, aI (M 45 (v2.toNat)), aI ((64 * v2) + v3), aR 47] M := by
      intro x4 ex4
      refine s_call 61 rfl rfl rfl rfl rfl (ct_12_cut ?_)
      show am_R K12_write q 106 [aR 44, aJ, aI v2, aI v3] [aI (f_12_cut (M 45 (v2.toNat)) x4), aI ((64 * v2) + v3), aR 47] M
      refine s_nameI (fun x5 ex5 => ?_)
      refine s_iast 62 rfl rfl (((h.2.2 h1).2.2.2 x4 ex4) x5 ex5).1 ?_
      refine s_iinc [aR 44, aJ, aI v2, aI (v3 + 1)] 63 rfl rfl (((h.2.2 h1).2.2.2 x4 ex4) x5 ex5).2.1 rfl ?_
      refine s_goto 64 rfl ?_
      exact (((h.2.2 h1).2.2.2 x4 ex4) x5 ex5).2.2
    refine s_ic 48 rfl (fun h2 => ?_) (fun h2 => ?_)
    · refine s_push 55 rfl ?_
      refine s_goto 56 rfl ?_
      exact j6 _ (by rw [if_pos h2])
    · refine s_aload 49 rfl rfl ?_
      refine s_getR 59 50 rfl rfl ?_
      refine s_iload 51 rfl rfl ?_
      refine s_iald (v := M 59 (v3.toNat)) 52 rfl rfl (h.2.2 h1).2.2.1 rfl ?_
      refine s_push 53 rfl ?_
      refine s_ic 54 rfl (fun h3 => ?_) (fun h3 => ?_)
      · refine s_aload 57 rfl rfl ?_
        refine s_getR 59 58 rfl rfl ?_
        refine s_iload 59 rfl rfl ?_
        refine s_iald (v := M 59 (v3.toNat)) 60 rfl rfl (h.2.2 h1).2.2.1 rfl ?_
        exact j6 _ (by rw [if_neg h2, if_pos h3])
      · refine s_push 55 rfl ?_
        refine s_goto 56 rfl ?_
        exact j6 _ (by rw [if_neg h2, if_neg h3])
