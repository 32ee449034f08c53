def f_J_bits (v0 : Int) : Int := am_and (w32 ((w32 ((am_and (w32 ((w32 ((am_and (w32 (v0 - (am_and (am_ushr v0 1) 1431655765))) 858993459) + (am_and (am_ushr (w32 (v0 - (am_and (am_ushr v0 1) 1431655765))) 2) 858993459))) + (am_ushr (w32 ((am_and (w32 (v0 - (am_and (am_ushr v0 1) 1431655765))) 858993459) + (am_and (am_ushr (w32 (v0 - (am_and (am_ushr v0 1) 1431655765))) 2) 858993459))) 4))) 252645135) + (am_ushr (am_and (w32 ((w32 ((am_and (w32 (v0 - (am_and (am_ushr v0 1) 1431655765))) 858993459) + (am_and (am_ushr (w32 (v0 - (am_and (am_ushr v0 1) 1431655765))) 2) 858993459))) + (am_ushr (w32 ((am_and (w32 (v0 - (am_and (am_ushr v0 1) 1431655765))) 858993459) + (am_and (am_ushr (w32 (v0 - (am_and (am_ushr v0 1) 1431655765))) 2) 858993459))) 4))) 252645135) 8))) + (am_ushr (w32 ((am_and (w32 ((w32 ((am_and (w32 (v0 - (am_and (am_ushr v0 1) 1431655765))) 858993459) + (am_and (am_ushr (w32 (v0 - (am_and (am_ushr v0 1) 1431655765))) 2) 858993459))) + (am_ushr (w32 ((am_and (w32 (v0 - (am_and (am_ushr v0 1) 1431655765))) 858993459) + (am_and (am_ushr (w32 (v0 - (am_and (am_ushr v0 1) 1431655765))) 2) 858993459))) 4))) 252645135) + (am_ushr (am_and (w32 ((w32 ((am_and (w32 (v0 - (am_and (am_ushr v0 1) 1431655765))) 858993459) + (am_and (am_ushr (w32 (v0 - (am_and (am_ushr v0 1) 1431655765))) 2) 858993459))) + (am_ushr (w32 ((am_and (w32 (v0 - (am_and (am_ushr v0 1) 1431655765))) 858993459) + (am_and (am_ushr (w32 (v0 - (am_and (am_ushr v0 1) 1431655765))) 2) 858993459))) 4))) 252645135) 8))) 16))) 63
theorem ct_J_bits {q : am_Q} {M : am_M} {v0 : Int} (h : q (aI (f_J_bits v0)) M) : SJ_bits [aI v0] M q := by
  refine am_S.intro rfl rfl ?_
  unfold f_J_bits at h
  refine s_iload 0 rfl rfl ?_
  refine s_iload 1 rfl rfl ?_
  refine s_push 2 rfl ?_
  refine s_sh 3 rfl (by decide) ?_
  refine s_push 4 rfl ?_
  refine s_bin 5 rfl ?_
  refine s_bin 6 rfl ?_
  refine s_istore [aI (w32 (v0 - (am_and (am_ushr v0 1) 1431655765)))] 7 rfl rfl ?_
  refine s_iload 8 rfl rfl ?_
  refine s_push 9 rfl ?_
  refine s_bin 10 rfl ?_
  refine s_iload 11 rfl rfl ?_
  refine s_push 12 rfl ?_
  refine s_sh 13 rfl (by decide) ?_
  refine s_push 14 rfl ?_
  refine s_bin 15 rfl ?_
  refine s_bin 16 rfl ?_
  refine s_istore [aI (w32 ((am_and (w32 (v0 - (am_and (am_ushr v0 1) 1431655765))) 858993459) + (am_and (am_ushr (w32 (v0 - (am_and (am_ushr v0 1) 1431655765))) 2) 858993459)))] 17 rfl rfl ?_
  refine s_iload 18 rfl rfl ?_
  refine s_iload 19 rfl rfl ?_
  refine s_push 20 rfl ?_
  refine s_sh 21 rfl (by decide) ?_
  refine s_bin 22 rfl ?_
  refine s_push 23 rfl ?_
  refine s_bin 24 rfl ?_
  refine s_istore [aI (am_and (w32 ((w32 ((am_and (w32 (v0 - (am_and (am_ushr v0 1) 1431655765))) 858993459) + (am_and (am_ushr (w32 (v0 - (am_and (am_ushr v0 1) 1431655765))) 2) 858993459))) + (am_ushr (w32 ((am_and (w32 (v0 - (am_and (am_ushr v0 1) 1431655765))) 858993459) + (am_and (am_ushr (w32 (v0 - (am_and (am_ushr v0 1) 1431655765))) 2) 858993459))) 4))) 252645135)] 25 rfl rfl ?_
  refine s_iload 26 rfl rfl ?_
  refine s_iload 27 rfl rfl ?_
  refine s_push 28 rfl ?_
  refine s_sh 29 rfl (by decide) ?_
  refine s_bin 30 rfl ?_
  refine s_istore [aI (w32 ((am_and (w32 ((w32 ((am_and (w32 (v0 - (am_and (am_ushr v0 1) 1431655765))) 858993459) + (am_and (am_ushr (w32 (v0 - (am_and (am_ushr v0 1) 1431655765))) 2) 858993459))) + (am_ushr (w32 ((am_and (w32 (v0 - (am_and (am_ushr v0 1) 1431655765))) 858993459) + (am_and (am_ushr (w32 (v0 - (am_and (am_ushr v0 1) 1431655765))) 2) 858993459))) 4))) 252645135) + (am_ushr (am_and (w32 ((w32 ((am_and (w32 (v0 - (am_and (am_ushr v0 1) 1431655765))) 858993459) + (am_and (am_ushr (w32 (v0 - (am_and (am_ushr v0 1) 1431655765))) 2) 858993459))) + (am_ushr (w32 ((am_and (w32 (v0 - (am_and (am_ushr v0 1) 1431655765))) 858993459) + (am_and (am_ushr (w32 (v0 - (am_and (am_ushr v0 1) 1431655765))) 2) 858993459))) 4))) 252645135) 8)))] 31 rfl rfl ?_
  refine s_iload 32 rfl rfl ?_
  refine s_iload 33 rfl rfl ?_
  refine s_push 34 rfl ?_
  refine s_sh 35 rfl (by decide) ?_
  refine s_bin 36 rfl ?_
  refine s_istore [aI (w32 ((w32 ((am_and (w32 ((w32 ((am_and (w32 (v0 - (am_and (am_ushr v0 1) 1431655765))) 858993459) + (am_and (am_ushr (w32 (v0 - (am_and (am_ushr v0 1) 1431655765))) 2) 858993459))) + (am_ushr (w32 ((am_and (w32 (v0 - (am_and (am_ushr v0 1) 1431655765))) 858993459) + (am_and (am_ushr (w32 (v0 - (am_and (am_ushr v0 1) 1431655765))) 2) 858993459))) 4))) 252645135) + (am_ushr (am_and (w32 ((w32 ((am_and (w32 (v0 - (am_and (am_ushr v0 1) 1431655765))) 858993459) + (am_and (am_ushr (w32 (v0 - (am_and (am_ushr v0 1) 1431655765))) 2) 858993459))) + (am_ushr (w32 ((am_and (w32 (v0 - (am_and (am_ushr v0 1) 1431655765))) 858993459) + (am_and (am_ushr (w32 (v0 - (am_and (am_ushr v0 1) 1431655765))) 2) 858993459))) 4))) 252645135) 8))) + (am_ushr (w32 ((am_and (w32 ((w32 ((am_and (w32 (v0 - (am_and (am_ushr v0 1) 1431655765))) 858993459) + (am_and (am_ushr (w32 (v0 - (am_and (am_ushr v0 1) 1431655765))) 2) 858993459))) + (am_ushr (w32 ((am_and (w32 (v0 - (am_and (am_ushr v0 1) 1431655765))) 858993459) + (am_and (am_ushr (w32 (v0 - (am_and (am_ushr v0 1) 1431655765))) 2) 858993459))) 4))) 252645135) + (am_ushr (am_and (w32 ((w32 ((am_and (w32 (v0 - (am_and (am_ushr v0 1) 1431655765))) 858993459) + (am_and (am_ushr (w32 (v0 - (am_and (am_ushr v0 1) 1431655765))) 2) 858993459))) + (am_ushr (w32 ((am_and (w32 (v0 - (am_and (am_ushr v0 1) 1431655765))) 858993459) + (am_and (am_ushr (w32 (v0 - (am_and (am_ushr v0 1) 1431655765))) 2) 858993459))) 4))) 252645135) 8))) 16)))] 37 rfl rfl ?_
  refine s_iload 38 rfl rfl ?_
  refine s_push 39 rfl ?_
  refine s_bin 40 rfl ?_
  exact s_iret 41 rfl h
def ob_2_isPlace (m8 : Nat → Int) (v1 : Int) : Prop := ¬ (v1 < 0) → (¬ (64 ≤ v1) → (0 ≤ v1 ∧ v1 < 64))
theorem obt_2_isPlace (m8 : Nat → Int) (v1 : Int) : ob_2_isPlace m8 v1 := by unfold ob_2_isPlace; omega
theorem ct_2_isPlace {q : am_Q} {M : am_M} {v1 : Int} (h : q (aI (if ¬ (v1 < 0) ∧ (¬ (64 ≤ v1) ∧ ¬ (M 8 (v1.toNat) = (-1))) then 1 else 0)) M) : S2_isPlace [aR 7, aI v1] M q := by
  refine am_S.intro rfl rfl ?_
  have hob := obt_2_isPlace (M 8) v1
  unfold ob_2_isPlace at hob
  refine s_iload 0 rfl rfl ?_
  refine s_if 1 rfl (fun h1 => ?_) (fun h1 => ?_)
  · refine s_push 13 rfl ?_
    exact s_zret 14 rfl (by decide) (by rw [if_neg (by omega)] at h; exact h)
  · refine s_iload 2 rfl rfl ?_
    refine s_push 3 rfl ?_
    refine s_ic 4 rfl (fun h2 => ?_) (fun h2 => ?_)
    · refine s_push 13 rfl ?_
      exact s_zret 14 rfl (by decide) (by rw [if_neg (by omega)] at h; exact h)
    · refine s_aload 5 rfl rfl ?_
      refine s_getR 8 6 rfl rfl ?_
      refine s_iload 7 rfl rfl ?_
      refine s_iald (v := M 8 (v1.toNat)) 8 rfl rfl ((hob h1) h2) rfl ?_
      refine s_push 9 rfl ?_
      refine s_ic 10 rfl (fun h3 => ?_) (fun h3 => ?_)
      · refine s_push 13 rfl ?_
        exact s_zret 14 rfl (by decide) (by rw [if_neg (by omega)] at h; exact h)
      · refine s_push 11 rfl ?_
        refine s_goto 12 rfl ?_
        exact s_zret 14 rfl (by decide) (by rw [if_pos (by omega)] at h; exact h)
def f_2_beside (m9 : Nat → Int) (v1 v2 : Int) : Int := if (v1 * 4) + v2 < 0 then (-1) else if 256 ≤ (v1 * 4) + v2 then (-1) else m9 (((v1 * 4) + v2).toNat)
def ob_2_beside (m9 : Nat → Int) (v1 v2 : Int) : Prop := (-2147483648 ≤ v1 * 4 ∧ v1 * 4 < 2147483648) ∧ ((-2147483648 ≤ (v1 * 4) + v2 ∧ (v1 * 4) + v2 < 2147483648) ∧ (¬ ((v1 * 4) + v2 < 0) → (¬ (256 ≤ (v1 * 4) + v2) → (0 ≤ (v1 * 4) + v2 ∧ (v1 * 4) + v2 < 256))))
theorem ct_2_beside {q : am_Q} {M : am_M} {v1 : Int} {v2 : Int} (hob : ob_2_beside (M 9) v1 v2) (h : q (aI (f_2_beside (M 9) v1 v2)) M) : S2_beside [aR 7, aI v1, aI v2] M q := by
  refine am_S.intro rfl rfl ?_
  unfold ob_2_beside at hob
  unfold f_2_beside at h
  refine s_iload 0 rfl rfl ?_
  refine s_push 1 rfl ?_
  refine s_binX (v := v1 * 4) 2 rfl hob.1 rfl ?_
  refine s_iload 3 rfl rfl ?_
  refine s_binX (v := (v1 * 4) + v2) 4 rfl hob.2.1 rfl ?_
  refine s_istore [aR 7, aI v1, aI v2, aI ((v1 * 4) + v2)] 5 rfl rfl ?_
  refine s_iload 6 rfl rfl ?_
  refine s_if 7 rfl (fun h1 => ?_) (fun h1 => ?_)
  · rw [if_pos h1] at h
    refine s_push 16 rfl ?_
    exact s_iret 17 rfl h
  · rw [if_neg h1] at h
    refine s_iload 8 rfl rfl ?_
    refine s_push 9 rfl ?_
    refine s_ic 10 rfl (fun h2 => ?_) (fun h2 => ?_)
    · rw [if_pos h2] at h
      refine s_push 16 rfl ?_
      exact s_iret 17 rfl h
    · rw [if_neg h2] at h
      refine s_aload 11 rfl rfl ?_
      refine s_getR 9 12 rfl rfl ?_
      refine s_iload 13 rfl rfl ?_
      refine s_iald (v := M 9 (((v1 * 4) + v2).toNat)) 14 rfl rfl ((hob.2.2 h1) h2) rfl ?_
      refine s_goto 15 rfl ?_
      exact s_iret 17 rfl h
def f_0_stepsTo (m11 : Nat → Int) (v1 : Int) : Int := if v1 < 0 then (-1) else if 64 ≤ v1 then (-1) else m11 (v1.toNat)
def ob_0_stepsTo (m11 : Nat → Int) (v1 : Int) : Prop := ¬ (v1 < 0) → (¬ (64 ≤ v1) → (0 ≤ v1 ∧ v1 < 64))
theorem obt_0_stepsTo (m11 : Nat → Int) (v1 : Int) : ob_0_stepsTo m11 v1 := by unfold ob_0_stepsTo; omega
theorem ct_0_stepsTo {q : am_Q} {M : am_M} {v1 : Int} (h : q (aI (f_0_stepsTo (M 11) v1)) M) : S0_stepsTo [aR 10, aI v1] M q := by
  refine am_S.intro rfl rfl ?_
  have hob := obt_0_stepsTo (M 11) v1
  unfold ob_0_stepsTo at hob
  unfold f_0_stepsTo at h
  refine s_iload 0 rfl rfl ?_
  refine s_if 1 rfl (fun h1 => ?_) (fun h1 => ?_)
  · rw [if_pos h1] at h
    refine s_push 10 rfl ?_
    exact s_iret 11 rfl h
  · rw [if_neg h1] at h
    refine s_iload 2 rfl rfl ?_
    refine s_push 3 rfl ?_
    refine s_ic 4 rfl (fun h2 => ?_) (fun h2 => ?_)
    · rw [if_pos h2] at h
      refine s_push 10 rfl ?_
      exact s_iret 11 rfl h
    · rw [if_neg h2] at h
      refine s_aload 5 rfl rfl ?_
      refine s_getR 11 6 rfl rfl ?_
      refine s_iload 7 rfl rfl ?_
      refine s_iald (v := M 11 (v1.toNat)) 8 rfl rfl ((hob h1) h2) rfl ?_
      refine s_goto 9 rfl ?_
      exact s_iret 11 rfl h
def f_10_directionOf (v0 : Int) : Int := if v0 = 101 then 1 else if v0 = 110 then 0 else if v0 = 115 then 2 else if v0 = 119 then 3 else (-1)
theorem ct_10_directionOf {q : am_Q} {M : am_M} {v0 : Int} (h : q (aI (f_10_directionOf v0)) M) : S10_directionOf [aI v0] M q := by
  refine am_S.intro rfl rfl ?_
  unfold f_10_directionOf at h
  refine s_iload 0 rfl rfl ?_
  rcases Classical.em (v0 = 101) with h1 | h1
  · rw [if_pos h1] at h
    refine s_lsw 1 rfl (tg_eq (m := 46) (by simp [am_ltg, h1]) ?_)
    refine s_push 4 rfl ?_
    exact s_iret 5 rfl h
  · rw [if_neg h1] at h
    rcases Classical.em (v0 = 110) with h2 | h2
    · rw [if_pos h2] at h
      refine s_lsw 1 rfl (tg_eq (m := 44) (by simp [am_ltg, h1, h2]) ?_)
      refine s_push 2 rfl ?_
      exact s_iret 3 rfl h
    · rw [if_neg h2] at h
      rcases Classical.em (v0 = 115) with h3 | h3
      · rw [if_pos h3] at h
        refine s_lsw 1 rfl (tg_eq (m := 48) (by simp [am_ltg, h1, h2, h3]) ?_)
        refine s_push 6 rfl ?_
        exact s_iret 7 rfl h
      · rw [if_neg h3] at h
        rcases Classical.em (v0 = 119) with h4 | h4
        · rw [if_pos h4] at h
          refine s_lsw 1 rfl (tg_eq (m := 50) (by simp [am_ltg, h1, h2, h3, h4]) ?_)
          refine s_push 8 rfl ?_
          exact s_iret 9 rfl h
        · rw [if_neg h4] at h
          refine s_lsw 1 rfl (tg_eq (m := 52) (by simp [am_ltg, h1, h2, h3, h4]) ?_)
          refine s_push 10 rfl ?_
          exact s_iret 11 rfl h
def f_10_placeBehind (m20 : Nat → Int) (m22 : Nat → Int) (v1 : Int) : Int := if v1 < 0 then (-1) else if m20 4 < v1 then (-1) else if 40 < v1 then (-1) else m22 (v1.toNat)
def ob_10_placeBehind (m20 : Nat → Int) (m22 : Nat → Int) (v1 : Int) : Prop := ¬ (v1 < 0) → (¬ (m20 4 < v1) → (¬ (40 < v1) → (0 ≤ v1 ∧ v1 < 41)))
theorem obt_10_placeBehind (m20 : Nat → Int) (m22 : Nat → Int) (v1 : Int) : ob_10_placeBehind m20 m22 v1 := by unfold ob_10_placeBehind; omega
theorem ct_10_placeBehind {q : am_Q} {M : am_M} {v1 : Int} (h : q (aI (f_10_placeBehind (M 20) (M 22) v1)) M) : S10_placeBehind [aR 20, aI v1] M q := by
  refine am_S.intro rfl rfl ?_
  have hob := obt_10_placeBehind (M 20) (M 22) v1
  unfold ob_10_placeBehind at hob
  unfold f_10_placeBehind at h
  refine s_iload 0 rfl rfl ?_
  refine s_if 1 rfl (fun h1 => ?_) (fun h1 => ?_)
  · rw [if_pos h1] at h
    refine s_push 14 rfl ?_
    exact s_iret 15 rfl h
  · rw [if_neg h1] at h
    refine s_iload 2 rfl rfl ?_
    refine s_aload 3 rfl rfl ?_
    refine s_getI (v := M 20 4) 4 rfl rfl rfl ?_
    refine s_ic 5 rfl (fun h2 => ?_) (fun h2 => ?_)
    · rw [if_pos h2] at h
      refine s_push 14 rfl ?_
      exact s_iret 15 rfl h
    · rw [if_neg h2] at h
      refine s_iload 6 rfl rfl ?_
      refine s_push 7 rfl ?_
      refine s_ic 8 rfl (fun h3 => ?_) (fun h3 => ?_)
      · rw [if_pos h3] at h
        refine s_push 14 rfl ?_
        exact s_iret 15 rfl h
      · rw [if_neg h3] at h
        refine s_aload 9 rfl rfl ?_
        refine s_getR 22 10 rfl rfl ?_
        refine s_iload 11 rfl rfl ?_
        refine s_iald (v := M 22 (v1.toNat)) 12 rfl rfl (((hob h1) h2) h3) rfl ?_
        refine s_goto 13 rfl ?_
        exact s_iret 15 rfl h
def f_9_byteAt (mo : Nat → Int) (mo1 : Nat → Int) (v1 : Int) : Int := if v1 < 0 then (-1) else if mo 2 ≤ v1 then (-1) else if 71 ≤ v1 then (-1) else mo1 (v1.toNat)
def ob_9_byteAt (mo : Nat → Int) (mo1 : Nat → Int) (v1 : Int) : Prop := ¬ (v1 < 0) → (¬ (mo 2 ≤ v1) → (¬ (71 ≤ v1) → (0 ≤ v1 ∧ v1 < 71)))
theorem obt_9_byteAt (mo : Nat → Int) (mo1 : Nat → Int) (v1 : Int) : ob_9_byteAt mo mo1 v1 := by unfold ob_9_byteAt; omega
theorem ct_9_byteAt {q : am_Q} {M : am_M} {o : Nat} (ho : tx o) {v1 : Int} (h : q (aI (f_9_byteAt (M o) (M (o + 1)) v1)) M) : S9_byteAt [aR o, aI v1] M q := by
  refine am_S.intro rfl rfl ?_
  have hob := obt_9_byteAt (M o) (M (o + 1)) v1
  unfold ob_9_byteAt at hob
  unfold f_9_byteAt at h
  refine s_iload 0 rfl rfl ?_
  refine s_if 1 rfl (fun h1 => ?_) (fun h1 => ?_)
  · rw [if_pos h1] at h
    refine s_push 14 rfl ?_
    exact s_iret 15 rfl h
  · rw [if_neg h1] at h
    refine s_iload 2 rfl rfl ?_
    refine s_aload 3 rfl rfl ?_
    refine s_getI (v := M o 2) 4 rfl (tx_2 ho) rfl ?_
    refine s_ic 5 rfl (fun h2 => ?_) (fun h2 => ?_)
    · rw [if_pos h2] at h
      refine s_push 14 rfl ?_
      exact s_iret 15 rfl h
    · rw [if_neg h2] at h
      refine s_iload 6 rfl rfl ?_
      refine s_push 7 rfl ?_
      refine s_ic 8 rfl (fun h3 => ?_) (fun h3 => ?_)
      · rw [if_pos h3] at h
        refine s_push 14 rfl ?_
        exact s_iret 15 rfl h
      · rw [if_neg h3] at h
        refine s_aload 9 rfl rfl ?_
        refine s_getR (o + 1) 10 rfl (tx_1 ho) ?_
        refine s_iload 11 rfl rfl ?_
        refine s_iald (v := M (o + 1) (v1.toNat)) 12 rfl (tx_a ho) (((hob h1) h2) h3) rfl ?_
        refine s_goto 13 rfl ?_
        exact s_iret 15 rfl h
theorem ct_11_isPart {q : am_Q} {M : am_M} {v0 : Int} (h : q (aI (if v0 = 0 ∨ v0 = 1 then 1 else 0)) M) : S11_isPart [aI v0] M q := by
  refine am_S.intro rfl rfl ?_
  refine s_iload 0 rfl rfl ?_
  refine s_if 1 rfl (fun h1 => ?_) (fun h1 => ?_)
  · refine s_push 5 rfl ?_
    refine s_goto 6 rfl ?_
    exact s_zret 8 rfl (by decide) (by rw [if_pos (by omega)] at h; exact h)
  · refine s_iload 2 rfl rfl ?_
    refine s_push 3 rfl ?_
    refine s_icne 4 rfl (fun h2 => ?_) (fun h2 => ?_)
    · refine s_push 7 rfl ?_
      exact s_zret 8 rfl (by decide) (by rw [if_neg (by omega)] at h; exact h)
    · refine s_push 5 rfl ?_
      refine s_goto 6 rfl ?_
      exact s_zret 8 rfl (by decide) (by rw [if_pos (by omega)] at h; exact h)
def f_11_refused (v0 : Int) : Int := w64 ((-9223372036854775808) - v0)
theorem ct_11_refused {q : am_Q} {M : am_M} {v0 : Int} (h : q (aL (f_11_refused v0)) M) : S11_refused [aI v0] M q := by
  refine am_S.intro rfl rfl ?_
  unfold f_11_refused at h
  refine s_push 0 rfl ?_
  refine s_iload 1 rfl rfl ?_
  refine s_i2l 2 rfl ?_
  refine s_binL 3 rfl ?_
  exact s_lret 4 rfl h
def f_3_whoGoes (m15 : Nat → Int) (m19 : Nat → Int) (v1 : Int) : Int := if v1 < 0 then (-1) else if m15 4 ≤ v1 then (-1) else if 5 ≤ v1 then (-1) else m19 (v1.toNat)
def ob_3_whoGoes (m15 : Nat → Int) (m19 : Nat → Int) (v1 : Int) : Prop := ¬ (v1 < 0) → (¬ (m15 4 ≤ v1) → (¬ (5 ≤ v1) → (0 ≤ v1 ∧ v1 < 5)))
theorem obt_3_whoGoes (m15 : Nat → Int) (m19 : Nat → Int) (v1 : Int) : ob_3_whoGoes m15 m19 v1 := by unfold ob_3_whoGoes; omega
theorem ct_3_whoGoes {q : am_Q} {M : am_M} {v1 : Int} (h : q (aI (f_3_whoGoes (M 15) (M 19) v1)) M) : S3_whoGoes [aR 15, aI v1] M q := by
  refine am_S.intro rfl rfl ?_
  have hob := obt_3_whoGoes (M 15) (M 19) v1
  unfold ob_3_whoGoes at hob
  unfold f_3_whoGoes at h
  refine s_iload 0 rfl rfl ?_
  refine s_if 1 rfl (fun h1 => ?_) (fun h1 => ?_)
  · rw [if_pos h1] at h
    refine s_push 14 rfl ?_
    exact s_iret 15 rfl h
  · rw [if_neg h1] at h
    refine s_iload 2 rfl rfl ?_
    refine s_aload 3 rfl rfl ?_
    refine s_getI (v := M 15 4) 4 rfl rfl rfl ?_
    refine s_ic 5 rfl (fun h2 => ?_) (fun h2 => ?_)
    · rw [if_pos h2] at h
      refine s_push 14 rfl ?_
      exact s_iret 15 rfl h
    · rw [if_neg h2] at h
      refine s_iload 6 rfl rfl ?_
      refine s_push 7 rfl ?_
      refine s_ic 8 rfl (fun h3 => ?_) (fun h3 => ?_)
      · rw [if_pos h3] at h
        refine s_push 14 rfl ?_
        exact s_iret 15 rfl h
      · rw [if_neg h3] at h
        refine s_aload 9 rfl rfl ?_
        refine s_getR 19 10 rfl rfl ?_
        refine s_iload 11 rfl rfl ?_
        refine s_iald (v := M 19 (v1.toNat)) 12 rfl rfl (((hob h1) h2) h3) rfl ?_
        refine s_goto 13 rfl ?_
        exact s_iret 15 rfl h
theorem ct_3_isPerson {q : am_Q} {M : am_M} {v0 : Int} (h : q (aI (if ¬ (v0 < 0) ∧ ¬ (5 ≤ v0) then 1 else 0)) M) : S3_isPerson [aI v0] M q := by
  refine am_S.intro rfl rfl ?_
  refine s_iload 0 rfl rfl ?_
  refine s_if 1 rfl (fun h1 => ?_) (fun h1 => ?_)
  · refine s_push 7 rfl ?_
    exact s_zret 8 rfl (by decide) (by rw [if_neg (by omega)] at h; exact h)
  · refine s_iload 2 rfl rfl ?_
    refine s_push 3 rfl ?_
    refine s_ic 4 rfl (fun h2 => ?_) (fun h2 => ?_)
    · refine s_push 7 rfl ?_
      exact s_zret 8 rfl (by decide) (by rw [if_neg (by omega)] at h; exact h)
    · refine s_push 5 rfl ?_
      refine s_goto 6 rfl ?_
      exact s_zret 8 rfl (by decide) (by rw [if_pos (by omega)] at h; exact h)
def f_3_habitOf (m17 : Nat → Int) (v1 : Int) : Int := if ¬ (v1 < 0) ∧ ¬ (5 ≤ v1) then m17 (v1.toNat) else 0
def ob_3_habitOf (m17 : Nat → Int) (v1 : Int) : Prop := ¬ (v1 < 0) ∧ ¬ (5 ≤ v1) → (0 ≤ v1 ∧ v1 < 5)
theorem obt_3_habitOf (m17 : Nat → Int) (v1 : Int) : ob_3_habitOf m17 v1 := by unfold ob_3_habitOf; omega
theorem ct_3_habitOf {q : am_Q} {M : am_M} {v1 : Int} (h : q (aI (f_3_habitOf (M 17) v1)) M) : S3_habitOf [aR 15, aI v1] M q := by
  refine am_S.intro rfl rfl ?_
  have hob := obt_3_habitOf (M 17) v1
  unfold ob_3_habitOf at hob
  unfold f_3_habitOf at h
  refine s_iload 0 rfl rfl ?_
  refine s_call 1 rfl rfl rfl rfl rfl (ct_3_isPerson ?_)
  show am_R K3_habitOf q 4 [aR 15, aI v1] [aI (if ¬ (v1 < 0) ∧ ¬ (5 ≤ v1) then 1 else 0)] M
  refine s_ifeqB 2 rfl (fun h1 => ?_) (fun h1 => ?_)
  · rw [if_neg h1] at h
    refine s_push 8 rfl ?_
    exact s_iret 9 rfl h
  · rw [if_pos h1] at h
    refine s_aload 3 rfl rfl ?_
    refine s_getR 17 4 rfl rfl ?_
    refine s_iload 5 rfl rfl ?_
    refine s_iald (v := M 17 (v1.toNat)) 6 rfl rfl (hob h1) rfl ?_
    refine s_goto 7 rfl ?_
    exact s_iret 9 rfl h
theorem ct_11_areMinutes {q : am_Q} {M : am_M} {v0 : Int} (h : q (aI (if ¬ (v0 < 0) ∧ ¬ (5 < v0) then 1 else 0)) M) : S11_areMinutes [aI v0] M q := by
  refine am_S.intro rfl rfl ?_
  refine s_iload 0 rfl rfl ?_
  refine s_if 1 rfl (fun h1 => ?_) (fun h1 => ?_)
  · refine s_push 7 rfl ?_
    exact s_zret 8 rfl (by decide) (by rw [if_neg (by omega)] at h; exact h)
  · refine s_iload 2 rfl rfl ?_
    refine s_push 3 rfl ?_
    refine s_ic 4 rfl (fun h2 => ?_) (fun h2 => ?_)
    · refine s_push 7 rfl ?_
      exact s_zret 8 rfl (by decide) (by rw [if_neg (by omega)] at h; exact h)
    · refine s_push 5 rfl ?_
      refine s_goto 6 rfl ?_
      exact s_zret 8 rfl (by decide) (by rw [if_pos (by omega)] at h; exact h)
def f_11_at (m20 : Nat → Int) (m8 : Nat → Int) (m22 : Nat → Int) (v1 : Int) : Int := if v1 < 0 then (-2) else if v1 ≤ m20 4 then (if ¬ ((m20 2) < 0) ∧ (¬ (64 ≤ (m20 2)) ∧ ¬ ((m8) ((m20 2).toNat) = (-1))) then f_10_placeBehind (m20) (m22) v1 else (-3)) else (-2)
theorem ct_11_at {q : am_Q} {M : am_M} {v1 : Int} (h : q (aI (f_11_at (M 20) (M 8) (M 22) v1)) M) : S11_at [aR 0, aI v1] M q := by
  refine am_S.intro rfl rfl ?_
  unfold f_11_at at h
  refine s_iload 0 rfl rfl ?_
  refine s_if 1 rfl (fun h1 => ?_) (fun h1 => ?_)
  · rw [if_pos h1] at h
    refine s_push 7 rfl ?_
    exact s_iret 8 rfl h
  · rw [if_neg h1] at h
    refine s_iload 2 rfl rfl ?_
    refine s_aload 3 rfl rfl ?_
    refine s_getR 20 4 rfl rfl ?_
    refine s_getI (v := M 20 4) 5 rfl rfl rfl ?_
    refine s_ic 6 rfl (fun h2 => ?_) (fun h2 => ?_)
    · rw [if_pos h2] at h
      refine s_aload 9 rfl rfl ?_
      refine s_getR 7 10 rfl rfl ?_
      refine s_aload 11 rfl rfl ?_
      refine s_getR 20 12 rfl rfl ?_
      refine s_getI (v := M 20 2) 13 rfl rfl rfl ?_
      refine s_callv (o := 7) 14 rfl rfl rfl rfl rfl (ct_2_isPlace ?_)
      show am_R K11_at q 32 [aR 0, aI v1] [aI (if ¬ ((M 20 2) < 0) ∧ (¬ (64 ≤ (M 20 2)) ∧ ¬ ((M 8) ((M 20 2).toNat) = (-1))) then 1 else 0)] M
      refine s_ifeqB 15 rfl (fun h3 => ?_) (fun h3 => ?_)
      · rw [if_neg h3] at h
        refine s_push 21 rfl ?_
        exact s_iret 22 rfl h
      · rw [if_pos h3] at h
        refine s_aload 16 rfl rfl ?_
        refine s_getR 20 17 rfl rfl ?_
        refine s_iload 18 rfl rfl ?_
        refine s_callv (o := 20) 19 rfl rfl rfl rfl rfl (ct_10_placeBehind ?_)
        show am_R K11_at q 43 [aR 0, aI v1] [aI (f_10_placeBehind (M 20) (M 22) v1)] M
        refine s_goto 20 rfl ?_
        exact s_iret 22 rfl h
    · rw [if_neg h2] at h
      refine s_push 7 rfl ?_
      exact s_iret 8 rfl h
def f_3_gripOf (m16 : Nat → Int) (v1 v2 : Int) : Int := if v1 < 0 then 0 else if 5 ≤ v1 then 0 else if v2 < 0 then 0 else if 5 ≤ v2 then 0 else m16 (((v1 * 5) + v2).toNat)
def ob_3_gripOf (m16 : Nat → Int) (v1 v2 : Int) : Prop := ¬ (v1 < 0) → (¬ (5 ≤ v1) → (¬ (v2 < 0) → (¬ (5 ≤ v2) → ((-2147483648 ≤ v1 * 5 ∧ v1 * 5 < 2147483648) ∧ ((-2147483648 ≤ (v1 * 5) + v2 ∧ (v1 * 5) + v2 < 2147483648) ∧ (0 ≤ (v1 * 5) + v2 ∧ (v1 * 5) + v2 < 25))))))
theorem obt_3_gripOf (m16 : Nat → Int) (v1 v2 : Int) : ob_3_gripOf m16 v1 v2 := by unfold ob_3_gripOf; omega
theorem ct_3_gripOf {q : am_Q} {M : am_M} {v1 : Int} {v2 : Int} (h : q (aI (f_3_gripOf (M 16) v1 v2)) M) : S3_gripOf [aR 15, aI v1, aI v2] M q := by
  refine am_S.intro rfl rfl ?_
  have hob := obt_3_gripOf (M 16) v1 v2
  unfold ob_3_gripOf at hob
  unfold f_3_gripOf at h
  refine s_iload 0 rfl rfl ?_
  refine s_if 1 rfl (fun h1 => ?_) (fun h1 => ?_)
  · rw [if_pos h1] at h
    refine s_push 12 rfl ?_
    refine s_istore [aR 15, aI v1, aI v2, aI 0] 13 rfl rfl ?_
    refine s_iload 14 rfl rfl ?_
    refine s_if 15 rfl (fun _ => ?_) (fun h => absurd (by decide) h)
    refine s_push 25 rfl ?_
    exact s_iret 26 rfl h
  · rw [if_neg h1] at h
    refine s_iload 2 rfl rfl ?_
    refine s_push 3 rfl ?_
    refine s_ic 4 rfl (fun h2 => ?_) (fun h2 => ?_)
    · rw [if_pos h2] at h
      refine s_push 12 rfl ?_
      refine s_istore [aR 15, aI v1, aI v2, aI 0] 13 rfl rfl ?_
      refine s_iload 14 rfl rfl ?_
      refine s_if 15 rfl (fun _ => ?_) (fun h => absurd (by decide) h)
      refine s_push 25 rfl ?_
      exact s_iret 26 rfl h
    · rw [if_neg h2] at h
      refine s_iload 5 rfl rfl ?_
      refine s_if 6 rfl (fun h3 => ?_) (fun h3 => ?_)
      · rw [if_pos h3] at h
        refine s_push 12 rfl ?_
        refine s_istore [aR 15, aI v1, aI v2, aI 0] 13 rfl rfl ?_
        refine s_iload 14 rfl rfl ?_
        refine s_if 15 rfl (fun _ => ?_) (fun h => absurd (by decide) h)
        refine s_push 25 rfl ?_
        exact s_iret 26 rfl h
      · rw [if_neg h3] at h
        refine s_iload 7 rfl rfl ?_
        refine s_push 8 rfl ?_
        refine s_ic 9 rfl (fun h4 => ?_) (fun h4 => ?_)
        · rw [if_pos h4] at h
          refine s_push 12 rfl ?_
          refine s_istore [aR 15, aI v1, aI v2, aI 0] 13 rfl rfl ?_
          refine s_iload 14 rfl rfl ?_
          refine s_if 15 rfl (fun _ => ?_) (fun h => absurd (by decide) h)
          refine s_push 25 rfl ?_
          exact s_iret 26 rfl h
        · rw [if_neg h4] at h
          refine s_push 10 rfl ?_
          refine s_goto 11 rfl ?_
          refine s_istore [aR 15, aI v1, aI v2, aI 1] 13 rfl rfl ?_
          refine s_iload 14 rfl rfl ?_
          refine s_if 15 rfl (fun h => absurd h (by decide)) (fun _ => ?_)
          refine s_aload 16 rfl rfl ?_
          refine s_getR 16 17 rfl rfl ?_
          refine s_iload 18 rfl rfl ?_
          refine s_push 19 rfl ?_
          refine s_binX (v := v1 * 5) 20 rfl ((((hob h1) h2) h3) h4).1 rfl ?_
          refine s_iload 21 rfl rfl ?_
          refine s_binX (v := (v1 * 5) + v2) 22 rfl ((((hob h1) h2) h3) h4).2.1 rfl ?_
          refine s_iald (v := M 16 (((v1 * 5) + v2).toNat)) 23 rfl rfl ((((hob h1) h2) h3) h4).2.2 rfl ?_
          refine s_goto 24 rfl ?_
          exact s_iret 26 rfl h
def f_6_leastFrom (m33 : Nat → Int) (v1 v2 : Int) : Int := if v1 < 0 then 0 else if 7 ≤ v1 then 0 else if v2 < 0 then 0 else if 32 ≤ v2 then 0 else m33 (((v2 * 7) + v1).toNat)
def ob_6_leastFrom (m33 : Nat → Int) (v1 v2 : Int) : Prop := ¬ (v1 < 0) → (¬ (7 ≤ v1) → (¬ (v2 < 0) → (¬ (32 ≤ v2) → ((-2147483648 ≤ v2 * 7 ∧ v2 * 7 < 2147483648) ∧ ((-2147483648 ≤ (v2 * 7) + v1 ∧ (v2 * 7) + v1 < 2147483648) ∧ (0 ≤ (v2 * 7) + v1 ∧ (v2 * 7) + v1 < 224))))))
theorem obt_6_leastFrom (m33 : Nat → Int) (v1 v2 : Int) : ob_6_leastFrom m33 v1 v2 := by unfold ob_6_leastFrom; omega
theorem ct_6_leastFrom {q : am_Q} {M : am_M} {v1 : Int} {v2 : Int} (h : q (aI (f_6_leastFrom (M 33) v1 v2)) M) : S6_leastFrom [aR 30, aI v1, aI v2] M q := by
  refine am_S.intro rfl rfl ?_
  have hob := obt_6_leastFrom (M 33) v1 v2
  unfold ob_6_leastFrom at hob
  unfold f_6_leastFrom at h
  refine s_iload 0 rfl rfl ?_
  refine s_if 1 rfl (fun h1 => ?_) (fun h1 => ?_)
  · rw [if_pos h1] at h
    refine s_push 12 rfl ?_
    refine s_istore [aR 30, aI v1, aI v2, aI 0] 13 rfl rfl ?_
    refine s_iload 14 rfl rfl ?_
    refine s_if 15 rfl (fun _ => ?_) (fun h => absurd (by decide) h)
    refine s_push 25 rfl ?_
    exact s_iret 26 rfl h
  · rw [if_neg h1] at h
    refine s_iload 2 rfl rfl ?_
    refine s_push 3 rfl ?_
    refine s_ic 4 rfl (fun h2 => ?_) (fun h2 => ?_)
    · rw [if_pos h2] at h
      refine s_push 12 rfl ?_
      refine s_istore [aR 30, aI v1, aI v2, aI 0] 13 rfl rfl ?_
      refine s_iload 14 rfl rfl ?_
      refine s_if 15 rfl (fun _ => ?_) (fun h => absurd (by decide) h)
      refine s_push 25 rfl ?_
      exact s_iret 26 rfl h
    · rw [if_neg h2] at h
      refine s_iload 5 rfl rfl ?_
      refine s_if 6 rfl (fun h3 => ?_) (fun h3 => ?_)
      · rw [if_pos h3] at h
        refine s_push 12 rfl ?_
        refine s_istore [aR 30, aI v1, aI v2, aI 0] 13 rfl rfl ?_
        refine s_iload 14 rfl rfl ?_
        refine s_if 15 rfl (fun _ => ?_) (fun h => absurd (by decide) h)
        refine s_push 25 rfl ?_
        exact s_iret 26 rfl h
      · rw [if_neg h3] at h
        refine s_iload 7 rfl rfl ?_
        refine s_push 8 rfl ?_
        refine s_ic 9 rfl (fun h4 => ?_) (fun h4 => ?_)
        · rw [if_pos h4] at h
          refine s_push 12 rfl ?_
          refine s_istore [aR 30, aI v1, aI v2, aI 0] 13 rfl rfl ?_
          refine s_iload 14 rfl rfl ?_
          refine s_if 15 rfl (fun _ => ?_) (fun h => absurd (by decide) h)
          refine s_push 25 rfl ?_
          exact s_iret 26 rfl h
        · rw [if_neg h4] at h
          refine s_push 10 rfl ?_
          refine s_goto 11 rfl ?_
          refine s_istore [aR 30, aI v1, aI v2, aI 1] 13 rfl rfl ?_
          refine s_iload 14 rfl rfl ?_
          refine s_if 15 rfl (fun h => absurd h (by decide)) (fun _ => ?_)
          refine s_aload 16 rfl rfl ?_
          refine s_getR 33 17 rfl rfl ?_
          refine s_iload 18 rfl rfl ?_
          refine s_push 19 rfl ?_
          refine s_binX (v := v2 * 7) 20 rfl ((((hob h1) h2) h3) h4).1 rfl ?_
          refine s_iload 21 rfl rfl ?_
          refine s_binX (v := (v2 * 7) + v1) 22 rfl ((((hob h1) h2) h3) h4).2.1 rfl ?_
          refine s_iald (v := M 33 (((v2 * 7) + v1).toNat)) 23 rfl rfl ((((hob h1) h2) h3) h4).2.2 rfl ?_
          refine s_goto 24 rfl ?_
          exact s_iret 26 rfl h
def f_6_costBy (m31 : Nat → Int) (m32 : Nat → Int) (m33 : Nat → Int) (v1 v2 v3 : Int) : Int := if v1 < 0 then 0 else if 7 ≤ v1 then 0 else if v2 < 0 then 0 else if 32 ≤ v2 then 0 else if v3 < 0 then 0 else if 5 ≤ v3 then 0 else ((m31 (((v1 * 5) + v3).toNat)) * (m32 (v2.toNat))) + (f_6_leastFrom (m33) v3 (am_and v2 (am_xor (am_shl 1 v3) (-1))))
def ob_6_costBy (m31 : Nat → Int) (m32 : Nat → Int) (m33 : Nat → Int) (v1 v2 v3 : Int) : Prop := ¬ (v1 < 0) → (¬ (7 ≤ v1) → (¬ (v2 < 0) → (¬ (32 ≤ v2) → (¬ (v3 < 0) → (¬ (5 ≤ v3) → ((-2147483648 ≤ v1 * 5 ∧ v1 * 5 < 2147483648) ∧ ((-2147483648 ≤ (v1 * 5) + v3 ∧ (v1 * 5) + v3 < 2147483648) ∧ ((0 ≤ (v1 * 5) + v3 ∧ (v1 * 5) + v3 < 35) ∧ ((0 ≤ v2 ∧ v2 < 32) ∧ ((-2147483648 ≤ (m31 (((v1 * 5) + v3).toNat)) * (m32 (v2.toNat)) ∧ (m31 (((v1 * 5) + v3).toNat)) * (m32 (v2.toNat)) < 2147483648) ∧ ((0 ≤ v3 ∧ v3 < 32) ∧ (-2147483648 ≤ ((m31 (((v1 * 5) + v3).toNat)) * (m32 (v2.toNat))) + (f_6_leastFrom (m33) v3 (am_and v2 (am_xor (am_shl 1 v3) (-1)))) ∧ ((m31 (((v1 * 5) + v3).toNat)) * (m32 (v2.toNat))) + (f_6_leastFrom (m33) v3 (am_and v2 (am_xor (am_shl 1 v3) (-1)))) < 2147483648))))))))))))
theorem ct_6_costBy {q : am_Q} {M : am_M} {v1 : Int} {v2 : Int} {v3 : Int} (hob : ob_6_costBy (M 31) (M 32) (M 33) v1 v2 v3) (h : q (aI (f_6_costBy (M 31) (M 32) (M 33) v1 v2 v3)) M) : S6_costBy [aR 30, aI v1, aI v2, aI v3] M q := by
  refine am_S.intro rfl rfl ?_
  unfold ob_6_costBy at hob
  unfold f_6_costBy at h
  refine s_iload 0 rfl rfl ?_
  refine s_if 1 rfl (fun h1 => ?_) (fun h1 => ?_)
  · rw [if_pos h1] at h
    refine s_push 17 rfl ?_
    refine s_istore [aR 30, aI v1, aI v2, aI v3, aI 0] 18 rfl rfl ?_
    refine s_iload 19 rfl rfl ?_
    refine s_if 20 rfl (fun _ => ?_) (fun h => absurd (by decide) h)
    refine s_push 46 rfl ?_
    exact s_iret 47 rfl h
  · rw [if_neg h1] at h
    refine s_iload 2 rfl rfl ?_
    refine s_push 3 rfl ?_
    refine s_ic 4 rfl (fun h2 => ?_) (fun h2 => ?_)
    · rw [if_pos h2] at h
      refine s_push 17 rfl ?_
      refine s_istore [aR 30, aI v1, aI v2, aI v3, aI 0] 18 rfl rfl ?_
      refine s_iload 19 rfl rfl ?_
      refine s_if 20 rfl (fun _ => ?_) (fun h => absurd (by decide) h)
      refine s_push 46 rfl ?_
      exact s_iret 47 rfl h
    · rw [if_neg h2] at h
      refine s_iload 5 rfl rfl ?_
      refine s_if 6 rfl (fun h3 => ?_) (fun h3 => ?_)
      · rw [if_pos h3] at h
        refine s_push 17 rfl ?_
        refine s_istore [aR 30, aI v1, aI v2, aI v3, aI 0] 18 rfl rfl ?_
        refine s_iload 19 rfl rfl ?_
        refine s_if 20 rfl (fun _ => ?_) (fun h => absurd (by decide) h)
        refine s_push 46 rfl ?_
        exact s_iret 47 rfl h
      · rw [if_neg h3] at h
        refine s_iload 7 rfl rfl ?_
        refine s_push 8 rfl ?_
        refine s_ic 9 rfl (fun h4 => ?_) (fun h4 => ?_)
        · rw [if_pos h4] at h
          refine s_push 17 rfl ?_
          refine s_istore [aR 30, aI v1, aI v2, aI v3, aI 0] 18 rfl rfl ?_
          refine s_iload 19 rfl rfl ?_
          refine s_if 20 rfl (fun _ => ?_) (fun h => absurd (by decide) h)
          refine s_push 46 rfl ?_
          exact s_iret 47 rfl h
        · rw [if_neg h4] at h
          refine s_iload 10 rfl rfl ?_
          refine s_if 11 rfl (fun h5 => ?_) (fun h5 => ?_)
          · rw [if_pos h5] at h
            refine s_push 17 rfl ?_
            refine s_istore [aR 30, aI v1, aI v2, aI v3, aI 0] 18 rfl rfl ?_
            refine s_iload 19 rfl rfl ?_
            refine s_if 20 rfl (fun _ => ?_) (fun h => absurd (by decide) h)
            refine s_push 46 rfl ?_
            exact s_iret 47 rfl h
          · rw [if_neg h5] at h
            refine s_iload 12 rfl rfl ?_
            refine s_push 13 rfl ?_
            refine s_ic 14 rfl (fun h6 => ?_) (fun h6 => ?_)
            · rw [if_pos h6] at h
              refine s_push 17 rfl ?_
              refine s_istore [aR 30, aI v1, aI v2, aI v3, aI 0] 18 rfl rfl ?_
              refine s_iload 19 rfl rfl ?_
              refine s_if 20 rfl (fun _ => ?_) (fun h => absurd (by decide) h)
              refine s_push 46 rfl ?_
              exact s_iret 47 rfl h
            · rw [if_neg h6] at h
              refine s_push 15 rfl ?_
              refine s_goto 16 rfl ?_
              refine s_istore [aR 30, aI v1, aI v2, aI v3, aI 1] 18 rfl rfl ?_
              refine s_iload 19 rfl rfl ?_
              refine s_if 20 rfl (fun h => absurd h (by decide)) (fun _ => ?_)
              refine s_aload 21 rfl rfl ?_
              refine s_getR 31 22 rfl rfl ?_
              refine s_iload 23 rfl rfl ?_
              refine s_push 24 rfl ?_
              refine s_binX (v := v1 * 5) 25 rfl ((((((hob h1) h2) h3) h4) h5) h6).1 rfl ?_
              refine s_iload 26 rfl rfl ?_
              refine s_binX (v := (v1 * 5) + v3) 27 rfl ((((((hob h1) h2) h3) h4) h5) h6).2.1 rfl ?_
              refine s_iald (v := M 31 (((v1 * 5) + v3).toNat)) 28 rfl rfl ((((((hob h1) h2) h3) h4) h5) h6).2.2.1 rfl ?_
              refine s_aload 29 rfl rfl ?_
              refine s_getR 32 30 rfl rfl ?_
              refine s_iload 31 rfl rfl ?_
              refine s_iald (v := M 32 (v2.toNat)) 32 rfl rfl ((((((hob h1) h2) h3) h4) h5) h6).2.2.2.1 rfl ?_
              refine s_binX (v := (M 31 (((v1 * 5) + v3).toNat)) * (M 32 (v2.toNat))) 33 rfl ((((((hob h1) h2) h3) h4) h5) h6).2.2.2.2.1 rfl ?_
              refine s_aload 34 rfl rfl ?_
              refine s_iload 35 rfl rfl ?_
              refine s_iload 36 rfl rfl ?_
              refine s_push 37 rfl ?_
              refine s_iload 38 rfl rfl ?_
              refine s_sh 39 rfl ((((((hob h1) h2) h3) h4) h5) h6).2.2.2.2.2.1 ?_
              refine s_push 40 rfl ?_
              refine s_bin 41 rfl ?_
              refine s_bin 42 rfl ?_
              refine s_callv (o := 30) 43 rfl rfl rfl rfl rfl (ct_6_leastFrom ?_)
              show am_R K6_costBy q 70 [aR 30, aI v1, aI v2, aI v3, aI 1] [aI (f_6_leastFrom (M 33) v3 (am_and v2 (am_xor (am_shl 1 v3) (-1)))), aI ((M 31 (((v1 * 5) + v3).toNat)) * (M 32 (v2.toNat)))] M
              refine s_binX (v := ((M 31 (((v1 * 5) + v3).toNat)) * (M 32 (v2.toNat))) + (f_6_leastFrom (M 33) v3 (am_and v2 (am_xor (am_shl 1 v3) (-1))))) 44 rfl ((((((hob h1) h2) h3) h4) h5) h6).2.2.2.2.2.2 rfl ?_
              refine s_goto 45 rfl ?_
              exact s_iret 47 rfl h
def f_4_placeOf (m27 : Nat → Int) (m28 : Nat → Int) (v1 : Int) : Int := if v1 < 0 then (-1) else if m27 2 ≤ v1 then (-1) else if 5 ≤ v1 then (-1) else m28 (v1.toNat)
def ob_4_placeOf (m27 : Nat → Int) (m28 : Nat → Int) (v1 : Int) : Prop := ¬ (v1 < 0) → (¬ (m27 2 ≤ v1) → (¬ (5 ≤ v1) → (0 ≤ v1 ∧ v1 < 5)))
theorem obt_4_placeOf (m27 : Nat → Int) (m28 : Nat → Int) (v1 : Int) : ob_4_placeOf m27 m28 v1 := by unfold ob_4_placeOf; omega
theorem ct_4_placeOf {q : am_Q} {M : am_M} {v1 : Int} (h : q (aI (f_4_placeOf (M 27) (M 28) v1)) M) : S4_placeOf [aR 27, aI v1] M q := by
  refine am_S.intro rfl rfl ?_
  have hob := obt_4_placeOf (M 27) (M 28) v1
  unfold ob_4_placeOf at hob
  unfold f_4_placeOf at h
  refine s_iload 0 rfl rfl ?_
  refine s_if 1 rfl (fun h1 => ?_) (fun h1 => ?_)
  · rw [if_pos h1] at h
    refine s_push 14 rfl ?_
    exact s_iret 15 rfl h
  · rw [if_neg h1] at h
    refine s_iload 2 rfl rfl ?_
    refine s_aload 3 rfl rfl ?_
    refine s_getI (v := M 27 2) 4 rfl rfl rfl ?_
    refine s_ic 5 rfl (fun h2 => ?_) (fun h2 => ?_)
    · rw [if_pos h2] at h
      refine s_push 14 rfl ?_
      exact s_iret 15 rfl h
    · rw [if_neg h2] at h
      refine s_iload 6 rfl rfl ?_
      refine s_push 7 rfl ?_
      refine s_ic 8 rfl (fun h3 => ?_) (fun h3 => ?_)
      · rw [if_pos h3] at h
        refine s_push 14 rfl ?_
        exact s_iret 15 rfl h
      · rw [if_neg h3] at h
        refine s_aload 9 rfl rfl ?_
        refine s_getR 28 10 rfl rfl ?_
        refine s_iload 11 rfl rfl ?_
        refine s_iald (v := M 28 (v1.toNat)) 12 rfl rfl (((hob h1) h2) h3) rfl ?_
        refine s_goto 13 rfl ?_
        exact s_iret 15 rfl h
def f_3_standOf (m18 : Nat → Int) (v1 : Int) : Int := if ¬ (v1 < 0) ∧ ¬ (5 ≤ v1) then m18 (v1.toNat) else (-1)
def ob_3_standOf (m18 : Nat → Int) (v1 : Int) : Prop := ¬ (v1 < 0) ∧ ¬ (5 ≤ v1) → (0 ≤ v1 ∧ v1 < 5)
theorem obt_3_standOf (m18 : Nat → Int) (v1 : Int) : ob_3_standOf m18 v1 := by unfold ob_3_standOf; omega
theorem ct_3_standOf {q : am_Q} {M : am_M} {v1 : Int} (h : q (aI (f_3_standOf (M 18) v1)) M) : S3_standOf [aR 15, aI v1] M q := by
  refine am_S.intro rfl rfl ?_
  have hob := obt_3_standOf (M 18) v1
  unfold ob_3_standOf at hob
  unfold f_3_standOf at h
  refine s_iload 0 rfl rfl ?_
  refine s_call 1 rfl rfl rfl rfl rfl (ct_3_isPerson ?_)
  show am_R K3_standOf q 4 [aR 15, aI v1] [aI (if ¬ (v1 < 0) ∧ ¬ (5 ≤ v1) then 1 else 0)] M
  refine s_ifeqB 2 rfl (fun h1 => ?_) (fun h1 => ?_)
  · rw [if_neg h1] at h
    refine s_push 8 rfl ?_
    exact s_iret 9 rfl h
  · rw [if_pos h1] at h
    refine s_aload 3 rfl rfl ?_
    refine s_getR 18 4 rfl rfl ?_
    refine s_iload 5 rfl rfl ?_
    refine s_iald (v := M 18 (v1.toNat)) 6 rfl rfl (hob h1) rfl ?_
    refine s_goto 7 rfl ?_
    exact s_iret 9 rfl h
theorem ct_7_isLost {q : am_Q} {M : am_M} {o : Nat} (ho : sx o) (h : q (aI (if M o 1 = (-1) then 1 else 0)) M) : S7_isLost [aR o] M q := by
  refine am_S.intro rfl rfl ?_
  refine s_aload 0 rfl rfl ?_
  refine s_getI (v := M o 1) 1 rfl (sx_1 ho) rfl ?_
  refine s_push 2 rfl ?_
  refine s_icne 3 rfl (fun h1 => ?_) (fun h1 => ?_)
  · refine s_push 6 rfl ?_
    exact s_zret 7 rfl (by decide) (by rw [if_neg (by omega)] at h; exact h)
  · refine s_push 4 rfl ?_
    refine s_goto 5 rfl ?_
    exact s_zret 7 rfl (by decide) (by rw [if_pos (by omega)] at h; exact h)
def ob_7_hasRun (mo : Nat → Int) (v1 v2 : Int) : Prop := ¬ (v1 < 0) → (¬ (v2 < 0) → (-2147483648 ≤ (mo 2) - v2 ∧ (mo 2) - v2 < 2147483648))
theorem ct_7_hasRun {q : am_Q} {M : am_M} {o : Nat} (ho : sx o) {v1 : Int} {v2 : Int} (hob : ob_7_hasRun (M o) v1 v2) (h : q (aI (if ¬ (v1 < 0) ∧ (¬ (v2 < 0) ∧ ¬ ((M o 2) - v2 < v1)) then 1 else 0)) M) : S7_hasRun [aR o, aI v1, aI v2] M q := by
  refine am_S.intro rfl rfl ?_
  unfold ob_7_hasRun at hob
  refine s_iload 0 rfl rfl ?_
  refine s_if 1 rfl (fun h1 => ?_) (fun h1 => ?_)
  · refine s_push 12 rfl ?_
    exact s_zret 13 rfl (by decide) (by rw [if_neg (by omega)] at h; exact h)
  · refine s_iload 2 rfl rfl ?_
    refine s_if 3 rfl (fun h2 => ?_) (fun h2 => ?_)
    · refine s_push 12 rfl ?_
      exact s_zret 13 rfl (by decide) (by rw [if_neg (by omega)] at h; exact h)
    · refine s_iload 4 rfl rfl ?_
      refine s_aload 5 rfl rfl ?_
      refine s_getI (v := M o 2) 6 rfl (sx_2 ho) rfl ?_
      refine s_iload 7 rfl rfl ?_
      refine s_binX (v := (M o 2) - v2) 8 rfl ((hob h1) h2) rfl ?_
      refine s_ic 9 rfl (fun h3 => ?_) (fun h3 => ?_)
      · refine s_push 12 rfl ?_
        exact s_zret 13 rfl (by decide) (by rw [if_neg (by omega)] at h; exact h)
      · refine s_push 10 rfl ?_
        refine s_goto 11 rfl ?_
        exact s_zret 13 rfl (by decide) (by rw [if_pos (by omega)] at h; exact h)
def f_11_count (m7 : Nat → Int) (m15 : Nat → Int) (m20 : Nat → Int) (m1 : Nat → Int) (m3 : Nat → Int) (m5 : Nat → Int) (m27 : Nat → Int) (m0 : Nat → Int) (v1 : Int) : Int := if v1 = 0 then m7 2 else if v1 = 1 then m15 4 else if v1 = 2 then m20 3 else if v1 = 3 then m20 4 else if v1 = 4 then m1 2 else if v1 = 5 then m3 2 else if v1 = 6 then m5 2 else if v1 = 7 then m27 2 else if v1 = 8 then m0 16 else (-2)
theorem ct_11_count {q : am_Q} {M : am_M} {v1 : Int} (h : q (aI (f_11_count (M 7) (M 15) (M 20) (M 1) (M 3) (M 5) (M 27) (M 0) v1)) M) : S11_count [aR 0, aI v1] M q := by
  refine am_S.intro rfl rfl ?_
  unfold f_11_count at h
  refine s_iload 0 rfl rfl ?_
  rcases Classical.em (v1 = 0) with h1 | h1
  · rw [if_pos h1] at h
    refine s_tsw 1 rfl (tg_eq (m := 52) (by rw [h1]; decide) ?_)
    refine s_aload 2 rfl rfl ?_
    refine s_getR 7 3 rfl rfl ?_
    refine s_getI (v := M 7 2) 4 rfl rfl rfl ?_
    exact s_iret 5 rfl h
  · rw [if_neg h1] at h
    rcases Classical.em (v1 = 1) with h2 | h2
    · rw [if_pos h2] at h
      refine s_tsw 1 rfl (tg_eq (m := 60) (by rw [h2]; decide) ?_)
      refine s_aload 6 rfl rfl ?_
      refine s_getR 15 7 rfl rfl ?_
      refine s_getI (v := M 15 4) 8 rfl rfl rfl ?_
      exact s_iret 9 rfl h
    · rw [if_neg h2] at h
      rcases Classical.em (v1 = 2) with h3 | h3
      · rw [if_pos h3] at h
        refine s_tsw 1 rfl (tg_eq (m := 68) (by rw [h3]; decide) ?_)
        refine s_aload 10 rfl rfl ?_
        refine s_getR 20 11 rfl rfl ?_
        refine s_getI (v := M 20 3) 12 rfl rfl rfl ?_
        exact s_iret 13 rfl h
      · rw [if_neg h3] at h
        rcases Classical.em (v1 = 3) with h4 | h4
        · rw [if_pos h4] at h
          refine s_tsw 1 rfl (tg_eq (m := 76) (by rw [h4]; decide) ?_)
          refine s_aload 14 rfl rfl ?_
          refine s_getR 20 15 rfl rfl ?_
          refine s_getI (v := M 20 4) 16 rfl rfl rfl ?_
          exact s_iret 17 rfl h
        · rw [if_neg h4] at h
          rcases Classical.em (v1 = 4) with h5 | h5
          · rw [if_pos h5] at h
            refine s_tsw 1 rfl (tg_eq (m := 84) (by rw [h5]; decide) ?_)
            refine s_aload 18 rfl rfl ?_
            refine s_getR 1 19 rfl rfl ?_
            refine s_getI (v := M 1 2) 20 rfl rfl rfl ?_
            exact s_iret 21 rfl h
          · rw [if_neg h5] at h
            rcases Classical.em (v1 = 5) with h6 | h6
            · rw [if_pos h6] at h
              refine s_tsw 1 rfl (tg_eq (m := 92) (by rw [h6]; decide) ?_)
              refine s_aload 22 rfl rfl ?_
              refine s_getR 3 23 rfl rfl ?_
              refine s_getI (v := M 3 2) 24 rfl rfl rfl ?_
              exact s_iret 25 rfl h
            · rw [if_neg h6] at h
              rcases Classical.em (v1 = 6) with h7 | h7
              · rw [if_pos h7] at h
                refine s_tsw 1 rfl (tg_eq (m := 100) (by rw [h7]; decide) ?_)
                refine s_aload 26 rfl rfl ?_
                refine s_getR 5 27 rfl rfl ?_
                refine s_getI (v := M 5 2) 28 rfl rfl rfl ?_
                exact s_iret 29 rfl h
              · rw [if_neg h7] at h
                rcases Classical.em (v1 = 7) with h8 | h8
                · rw [if_pos h8] at h
                  refine s_tsw 1 rfl (tg_eq (m := 108) (by rw [h8]; decide) ?_)
                  refine s_aload 30 rfl rfl ?_
                  refine s_getR 27 31 rfl rfl ?_
                  refine s_getI (v := M 27 2) 32 rfl rfl rfl ?_
                  exact s_iret 33 rfl h
                · rw [if_neg h8] at h
                  rcases Classical.em (v1 = 8) with h9 | h9
                  · rw [if_pos h9] at h
                    refine s_tsw 1 rfl (tg_eq (m := 116) (by rw [h9]; decide) ?_)
                    refine s_aload 34 rfl rfl ?_
                    refine s_getI (v := M 0 16) 35 rfl rfl rfl ?_
                    exact s_iret 36 rfl h
                  · rw [if_neg h9] at h
                    refine s_tsw 1 rfl (tg_eq (m := 121) (by unfold am_tgt; rw [if_pos (by omega)]) ?_)
                    refine s_push 37 rfl ?_
                    exact s_iret 38 rfl h
def f_2_densityOf (m8 : Nat → Int) (v1 : Int) : Int := if v1 < 0 then 0 else if 64 ≤ v1 then 0 else if m8 (v1.toNat) = (-1) then 0 else m8 (v1.toNat)
def ob_2_densityOf (m8 : Nat → Int) (v1 : Int) : Prop := ¬ (v1 < 0) → (¬ (64 ≤ v1) → (0 ≤ v1 ∧ v1 < 64))
theorem obt_2_densityOf (m8 : Nat → Int) (v1 : Int) : ob_2_densityOf m8 v1 := by unfold ob_2_densityOf; omega
theorem ct_2_densityOf {q : am_Q} {M : am_M} {v1 : Int} (h : q (aI (f_2_densityOf (M 8) v1)) M) : S2_densityOf [aR 7, aI v1] M q := by
  refine am_S.intro rfl rfl ?_
  have hob := obt_2_densityOf (M 8) v1
  unfold ob_2_densityOf at hob
  unfold f_2_densityOf at h
  refine s_iload 0 rfl rfl ?_
  refine s_if 1 rfl (fun h1 => ?_) (fun h1 => ?_)
  · rw [if_pos h1] at h
    refine s_push 16 rfl ?_
    exact s_iret 17 rfl h
  · rw [if_neg h1] at h
    refine s_iload 2 rfl rfl ?_
    refine s_push 3 rfl ?_
    refine s_ic 4 rfl (fun h2 => ?_) (fun h2 => ?_)
    · rw [if_pos h2] at h
      refine s_push 16 rfl ?_
      exact s_iret 17 rfl h
    · rw [if_neg h2] at h
      refine s_aload 5 rfl rfl ?_
      refine s_getR 8 6 rfl rfl ?_
      refine s_iload 7 rfl rfl ?_
      refine s_iald (v := M 8 (v1.toNat)) 8 rfl rfl ((hob h1) h2) rfl ?_
      refine s_push 9 rfl ?_
      refine s_ic 10 rfl (fun h3 => ?_) (fun h3 => ?_)
      · rw [if_pos h3] at h
        refine s_push 16 rfl ?_
        exact s_iret 17 rfl h
      · rw [if_neg h3] at h
        refine s_aload 11 rfl rfl ?_
        refine s_getR 8 12 rfl rfl ?_
        refine s_iload 13 rfl rfl ?_
        refine s_iald (v := M 8 (v1.toNat)) 14 rfl rfl ((hob h1) h2) rfl ?_
        refine s_goto 15 rfl ?_
        exact s_iret 17 rfl h
def f_11_dense (m8 : Nat → Int) (v1 : Int) : Int := if ¬ (v1 < 0) ∧ (¬ (64 ≤ v1) ∧ ¬ ((m8) (v1.toNat) = (-1))) then f_2_densityOf (m8) v1 else (-2)
theorem ct_11_dense {q : am_Q} {M : am_M} {v1 : Int} (h : q (aI (f_11_dense (M 8) v1)) M) : S11_dense [aR 0, aI v1] M q := by
  refine am_S.intro rfl rfl ?_
  unfold f_11_dense at h
  refine s_aload 0 rfl rfl ?_
  refine s_getR 7 1 rfl rfl ?_
  refine s_iload 2 rfl rfl ?_
  refine s_callv (o := 7) 3 rfl rfl rfl rfl rfl (ct_2_isPlace ?_)
  show am_R K11_dense q 8 [aR 0, aI v1] [aI (if ¬ (v1 < 0) ∧ (¬ (64 ≤ v1) ∧ ¬ ((M 8) (v1.toNat) = (-1))) then 1 else 0)] M
  refine s_ifeqB 4 rfl (fun h1 => ?_) (fun h1 => ?_)
  · rw [if_neg h1] at h
    refine s_push 10 rfl ?_
    exact s_iret 11 rfl h
  · rw [if_pos h1] at h
    refine s_aload 5 rfl rfl ?_
    refine s_getR 7 6 rfl rfl ?_
    refine s_iload 7 rfl rfl ?_
    refine s_callv (o := 7) 8 rfl rfl rfl rfl rfl (ct_2_densityOf ?_)
    show am_R K11_dense q 19 [aR 0, aI v1] [aI (f_2_densityOf (M 8) v1)] M
    refine s_goto 9 rfl ?_
    exact s_iret 11 rfl h
def f_11_densityOfStep (m8 : Nat → Int) (m20 : Nat → Int) (m22 : Nat → Int) (v1 : Int) : Int := f_2_densityOf (m8) (f_10_placeBehind (m20) (m22) (v1 + 1))
def ob_11_densityOfStep (m8 : Nat → Int) (m20 : Nat → Int) (m22 : Nat → Int) (v1 : Int) : Prop := (-2147483648 ≤ v1 + 1 ∧ v1 + 1 < 2147483648)
theorem ct_11_densityOfStep {q : am_Q} {M : am_M} {v1 : Int} (hob : ob_11_densityOfStep (M 8) (M 20) (M 22) v1) (h : q (aI (f_11_densityOfStep (M 8) (M 20) (M 22) v1)) M) : S11_densityOfStep [aR 0, aI v1] M q := by
  refine am_S.intro rfl rfl ?_
  unfold ob_11_densityOfStep at hob
  unfold f_11_densityOfStep at h
  refine s_aload 0 rfl rfl ?_
  refine s_getR 7 1 rfl rfl ?_
  refine s_aload 2 rfl rfl ?_
  refine s_getR 20 3 rfl rfl ?_
  refine s_iload 4 rfl rfl ?_
  refine s_push 5 rfl ?_
  refine s_binX (v := v1 + 1) 6 rfl hob rfl ?_
  refine s_callv (o := 20) 7 rfl rfl rfl rfl rfl (ct_10_placeBehind ?_)
  show am_R K11_densityOfStep q 14 [aR 0, aI v1] [aI (f_10_placeBehind (M 20) (M 22) (v1 + 1)), aR 7] M
  refine s_callv (o := 7) 8 rfl rfl rfl rfl rfl (ct_2_densityOf ?_)
  show am_R K11_densityOfStep q 17 [aR 0, aI v1] [aI (f_2_densityOf (M 8) (f_10_placeBehind (M 20) (M 22) (v1 + 1)))] M
  exact s_iret 9 rfl h
def f_11_judged (m20 : Nat → Int) : Int := if m20 3 ≤ m20 4 then (-1) else m20 4
theorem ct_11_judged {q : am_Q} {M : am_M}  (h : q (aI (f_11_judged (M 20))) M) : S11_judged [aR 0] M q := by
  refine am_S.intro rfl rfl ?_
  unfold f_11_judged at h
  refine s_aload 0 rfl rfl ?_
  refine s_getR 20 1 rfl rfl ?_
  refine s_getI (v := M 20 4) 2 rfl rfl rfl ?_
  refine s_aload 3 rfl rfl ?_
  refine s_getR 20 4 rfl rfl ?_
  refine s_getI (v := M 20 3) 5 rfl rfl rfl ?_
  refine s_ic 6 rfl (fun h1 => ?_) (fun h1 => ?_)
  · rw [if_pos h1] at h
    refine s_push 11 rfl ?_
    exact s_iret 12 rfl h
  · rw [if_neg h1] at h
    refine s_aload 7 rfl rfl ?_
    refine s_getR 20 8 rfl rfl ?_
    refine s_getI (v := M 20 4) 9 rfl rfl rfl ?_
    refine s_goto 10 rfl ?_
    exact s_iret 12 rfl h
def f_3_joints (m15 : Nat → Int) : Int := if (m15 4) - 1 < 0 then 0 else (m15 4) - 1
def ob_3_joints (m15 : Nat → Int) : Prop := (-2147483648 ≤ (m15 4) - 1 ∧ (m15 4) - 1 < 2147483648)
theorem ct_3_joints {q : am_Q} {M : am_M}  (hob : ob_3_joints (M 15)) (h : q (aI (f_3_joints (M 15))) M) : S3_joints [aR 15] M q := by
  refine am_S.intro rfl rfl ?_
  unfold ob_3_joints at hob
  unfold f_3_joints at h
  refine s_aload 0 rfl rfl ?_
  refine s_getI (v := M 15 4) 1 rfl rfl rfl ?_
  refine s_push 2 rfl ?_
  refine s_binX (v := (M 15 4) - 1) 3 rfl hob rfl ?_
  refine s_push 4 rfl ?_
  refine s_max 5 rfl rfl ?_
  exact s_iret 6 rfl h
def f_3_gripOfJoint (m16 : Nat → Int) (m15 : Nat → Int) (m19 : Nat → Int) (v1 : Int) : Int := f_3_gripOf (m16) (f_3_whoGoes (m15) (m19) v1) (f_3_whoGoes (m15) (m19) (v1 + 1))
def ob_3_gripOfJoint (m16 : Nat → Int) (m15 : Nat → Int) (m19 : Nat → Int) (v1 : Int) : Prop := (-2147483648 ≤ v1 + 1 ∧ v1 + 1 < 2147483648)
theorem ct_3_gripOfJoint {q : am_Q} {M : am_M} {v1 : Int} (hob : ob_3_gripOfJoint (M 16) (M 15) (M 19) v1) (h : q (aI (f_3_gripOfJoint (M 16) (M 15) (M 19) v1)) M) : S3_gripOfJoint [aR 15, aI v1] M q := by
  refine am_S.intro rfl rfl ?_
  unfold ob_3_gripOfJoint at hob
  unfold f_3_gripOfJoint at h
  refine s_aload 0 rfl rfl ?_
  refine s_aload 1 rfl rfl ?_
  refine s_iload 2 rfl rfl ?_
  refine s_callv (o := 15) 3 rfl rfl rfl rfl rfl (ct_3_whoGoes ?_)
  show am_R K3_gripOfJoint q 6 [aR 15, aI v1] [aI (f_3_whoGoes (M 15) (M 19) v1), aR 15] M
  refine s_aload 4 rfl rfl ?_
  refine s_iload 5 rfl rfl ?_
  refine s_push 6 rfl ?_
  refine s_binX (v := v1 + 1) 7 rfl hob rfl ?_
  refine s_callv (o := 15) 8 rfl rfl rfl rfl rfl (ct_3_whoGoes ?_)
  show am_R K3_gripOfJoint q 13 [aR 15, aI v1] [aI (f_3_whoGoes (M 15) (M 19) (v1 + 1)), aI (f_3_whoGoes (M 15) (M 19) v1), aR 15] M
  refine s_callv (o := 15) 9 rfl rfl rfl rfl rfl (ct_3_gripOf ?_)
  show am_R K3_gripOfJoint q 16 [aR 15, aI v1] [aI (f_3_gripOf (M 16) (f_3_whoGoes (M 15) (M 19) v1) (f_3_whoGoes (M 15) (M 19) (v1 + 1)))] M
  exact s_iret 10 rfl h
def f_11_order (m15 : Nat → Int) (m19 : Nat → Int) (v1 : Int) : Int := if ¬ (v1 < 0) ∧ ¬ (5 ≤ v1) then f_3_whoGoes (m15) (m19) v1 else (-2)
theorem ct_11_order {q : am_Q} {M : am_M} {v1 : Int} (h : q (aI (f_11_order (M 15) (M 19) v1)) M) : S11_order [aR 0, aI v1] M q := by
  refine am_S.intro rfl rfl ?_
  unfold f_11_order at h
  refine s_iload 0 rfl rfl ?_
  refine s_call 1 rfl rfl rfl rfl rfl (ct_3_isPerson ?_)
  show am_R K11_order q 4 [aR 0, aI v1] [aI (if ¬ (v1 < 0) ∧ ¬ (5 ≤ v1) then 1 else 0)] M
  refine s_ifeqB 2 rfl (fun h1 => ?_) (fun h1 => ?_)
  · rw [if_neg h1] at h
    refine s_push 8 rfl ?_
    exact s_iret 9 rfl h
  · rw [if_pos h1] at h
    refine s_aload 3 rfl rfl ?_
    refine s_getR 15 4 rfl rfl ?_
    refine s_iload 5 rfl rfl ?_
    refine s_callv (o := 15) 6 rfl rfl rfl rfl rfl (ct_3_whoGoes ?_)
    show am_R K11_order q 15 [aR 0, aI v1] [aI (f_3_whoGoes (M 15) (M 19) v1)] M
    refine s_goto 7 rfl ?_
    exact s_iret 9 rfl h
def f_4_asBits (m27 : Nat → Int) : Int := (am_shl 1 (m27 2)) - 1
def ob_4_asBits (m27 : Nat → Int) : Prop := (0 ≤ m27 2 ∧ m27 2 < 32) ∧ (-2147483648 ≤ (am_shl 1 (m27 2)) - 1 ∧ (am_shl 1 (m27 2)) - 1 < 2147483648)
theorem ct_4_asBits {q : am_Q} {M : am_M}  (hob : ob_4_asBits (M 27)) (h : q (aI (f_4_asBits (M 27))) M) : S4_asBits [aR 27] M q := by
  refine am_S.intro rfl rfl ?_
  unfold ob_4_asBits at hob
  unfold f_4_asBits at h
  refine s_push 0 rfl ?_
  refine s_aload 1 rfl rfl ?_
  refine s_getI (v := M 27 2) 2 rfl rfl rfl ?_
  refine s_sh 3 rfl hob.1 ?_
  refine s_push 4 rfl ?_
  refine s_binX (v := (am_shl 1 (M 27 2)) - 1) 5 rfl hob.2 rfl ?_
  exact s_iret 6 rfl h
theorem ct_2_isCell {q : am_Q} {M : am_M} {v0 : Int} (h : q (aI (if ¬ (v0 < 0) ∧ ¬ (64 ≤ v0) then 1 else 0)) M) : S2_isCell [aI v0] M q := by
  refine am_S.intro rfl rfl ?_
  refine s_iload 0 rfl rfl ?_
  refine s_if 1 rfl (fun h1 => ?_) (fun h1 => ?_)
  · refine s_push 7 rfl ?_
    exact s_zret 8 rfl (by decide) (by rw [if_neg (by omega)] at h; exact h)
  · refine s_iload 2 rfl rfl ?_
    refine s_push 3 rfl ?_
    refine s_ic 4 rfl (fun h2 => ?_) (fun h2 => ?_)
    · refine s_push 7 rfl ?_
      exact s_zret 8 rfl (by decide) (by rw [if_neg (by omega)] at h; exact h)
    · refine s_push 5 rfl ?_
      refine s_goto 6 rfl ?_
      exact s_zret 8 rfl (by decide) (by rw [if_pos (by omega)] at h; exact h)
def f_1_tollInto (m8 : Nat → Int) (v1 : Int) : Int := ((f_2_densityOf (m8) v1) * 64) + 1
def ob_1_tollInto (m8 : Nat → Int) (v1 : Int) : Prop := (-2147483648 ≤ (f_2_densityOf (m8) v1) * 64 ∧ (f_2_densityOf (m8) v1) * 64 < 2147483648) ∧ (-2147483648 ≤ ((f_2_densityOf (m8) v1) * 64) + 1 ∧ ((f_2_densityOf (m8) v1) * 64) + 1 < 2147483648)
theorem ct_1_tollInto {q : am_Q} {M : am_M} {v1 : Int} (hob : ob_1_tollInto (M 8) v1) (h : q (aI (f_1_tollInto (M 8) v1)) M) : S1_tollInto [aR 13, aI v1] M q := by
  refine am_S.intro rfl rfl ?_
  unfold ob_1_tollInto at hob
  unfold f_1_tollInto at h
  refine s_aload 0 rfl rfl ?_
  refine s_getR 7 1 rfl rfl ?_
  refine s_iload 2 rfl rfl ?_
  refine s_callv (o := 7) 3 rfl rfl rfl rfl rfl (ct_2_densityOf ?_)
  show am_R K1_tollInto q 8 [aR 13, aI v1] [aI (f_2_densityOf (M 8) v1)] M
  refine s_push 4 rfl ?_
  refine s_binX (v := (f_2_densityOf (M 8) v1) * 64) 5 rfl hob.1 rfl ?_
  refine s_push 6 rfl ?_
  refine s_binX (v := ((f_2_densityOf (M 8) v1) * 64) + 1) 7 rfl hob.2 rfl ?_
  exact s_iret 8 rfl h
def ob_1_reaches (m14 : Nat → Int) (v1 : Int) : Prop := ¬ (v1 < 0) ∧ ¬ (64 ≤ v1) → (0 ≤ v1 ∧ v1 < 64)
theorem obt_1_reaches (m14 : Nat → Int) (v1 : Int) : ob_1_reaches m14 v1 := by unfold ob_1_reaches; omega
theorem ct_1_reaches {q : am_Q} {M : am_M} {v1 : Int} (h : q (aI (if (¬ (v1 < 0) ∧ ¬ (64 ≤ v1)) ∧ ¬ (1073741824 ≤ M 14 (v1.toNat)) then 1 else 0)) M) : S1_reaches [aR 13, aI v1] M q := by
  refine am_S.intro rfl rfl ?_
  have hob := obt_1_reaches (M 14) v1
  unfold ob_1_reaches at hob
  refine s_iload 0 rfl rfl ?_
  refine s_call 1 rfl rfl rfl rfl rfl (ct_2_isCell ?_)
  show am_R K1_reaches q 4 [aR 13, aI v1] [aI (if ¬ (v1 < 0) ∧ ¬ (64 ≤ v1) then 1 else 0)] M
  refine s_ifeqB 2 rfl (fun h1 => ?_) (fun h1 => ?_)
  · refine s_push 11 rfl ?_
    exact s_zret 12 rfl (by decide) (by rw [if_neg (by omega)] at h; exact h)
  · refine s_aload 3 rfl rfl ?_
    refine s_getR 14 4 rfl rfl ?_
    refine s_iload 5 rfl rfl ?_
    refine s_iald (v := M 14 (v1.toNat)) 6 rfl rfl (hob h1) rfl ?_
    refine s_push 7 rfl ?_
    refine s_ic 8 rfl (fun h2 => ?_) (fun h2 => ?_)
    · refine s_push 11 rfl ?_
      exact s_zret 12 rfl (by decide) (by rw [if_neg (by omega)] at h; exact h)
    · refine s_push 9 rfl ?_
      refine s_goto 10 rfl ?_
      exact s_zret 12 rfl (by decide) (by rw [if_pos (by omega)] at h; exact h)
def f_1_densityFrom (m14 : Nat → Int) (v1 : Int) : Int := if (¬ (v1 < 0) ∧ ¬ (64 ≤ v1)) ∧ ¬ (1073741824 ≤ (m14) (v1.toNat)) then (m14 (v1.toNat)) / 64 else (-1)
def ob_1_densityFrom (m14 : Nat → Int) (v1 : Int) : Prop := (¬ (v1 < 0) ∧ ¬ (64 ≤ v1)) ∧ ¬ (1073741824 ≤ (m14) (v1.toNat)) → ((0 ≤ v1 ∧ v1 < 64) ∧ (0 ≤ m14 (v1.toNat)))
theorem ct_1_densityFrom {q : am_Q} {M : am_M} {v1 : Int} (hob : ob_1_densityFrom (M 14) v1) (h : q (aI (f_1_densityFrom (M 14) v1)) M) : S1_densityFrom [aR 13, aI v1] M q := by
  refine am_S.intro rfl rfl ?_
  unfold ob_1_densityFrom at hob
  unfold f_1_densityFrom at h
  refine s_aload 0 rfl rfl ?_
  refine s_iload 1 rfl rfl ?_
  refine s_callv (o := 13) 2 rfl rfl rfl rfl rfl (ct_1_reaches ?_)
  show am_R K1_densityFrom q 5 [aR 13, aI v1] [aI (if (¬ (v1 < 0) ∧ ¬ (64 ≤ v1)) ∧ ¬ (1073741824 ≤ (M 14) (v1.toNat)) then 1 else 0)] M
  refine s_ifeqB 3 rfl (fun h1 => ?_) (fun h1 => ?_)
  · rw [if_neg h1] at h
    refine s_push 11 rfl ?_
    exact s_iret 12 rfl h
  · rw [if_pos h1] at h
    refine s_aload 4 rfl rfl ?_
    refine s_getR 14 5 rfl rfl ?_
    refine s_iload 6 rfl rfl ?_
    refine s_iald (v := M 14 (v1.toNat)) 7 rfl rfl (hob h1).1 rfl ?_
    refine s_push 8 rfl ?_
    refine s_idiv 9 rfl ⟨(hob h1).2, by decide⟩ ?_
    refine s_goto 10 rfl ?_
    exact s_iret 12 rfl h
def f_1_stepsFrom (m14 : Nat → Int) (v1 : Int) : Int := if (¬ (v1 < 0) ∧ ¬ (64 ≤ v1)) ∧ ¬ (1073741824 ≤ (m14) (v1.toNat)) then (m14 (v1.toNat)) % 64 else (-1)
def ob_1_stepsFrom (m14 : Nat → Int) (v1 : Int) : Prop := (¬ (v1 < 0) ∧ ¬ (64 ≤ v1)) ∧ ¬ (1073741824 ≤ (m14) (v1.toNat)) → ((0 ≤ v1 ∧ v1 < 64) ∧ (0 ≤ m14 (v1.toNat)))
theorem ct_1_stepsFrom {q : am_Q} {M : am_M} {v1 : Int} (hob : ob_1_stepsFrom (M 14) v1) (h : q (aI (f_1_stepsFrom (M 14) v1)) M) : S1_stepsFrom [aR 13, aI v1] M q := by
  refine am_S.intro rfl rfl ?_
  unfold ob_1_stepsFrom at hob
  unfold f_1_stepsFrom at h
  refine s_aload 0 rfl rfl ?_
  refine s_iload 1 rfl rfl ?_
  refine s_callv (o := 13) 2 rfl rfl rfl rfl rfl (ct_1_reaches ?_)
  show am_R K1_stepsFrom q 5 [aR 13, aI v1] [aI (if (¬ (v1 < 0) ∧ ¬ (64 ≤ v1)) ∧ ¬ (1073741824 ≤ (M 14) (v1.toNat)) then 1 else 0)] M
  refine s_ifeqB 3 rfl (fun h1 => ?_) (fun h1 => ?_)
  · rw [if_neg h1] at h
    refine s_push 11 rfl ?_
    exact s_iret 12 rfl h
  · rw [if_pos h1] at h
    refine s_aload 4 rfl rfl ?_
    refine s_getR 14 5 rfl rfl ?_
    refine s_iload 6 rfl rfl ?_
    refine s_iald (v := M 14 (v1.toNat)) 7 rfl rfl (hob h1).1 rfl ?_
    refine s_push 8 rfl ?_
    refine s_irem 9 rfl ⟨(hob h1).2, by decide⟩ ?_
    refine s_goto 10 rfl ?_
    exact s_iret 12 rfl h
def f_5_chanceOf (m25 : Nat → Int) (v1 : Int) : Int := if ¬ (v1 < 0) ∧ ¬ (64 ≤ v1) then m25 (v1.toNat) else 0
def ob_5_chanceOf (m25 : Nat → Int) (v1 : Int) : Prop := ¬ (v1 < 0) ∧ ¬ (64 ≤ v1) → (0 ≤ v1 ∧ v1 < 64)
theorem obt_5_chanceOf (m25 : Nat → Int) (v1 : Int) : ob_5_chanceOf m25 v1 := by unfold ob_5_chanceOf; omega
theorem ct_5_chanceOf {q : am_Q} {M : am_M} {v1 : Int} (h : q (aL (f_5_chanceOf (M 25) v1)) M) : S5_chanceOf [aR 24, aI v1] M q := by
  refine am_S.intro rfl rfl ?_
  have hob := obt_5_chanceOf (M 25) v1
  unfold ob_5_chanceOf at hob
  unfold f_5_chanceOf at h
  refine s_iload 0 rfl rfl ?_
  refine s_call 1 rfl rfl rfl rfl rfl (ct_2_isCell ?_)
  show am_R K5_chanceOf q 4 [aR 24, aI v1] [aI (if ¬ (v1 < 0) ∧ ¬ (64 ≤ v1) then 1 else 0)] M
  refine s_ifeqB 2 rfl (fun h1 => ?_) (fun h1 => ?_)
  · rw [if_neg h1] at h
    refine s_push 8 rfl ?_
    exact s_lret 9 rfl h
  · rw [if_pos h1] at h
    refine s_aload 3 rfl rfl ?_
    refine s_getR 25 4 rfl rfl ?_
    refine s_iload 5 rfl rfl ?_
    refine s_lald (v := M 25 (v1.toNat)) 6 rfl rfl (hob h1) rfl ?_
    refine s_goto 7 rfl ?_
    exact s_lret 9 rfl h
def f_6_leastParted (m33 : Nat → Int) (v1 v2 : Int) : Int := (f_6_leastFrom (m33) 5 v1) + (f_6_leastFrom (m33) 6 (am_and v2 (am_xor v1 (-1))))
def ob_6_leastParted (m33 : Nat → Int) (v1 v2 : Int) : Prop := (-2147483648 ≤ (f_6_leastFrom (m33) 5 v1) + (f_6_leastFrom (m33) 6 (am_and v2 (am_xor v1 (-1)))) ∧ (f_6_leastFrom (m33) 5 v1) + (f_6_leastFrom (m33) 6 (am_and v2 (am_xor v1 (-1)))) < 2147483648)
theorem ct_6_leastParted {q : am_Q} {M : am_M} {v1 : Int} {v2 : Int} (hob : ob_6_leastParted (M 33) v1 v2) (h : q (aI (f_6_leastParted (M 33) v1 v2)) M) : S6_leastParted [aR 30, aI v1, aI v2] M q := by
  refine am_S.intro rfl rfl ?_
  unfold ob_6_leastParted at hob
  unfold f_6_leastParted at h
  refine s_aload 0 rfl rfl ?_
  refine s_push 1 rfl ?_
  refine s_iload 2 rfl rfl ?_
  refine s_callv (o := 30) 3 rfl rfl rfl rfl rfl (ct_6_leastFrom ?_)
  show am_R K6_leastParted q 6 [aR 30, aI v1, aI v2] [aI (f_6_leastFrom (M 33) 5 v1)] M
  refine s_aload 4 rfl rfl ?_
  refine s_push 5 rfl ?_
  refine s_iload 6 rfl rfl ?_
  refine s_iload 7 rfl rfl ?_
  refine s_push 8 rfl ?_
  refine s_bin 9 rfl ?_
  refine s_bin 10 rfl ?_
  refine s_callv (o := 30) 11 rfl rfl rfl rfl rfl (ct_6_leastFrom ?_)
  show am_R K6_leastParted q 17 [aR 30, aI v1, aI v2] [aI (f_6_leastFrom (M 33) 6 (am_and v2 (am_xor v1 (-1)))), aI (f_6_leastFrom (M 33) 5 v1)] M
  refine s_binX (v := (f_6_leastFrom (M 33) 5 v1) + (f_6_leastFrom (M 33) 6 (am_and v2 (am_xor v1 (-1))))) 12 rfl hob rfl ?_
  exact s_iret 13 rfl h
theorem ct_11_isForm {q : am_Q} {M : am_M} {v0 : Int} (h : q (aI (if ¬ (v0 < 0) ∧ ¬ (3 ≤ v0) then 1 else 0)) M) : S11_isForm [aI v0] M q := by
  refine am_S.intro rfl rfl ?_
  refine s_iload 0 rfl rfl ?_
  refine s_if 1 rfl (fun h1 => ?_) (fun h1 => ?_)
  · refine s_push 7 rfl ?_
    exact s_zret 8 rfl (by decide) (by rw [if_neg (by omega)] at h; exact h)
  · refine s_iload 2 rfl rfl ?_
    refine s_push 3 rfl ?_
    refine s_ic 4 rfl (fun h2 => ?_) (fun h2 => ?_)
    · refine s_push 7 rfl ?_
      exact s_zret 8 rfl (by decide) (by rw [if_neg (by omega)] at h; exact h)
    · refine s_push 5 rfl ?_
      refine s_goto 6 rfl ?_
      exact s_zret 8 rfl (by decide) (by rw [if_pos (by omega)] at h; exact h)
theorem ct_7_has {q : am_Q} {M : am_M} {o : Nat} (ho : sx o) {v1 : Int} (h : q (aI (if ¬ (v1 < 0) ∧ (¬ (M o 2 ≤ v1) ∧ ¬ (64 ≤ v1)) then 1 else 0)) M) : S7_has [aR o, aI v1] M q := by
  refine am_S.intro rfl rfl ?_
  refine s_iload 0 rfl rfl ?_
  refine s_if 1 rfl (fun h1 => ?_) (fun h1 => ?_)
  · refine s_push 11 rfl ?_
    exact s_zret 12 rfl (by decide) (by rw [if_neg (by omega)] at h; exact h)
  · refine s_iload 2 rfl rfl ?_
    refine s_aload 3 rfl rfl ?_
    refine s_getI (v := M o 2) 4 rfl (sx_2 ho) rfl ?_
    refine s_ic 5 rfl (fun h2 => ?_) (fun h2 => ?_)
    · refine s_push 11 rfl ?_
      exact s_zret 12 rfl (by decide) (by rw [if_neg (by omega)] at h; exact h)
    · refine s_iload 6 rfl rfl ?_
      refine s_push 7 rfl ?_
      refine s_ic 8 rfl (fun h3 => ?_) (fun h3 => ?_)
      · refine s_push 11 rfl ?_
        exact s_zret 12 rfl (by decide) (by rw [if_neg (by omega)] at h; exact h)
      · refine s_push 9 rfl ?_
        refine s_goto 10 rfl ?_
        exact s_zret 12 rfl (by decide) (by rw [if_pos (by omega)] at h; exact h)
def f_7_wrongWith (mo : Nat → Int) (v1 v2 : Int) : Int := if (mo) 1 = (-1) then 1 else if mo 1 = v1 then (if ¬ (v2 < 0) ∧ (¬ ((mo) 2 ≤ v2) ∧ ¬ (64 ≤ v2)) then 0 else 2) else 3
theorem ct_7_wrongWith {q : am_Q} {M : am_M} {o : Nat} (ho : sx o) {v1 : Int} {v2 : Int} (h : q (aI (f_7_wrongWith (M o) v1 v2)) M) : S7_wrongWith [aR o, aI v1, aI v2] M q := by
  refine am_S.intro rfl rfl ?_
  unfold f_7_wrongWith at h
  refine s_aload 0 rfl rfl ?_
  refine s_callv (o := o) 1 rfl rfl rfl (sx_c ho) rfl (ct_7_isLost (ho := ho) ?_)
  show am_R K7_wrongWith q 4 [aR o, aI v1, aI v2] [aI (if (M o) 1 = (-1) then 1 else 0)] M
  refine s_ifeqB 2 rfl (fun h1 => ?_) (fun h1 => ?_)
  · rw [if_neg h1] at h
    refine s_aload 5 rfl rfl ?_
    refine s_getI (v := M o 1) 6 rfl (sx_1 ho) rfl ?_
    refine s_iload 7 rfl rfl ?_
    refine s_ic 8 rfl (fun h2 => ?_) (fun h2 => ?_)
    · rw [if_pos h2] at h
      refine s_aload 11 rfl rfl ?_
      refine s_iload 12 rfl rfl ?_
      refine s_callv (o := o) 13 rfl rfl rfl (sx_c ho) rfl (ct_7_has (ho := ho) ?_)
      show am_R K7_wrongWith q 24 [aR o, aI v1, aI v2] [aI (if ¬ (v2 < 0) ∧ (¬ ((M o) 2 ≤ v2) ∧ ¬ (64 ≤ v2)) then 1 else 0)] M
      refine s_ifeqB 14 rfl (fun h3 => ?_) (fun h3 => ?_)
      · rw [if_neg h3] at h
        refine s_push 17 rfl ?_
        exact s_iret 18 rfl h
      · rw [if_pos h3] at h
        refine s_push 15 rfl ?_
        refine s_goto 16 rfl ?_
        exact s_iret 18 rfl h
    · rw [if_neg h2] at h
      refine s_push 9 rfl ?_
      exact s_iret 10 rfl h
  · rw [if_pos h1] at h
    refine s_push 3 rfl ?_
    exact s_iret 4 rfl h
def f_7_itemAt (mo : Nat → Int) (mo4 : Nat → Int) (v1 : Int) : Int := if ¬ (v1 < 0) ∧ (¬ ((mo) 2 ≤ v1) ∧ ¬ (64 ≤ v1)) then mo4 (v1.toNat) else 0
def ob_7_itemAt (mo : Nat → Int) (mo4 : Nat → Int) (v1 : Int) : Prop := ¬ (v1 < 0) ∧ (¬ ((mo) 2 ≤ v1) ∧ ¬ (64 ≤ v1)) → (0 ≤ v1 ∧ v1 < 64)
theorem obt_7_itemAt (mo : Nat → Int) (mo4 : Nat → Int) (v1 : Int) : ob_7_itemAt mo mo4 v1 := by unfold ob_7_itemAt; omega
theorem ct_7_itemAt {q : am_Q} {M : am_M} {o : Nat} (ho : sx o) {v1 : Int} (h : q (aI (f_7_itemAt (M o) (M (o + 4)) v1)) M) : S7_itemAt [aR o, aI v1] M q := by
  refine am_S.intro rfl rfl ?_
  have hob := obt_7_itemAt (M o) (M (o + 4)) v1
  unfold ob_7_itemAt at hob
  unfold f_7_itemAt at h
  refine s_aload 0 rfl rfl ?_
  refine s_iload 1 rfl rfl ?_
  refine s_callv (o := o) 2 rfl rfl rfl (sx_c ho) rfl (ct_7_has (ho := ho) ?_)
  show am_R K7_itemAt q 5 [aR o, aI v1] [aI (if ¬ (v1 < 0) ∧ (¬ ((M o) 2 ≤ v1) ∧ ¬ (64 ≤ v1)) then 1 else 0)] M
  refine s_ifeqB 3 rfl (fun h1 => ?_) (fun h1 => ?_)
  · rw [if_neg h1] at h
    refine s_push 9 rfl ?_
    exact s_iret 10 rfl h
  · rw [if_pos h1] at h
    refine s_aload 4 rfl rfl ?_
    refine s_getR (o + 4) 5 rfl (sx_0 ho) ?_
    refine s_iload 6 rfl rfl ?_
    refine s_iald (v := M (o + 4) (v1.toNat)) 7 rfl (sx_a ho) (hob h1) rfl ?_
    refine s_goto 8 rfl ?_
    exact s_iret 10 rfl h
theorem ct_11_isSixteenths {q : am_Q} {M : am_M} {v0 : Int} (h : q (aI (if ¬ (v0 < 0) ∧ ¬ (16 < v0) then 1 else 0)) M) : S11_isSixteenths [aI v0] M q := by
  refine am_S.intro rfl rfl ?_
  refine s_iload 0 rfl rfl ?_
  refine s_if 1 rfl (fun h1 => ?_) (fun h1 => ?_)
  · refine s_push 7 rfl ?_
    exact s_zret 8 rfl (by decide) (by rw [if_neg (by omega)] at h; exact h)
  · refine s_iload 2 rfl rfl ?_
    refine s_push 3 rfl ?_
    refine s_ic 4 rfl (fun h2 => ?_) (fun h2 => ?_)
    · refine s_push 7 rfl ?_
      exact s_zret 8 rfl (by decide) (by rw [if_neg (by omega)] at h; exact h)
    · refine s_push 5 rfl ?_
      refine s_goto 6 rfl ?_
      exact s_zret 8 rfl (by decide) (by rw [if_pos (by omega)] at h; exact h)
def f_2_placeOrNone (m8 : Nat → Int) (v1 : Int) : Int := if ¬ (v1 < 0) ∧ (¬ (64 ≤ v1) ∧ ¬ ((m8) (v1.toNat) = (-1))) then v1 else (-1)
theorem ct_2_placeOrNone {q : am_Q} {M : am_M} {v1 : Int} (h : q (aI (f_2_placeOrNone (M 8) v1)) M) : S2_placeOrNone [aR 7, aI v1] M q := by
  refine am_S.intro rfl rfl ?_
  unfold f_2_placeOrNone at h
  refine s_aload 0 rfl rfl ?_
  refine s_iload 1 rfl rfl ?_
  refine s_callv (o := 7) 2 rfl rfl rfl rfl rfl (ct_2_isPlace ?_)
  show am_R K2_placeOrNone q 5 [aR 7, aI v1] [aI (if ¬ (v1 < 0) ∧ (¬ (64 ≤ v1) ∧ ¬ ((M 8) (v1.toNat) = (-1))) then 1 else 0)] M
  refine s_ifeqB 3 rfl (fun h1 => ?_) (fun h1 => ?_)
  · rw [if_neg h1] at h
    refine s_push 6 rfl ?_
    exact s_iret 7 rfl h
  · rw [if_pos h1] at h
    refine s_iload 4 rfl rfl ?_
    refine s_goto 5 rfl ?_
    exact s_iret 7 rfl h
theorem ct_9_isFull {q : am_Q} {M : am_M} {o : Nat} (ho : tx o) (h : q (aI (if M o 0 ≤ M o 2 ∨ ¬ (M o 2 < 71) then 1 else 0)) M) : S9_isFull [aR o] M q := by
  refine am_S.intro rfl rfl ?_
  refine s_aload 0 rfl rfl ?_
  refine s_getI (v := M o 2) 1 rfl (tx_2 ho) rfl ?_
  refine s_aload 2 rfl rfl ?_
  refine s_getI (v := M o 0) 3 rfl (tx_0 ho) rfl ?_
  refine s_ic 4 rfl (fun h1 => ?_) (fun h1 => ?_)
  · refine s_push 9 rfl ?_
    refine s_goto 10 rfl ?_
    exact s_zret 12 rfl (by decide) (by rw [if_pos (by omega)] at h; exact h)
  · refine s_aload 5 rfl rfl ?_
    refine s_getI (v := M o 2) 6 rfl (tx_2 ho) rfl ?_
    refine s_push 7 rfl ?_
    refine s_ic 8 rfl (fun h2 => ?_) (fun h2 => ?_)
    · refine s_push 11 rfl ?_
      exact s_zret 12 rfl (by decide) (by rw [if_neg (by omega)] at h; exact h)
    · refine s_push 9 rfl ?_
      refine s_goto 10 rfl ?_
      exact s_zret 12 rfl (by decide) (by rw [if_pos (by omega)] at h; exact h)
def f_12_here (m50 : Nat → Int) (m44 : Nat → Int) (m49 : Nat → Int) (v1 : Int) : Int := if m50 (v1.toNat) ≤ m44 7 then (-1) else m49 (((80 * v1) + (m44 7)).toNat)
def ob_12_here (m50 : Nat → Int) (m44 : Nat → Int) (m49 : Nat → Int) (v1 : Int) : Prop := (0 ≤ v1 ∧ v1 < 3) ∧ (¬ (m50 (v1.toNat) ≤ m44 7) → ((-2147483648 ≤ 80 * v1 ∧ 80 * v1 < 2147483648) ∧ ((-2147483648 ≤ (80 * v1) + (m44 7) ∧ (80 * v1) + (m44 7) < 2147483648) ∧ (0 ≤ (80 * v1) + (m44 7) ∧ (80 * v1) + (m44 7) < 240))))
theorem ct_12_here {q : am_Q} {M : am_M} {v1 : Int} (hob : ob_12_here (M 50) (M 44) (M 49) v1) (h : q (aI (f_12_here (M 50) (M 44) (M 49) v1)) M) : S12_here [aR 44, aI v1] M q := by
  refine am_S.intro rfl rfl ?_
  unfold ob_12_here at hob
  unfold f_12_here at h
  refine s_aload 0 rfl rfl ?_
  refine s_getI (v := M 44 7) 1 rfl rfl rfl ?_
  refine s_aload 2 rfl rfl ?_
  refine s_getR 50 3 rfl rfl ?_
  refine s_iload 4 rfl rfl ?_
  refine s_iald (v := M 50 (v1.toNat)) 5 rfl rfl hob.1 rfl ?_
  refine s_ic 6 rfl (fun h1 => ?_) (fun h1 => ?_)
  · rw [if_pos h1] at h
    refine s_push 17 rfl ?_
    exact s_iret 18 rfl h
  · rw [if_neg h1] at h
    refine s_aload 7 rfl rfl ?_
    refine s_getR 49 8 rfl rfl ?_
    refine s_push 9 rfl ?_
    refine s_iload 10 rfl rfl ?_
    refine s_binX (v := 80 * v1) 11 rfl (hob.2 h1).1 rfl ?_
    refine s_aload 12 rfl rfl ?_
    refine s_getI (v := M 44 7) 13 rfl rfl rfl ?_
    refine s_binX (v := (80 * v1) + (M 44 7)) 14 rfl (hob.2 h1).2.1 rfl ?_
    refine s_iald (v := M 49 (((80 * v1) + (M 44 7)).toNat)) 15 rfl rfl (hob.2 h1).2.2 rfl ?_
    refine s_goto 16 rfl ?_
    exact s_iret 18 rfl h
theorem ct_12_in {q : am_Q} {M : am_M} {v0 : Int} {v2 : Int} {v4 : Int} (h : q (aI (if ¬ (v0 < v2) ∧ ¬ (v4 < v0) then 1 else 0)) M) : S12_in [aL v0, aL v2, aL v4] M q := by
  refine am_S.intro rfl rfl ?_
  refine s_lload 0 rfl rfl ?_
  refine s_lload 1 rfl rfl ?_
  refine s_lcmp 2 rfl ?_
  refine s_ifX (d := v0 < v2) 3 rfl (cq_lt _ _) (fun h1 => ?_) (fun h1 => ?_)
  · refine s_push 10 rfl ?_
    exact s_zret 11 rfl (by decide) (by rw [if_neg (by omega)] at h; exact h)
  · refine s_lload 4 rfl rfl ?_
    refine s_lload 5 rfl rfl ?_
    refine s_lcmp 6 rfl ?_
    refine s_ifX (d := v4 < v0) 7 rfl (cq_gt _ _) (fun h2 => ?_) (fun h2 => ?_)
    · refine s_push 10 rfl ?_
      exact s_zret 11 rfl (by decide) (by rw [if_neg (by omega)] at h; exact h)
    · refine s_push 8 rfl ?_
      refine s_goto 9 rfl ?_
      exact s_zret 11 rfl (by decide) (by rw [if_pos (by omega)] at h; exact h)
def ob_12_isIn (v0 v1 : Int) : Prop := (0 ≤ v1 ∧ v1 < 32)
theorem ct_12_isIn {q : am_Q} {M : am_M} {v0 : Int} {v1 : Int} (hob : ob_12_isIn v0 v1) (h : q (aI (if am_and (am_shr v0 v1) 1 = 1 then 1 else 0)) M) : S12_isIn [aI v0, aI v1] M q := by
  refine am_S.intro rfl rfl ?_
  unfold ob_12_isIn at hob
  refine s_iload 0 rfl rfl ?_
  refine s_iload 1 rfl rfl ?_
  refine s_sh 2 rfl hob ?_
  refine s_push 3 rfl ?_
  refine s_bin 4 rfl ?_
  refine s_push 5 rfl ?_
  refine s_icne 6 rfl (fun h1 => ?_) (fun h1 => ?_)
  · refine s_push 9 rfl ?_
    exact s_zret 10 rfl (by decide) (by rw [if_neg (by omega)] at h; exact h)
  · refine s_push 7 rfl ?_
    refine s_goto 8 rfl ?_
    exact s_zret 10 rfl (by decide) (by rw [if_pos (by omega)] at h; exact h)
def f_12_letterOf (v0 : Int) : Int := if v0 = 110 then 0 else if v0 = 101 then 1 else if v0 = 115 then 2 else if v0 = 119 then 3 else (-1)
theorem ct_12_letterOf {q : am_Q} {M : am_M} {v0 : Int} (h : q (aI (f_12_letterOf v0)) M) : S12_letterOf [aI v0] M q := by
  refine am_S.intro rfl rfl ?_
  unfold f_12_letterOf at h
  refine s_iload 0 rfl rfl ?_
  refine s_push 1 rfl ?_
  refine s_icne 2 rfl (fun h1 => ?_) (fun h1 => ?_)
  · rw [if_neg h1] at h
    refine s_iload 5 rfl rfl ?_
    refine s_push 6 rfl ?_
    refine s_icne 7 rfl (fun h2 => ?_) (fun h2 => ?_)
    · rw [if_neg h2] at h
      refine s_iload 10 rfl rfl ?_
      refine s_push 11 rfl ?_
      refine s_icne 12 rfl (fun h3 => ?_) (fun h3 => ?_)
      · rw [if_neg h3] at h
        refine s_iload 15 rfl rfl ?_
        refine s_push 16 rfl ?_
        refine s_icne 17 rfl (fun h4 => ?_) (fun h4 => ?_)
        · rw [if_neg h4] at h
          refine s_push 20 rfl ?_
          exact s_iret 21 rfl h
        · rw [if_pos h4] at h
          refine s_push 18 rfl ?_
          refine s_goto 19 rfl ?_
          exact s_iret 21 rfl h
      · rw [if_pos h3] at h
        refine s_push 13 rfl ?_
        refine s_goto 14 rfl ?_
        exact s_iret 21 rfl h
    · rw [if_pos h2] at h
      refine s_push 8 rfl ?_
      refine s_goto 9 rfl ?_
      exact s_iret 21 rfl h
  · rw [if_pos h1] at h
    refine s_push 3 rfl ?_
    refine s_goto 4 rfl ?_
    exact s_iret 21 rfl h
def ob_12_isPlace (m51 : Nat → Int) (v1 : Int) : Prop := ¬ (v1 < 0) ∧ ¬ (63 < v1) → (0 ≤ v1 ∧ v1 < 64)
theorem obt_12_isPlace (m51 : Nat → Int) (v1 : Int) : ob_12_isPlace m51 v1 := by unfold ob_12_isPlace; omega
theorem ct_12_isPlace {q : am_Q} {M : am_M} {v1 : Int} (h : q (aI (if (¬ (v1 < 0) ∧ ¬ (63 < v1)) ∧ ¬ (M 51 (v1.toNat) = 99) then 1 else 0)) M) : S12_isPlace [aR 44, aI v1] M q := by
  refine am_S.intro rfl rfl ?_
  have hob := obt_12_isPlace (M 51) v1
  unfold ob_12_isPlace at hob
  refine s_iload 0 rfl rfl ?_
  refine s_i2l 1 rfl ?_
  refine s_push 2 rfl ?_
  refine s_push 3 rfl ?_
  refine s_call 4 rfl rfl rfl rfl rfl (ct_12_in ?_)
  show am_R K12_isPlace q 9 [aR 44, aI v1] [aI (if ¬ (v1 < 0) ∧ ¬ (63 < v1) then 1 else 0)] M
  refine s_ifeqB 5 rfl (fun h1 => ?_) (fun h1 => ?_)
  · refine s_push 14 rfl ?_
    exact s_zret 15 rfl (by decide) (by rw [if_neg (by omega)] at h; exact h)
  · refine s_aload 6 rfl rfl ?_
    refine s_getR 51 7 rfl rfl ?_
    refine s_iload 8 rfl rfl ?_
    refine s_iald (v := M 51 (v1.toNat)) 9 rfl rfl (hob h1) rfl ?_
    refine s_push 10 rfl ?_
    refine s_ic 11 rfl (fun h2 => ?_) (fun h2 => ?_)
    · refine s_push 14 rfl ?_
      exact s_zret 15 rfl (by decide) (by rw [if_neg (by omega)] at h; exact h)
    · refine s_push 12 rfl ?_
      refine s_goto 13 rfl ?_
      exact s_zret 15 rfl (by decide) (by rw [if_pos (by omega)] at h; exact h)
def f_12_beside (m51 : Nat → Int) (v1 v2 : Int) : Int := if v2 = 0 then (if v2 = 1 then (if ¬ (((v1 / 8) + (-1)) < 0) ∧ ¬ (7 < ((v1 / 8) + (-1))) then (if ¬ (((v1 % 8) + 1) < 0) ∧ ¬ (7 < ((v1 % 8) + 1)) then (if m51 (((8 * ((v1 / 8) + (-1))) + ((v1 % 8) + 1)).toNat) = 99 then (-1) else (8 * ((v1 / 8) + (-1))) + ((v1 % 8) + 1)) else (-1)) else (-1)) else if v2 = 3 then (if ¬ (((v1 / 8) + (-1)) < 0) ∧ ¬ (7 < ((v1 / 8) + (-1))) then (if ¬ (((v1 % 8) + (-1)) < 0) ∧ ¬ (7 < ((v1 % 8) + (-1))) then (if m51 (((8 * ((v1 / 8) + (-1))) + ((v1 % 8) + (-1))).toNat) = 99 then (-1) else (8 * ((v1 / 8) + (-1))) + ((v1 % 8) + (-1))) else (-1)) else (-1)) else if ¬ (((v1 / 8) + (-1)) < 0) ∧ ¬ (7 < ((v1 / 8) + (-1))) then (if ¬ (((v1 % 8) + 0) < 0) ∧ ¬ (7 < ((v1 % 8) + 0)) then (if m51 (((8 * ((v1 / 8) + (-1))) + ((v1 % 8) + 0)).toNat) = 99 then (-1) else (8 * ((v1 / 8) + (-1))) + ((v1 % 8) + 0)) else (-1)) else (-1)) else if v2 = 2 then (if v2 = 1 then (if ¬ (((v1 / 8) + 1) < 0) ∧ ¬ (7 < ((v1 / 8) + 1)) then (if ¬ (((v1 % 8) + 1) < 0) ∧ ¬ (7 < ((v1 % 8) + 1)) then (if m51 (((8 * ((v1 / 8) + 1)) + ((v1 % 8) + 1)).toNat) = 99 then (-1) else (8 * ((v1 / 8) + 1)) + ((v1 % 8) + 1)) else (-1)) else (-1)) else if v2 = 3 then (if ¬ (((v1 / 8) + 1) < 0) ∧ ¬ (7 < ((v1 / 8) + 1)) then (if ¬ (((v1 % 8) + (-1)) < 0) ∧ ¬ (7 < ((v1 % 8) + (-1))) then (if m51 (((8 * ((v1 / 8) + 1)) + ((v1 % 8) + (-1))).toNat) = 99 then (-1) else (8 * ((v1 / 8) + 1)) + ((v1 % 8) + (-1))) else (-1)) else (-1)) else if ¬ (((v1 / 8) + 1) < 0) ∧ ¬ (7 < ((v1 / 8) + 1)) then (if ¬ (((v1 % 8) + 0) < 0) ∧ ¬ (7 < ((v1 % 8) + 0)) then (if m51 (((8 * ((v1 / 8) + 1)) + ((v1 % 8) + 0)).toNat) = 99 then (-1) else (8 * ((v1 / 8) + 1)) + ((v1 % 8) + 0)) else (-1)) else (-1)) else if v2 = 1 then (if ¬ (((v1 / 8) + 0) < 0) ∧ ¬ (7 < ((v1 / 8) + 0)) then (if ¬ (((v1 % 8) + 1) < 0) ∧ ¬ (7 < ((v1 % 8) + 1)) then (if m51 (((8 * ((v1 / 8) + 0)) + ((v1 % 8) + 1)).toNat) = 99 then (-1) else (8 * ((v1 / 8) + 0)) + ((v1 % 8) + 1)) else (-1)) else (-1)) else if v2 = 3 then (if ¬ (((v1 / 8) + 0) < 0) ∧ ¬ (7 < ((v1 / 8) + 0)) then (if ¬ (((v1 % 8) + (-1)) < 0) ∧ ¬ (7 < ((v1 % 8) + (-1))) then (if m51 (((8 * ((v1 / 8) + 0)) + ((v1 % 8) + (-1))).toNat) = 99 then (-1) else (8 * ((v1 / 8) + 0)) + ((v1 % 8) + (-1))) else (-1)) else (-1)) else if ¬ (((v1 / 8) + 0) < 0) ∧ ¬ (7 < ((v1 / 8) + 0)) then (if ¬ (((v1 % 8) + 0) < 0) ∧ ¬ (7 < ((v1 % 8) + 0)) then (if m51 (((8 * ((v1 / 8) + 0)) + ((v1 % 8) + 0)).toNat) = 99 then (-1) else (8 * ((v1 / 8) + 0)) + ((v1 % 8) + 0)) else (-1)) else (-1)
def ob_12_beside (m51 : Nat → Int) (v1 v2 : Int) : Prop := (0 ≤ v1) ∧ ((v2 = 0 → ((-2147483648 ≤ (v1 / 8) + (-1) ∧ (v1 / 8) + (-1) < 2147483648) ∧ ((v2 = 1 → ((-2147483648 ≤ (v1 % 8) + 1 ∧ (v1 % 8) + 1 < 2147483648) ∧ (¬ (((v1 / 8) + (-1)) < 0) ∧ ¬ (7 < ((v1 / 8) + (-1))) → (¬ (((v1 % 8) + 1) < 0) ∧ ¬ (7 < ((v1 % 8) + 1)) → ((-2147483648 ≤ 8 * ((v1 / 8) + (-1)) ∧ 8 * ((v1 / 8) + (-1)) < 2147483648) ∧ ((-2147483648 ≤ (8 * ((v1 / 8) + (-1))) + ((v1 % 8) + 1) ∧ (8 * ((v1 / 8) + (-1))) + ((v1 % 8) + 1) < 2147483648) ∧ (0 ≤ (8 * ((v1 / 8) + (-1))) + ((v1 % 8) + 1) ∧ (8 * ((v1 / 8) + (-1))) + ((v1 % 8) + 1) < 64))))))) ∧ (¬ (v2 = 1) → ((v2 = 3 → ((-2147483648 ≤ (v1 % 8) + (-1) ∧ (v1 % 8) + (-1) < 2147483648) ∧ (¬ (((v1 / 8) + (-1)) < 0) ∧ ¬ (7 < ((v1 / 8) + (-1))) → (¬ (((v1 % 8) + (-1)) < 0) ∧ ¬ (7 < ((v1 % 8) + (-1))) → ((-2147483648 ≤ 8 * ((v1 / 8) + (-1)) ∧ 8 * ((v1 / 8) + (-1)) < 2147483648) ∧ ((-2147483648 ≤ (8 * ((v1 / 8) + (-1))) + ((v1 % 8) + (-1)) ∧ (8 * ((v1 / 8) + (-1))) + ((v1 % 8) + (-1)) < 2147483648) ∧ (0 ≤ (8 * ((v1 / 8) + (-1))) + ((v1 % 8) + (-1)) ∧ (8 * ((v1 / 8) + (-1))) + ((v1 % 8) + (-1)) < 64))))))) ∧ (¬ (v2 = 3) → ((-2147483648 ≤ (v1 % 8) + 0 ∧ (v1 % 8) + 0 < 2147483648) ∧ (¬ (((v1 / 8) + (-1)) < 0) ∧ ¬ (7 < ((v1 / 8) + (-1))) → (¬ (((v1 % 8) + 0) < 0) ∧ ¬ (7 < ((v1 % 8) + 0)) → ((-2147483648 ≤ 8 * ((v1 / 8) + (-1)) ∧ 8 * ((v1 / 8) + (-1)) < 2147483648) ∧ ((-2147483648 ≤ (8 * ((v1 / 8) + (-1))) + ((v1 % 8) + 0) ∧ (8 * ((v1 / 8) + (-1))) + ((v1 % 8) + 0) < 2147483648) ∧ (0 ≤ (8 * ((v1 / 8) + (-1))) + ((v1 % 8) + 0) ∧ (8 * ((v1 / 8) + (-1))) + ((v1 % 8) + 0) < 64)))))))))))) ∧ (¬ (v2 = 0) → ((v2 = 2 → ((-2147483648 ≤ (v1 / 8) + 1 ∧ (v1 / 8) + 1 < 2147483648) ∧ ((v2 = 1 → ((-2147483648 ≤ (v1 % 8) + 1 ∧ (v1 % 8) + 1 < 2147483648) ∧ (¬ (((v1 / 8) + 1) < 0) ∧ ¬ (7 < ((v1 / 8) + 1)) → (¬ (((v1 % 8) + 1) < 0) ∧ ¬ (7 < ((v1 % 8) + 1)) → ((-2147483648 ≤ 8 * ((v1 / 8) + 1) ∧ 8 * ((v1 / 8) + 1) < 2147483648) ∧ ((-2147483648 ≤ (8 * ((v1 / 8) + 1)) + ((v1 % 8) + 1) ∧ (8 * ((v1 / 8) + 1)) + ((v1 % 8) + 1) < 2147483648) ∧ (0 ≤ (8 * ((v1 / 8) + 1)) + ((v1 % 8) + 1) ∧ (8 * ((v1 / 8) + 1)) + ((v1 % 8) + 1) < 64))))))) ∧ (¬ (v2 = 1) → ((v2 = 3 → ((-2147483648 ≤ (v1 % 8) + (-1) ∧ (v1 % 8) + (-1) < 2147483648) ∧ (¬ (((v1 / 8) + 1) < 0) ∧ ¬ (7 < ((v1 / 8) + 1)) → (¬ (((v1 % 8) + (-1)) < 0) ∧ ¬ (7 < ((v1 % 8) + (-1))) → ((-2147483648 ≤ 8 * ((v1 / 8) + 1) ∧ 8 * ((v1 / 8) + 1) < 2147483648) ∧ ((-2147483648 ≤ (8 * ((v1 / 8) + 1)) + ((v1 % 8) + (-1)) ∧ (8 * ((v1 / 8) + 1)) + ((v1 % 8) + (-1)) < 2147483648) ∧ (0 ≤ (8 * ((v1 / 8) + 1)) + ((v1 % 8) + (-1)) ∧ (8 * ((v1 / 8) + 1)) + ((v1 % 8) + (-1)) < 64))))))) ∧ (¬ (v2 = 3) → ((-2147483648 ≤ (v1 % 8) + 0 ∧ (v1 % 8) + 0 < 2147483648) ∧ (¬ (((v1 / 8) + 1) < 0) ∧ ¬ (7 < ((v1 / 8) + 1)) → (¬ (((v1 % 8) + 0) < 0) ∧ ¬ (7 < ((v1 % 8) + 0)) → ((-2147483648 ≤ 8 * ((v1 / 8) + 1) ∧ 8 * ((v1 / 8) + 1) < 2147483648) ∧ ((-2147483648 ≤ (8 * ((v1 / 8) + 1)) + ((v1 % 8) + 0) ∧ (8 * ((v1 / 8) + 1)) + ((v1 % 8) + 0) < 2147483648) ∧ (0 ≤ (8 * ((v1 / 8) + 1)) + ((v1 % 8) + 0) ∧ (8 * ((v1 / 8) + 1)) + ((v1 % 8) + 0) < 64)))))))))))) ∧ (¬ (v2 = 2) → ((-2147483648 ≤ (v1 / 8) + 0 ∧ (v1 / 8) + 0 < 2147483648) ∧ ((v2 = 1 → ((-2147483648 ≤ (v1 % 8) + 1 ∧ (v1 % 8) + 1 < 2147483648) ∧ (¬ (((v1 / 8) + 0) < 0) ∧ ¬ (7 < ((v1 / 8) + 0)) → (¬ (((v1 % 8) + 1) < 0) ∧ ¬ (7 < ((v1 % 8) + 1)) → ((-2147483648 ≤ 8 * ((v1 / 8) + 0) ∧ 8 * ((v1 / 8) + 0) < 2147483648) ∧ ((-2147483648 ≤ (8 * ((v1 / 8) + 0)) + ((v1 % 8) + 1) ∧ (8 * ((v1 / 8) + 0)) + ((v1 % 8) + 1) < 2147483648) ∧ (0 ≤ (8 * ((v1 / 8) + 0)) + ((v1 % 8) + 1) ∧ (8 * ((v1 / 8) + 0)) + ((v1 % 8) + 1) < 64))))))) ∧ (¬ (v2 = 1) → ((v2 = 3 → ((-2147483648 ≤ (v1 % 8) + (-1) ∧ (v1 % 8) + (-1) < 2147483648) ∧ (¬ (((v1 / 8) + 0) < 0) ∧ ¬ (7 < ((v1 / 8) + 0)) → (¬ (((v1 % 8) + (-1)) < 0) ∧ ¬ (7 < ((v1 % 8) + (-1))) → ((-2147483648 ≤ 8 * ((v1 / 8) + 0) ∧ 8 * ((v1 / 8) + 0) < 2147483648) ∧ ((-2147483648 ≤ (8 * ((v1 / 8) + 0)) + ((v1 % 8) + (-1)) ∧ (8 * ((v1 / 8) + 0)) + ((v1 % 8) + (-1)) < 2147483648) ∧ (0 ≤ (8 * ((v1 / 8) + 0)) + ((v1 % 8) + (-1)) ∧ (8 * ((v1 / 8) + 0)) + ((v1 % 8) + (-1)) < 64))))))) ∧ (¬ (v2 = 3) → ((-2147483648 ≤ (v1 % 8) + 0 ∧ (v1 % 8) + 0 < 2147483648) ∧ (¬ (((v1 / 8) + 0) < 0) ∧ ¬ (7 < ((v1 / 8) + 0)) → (¬ (((v1 % 8) + 0) < 0) ∧ ¬ (7 < ((v1 % 8) + 0)) → ((-2147483648 ≤ 8 * ((v1 / 8) + 0) ∧ 8 * ((v1 / 8) + 0) < 2147483648) ∧ ((-2147483648 ≤ (8 * ((v1 / 8) + 0)) + ((v1 % 8) + 0) ∧ (8 * ((v1 / 8) + 0)) + ((v1 % 8) + 0) < 2147483648) ∧ (0 ≤ (8 * ((v1 / 8) + 0)) + ((v1 % 8) + 0) ∧ (8 * ((v1 / 8) + 0)) + ((v1 % 8) + 0) < 64)))))))))))))))
theorem ct_12_beside {q : am_Q} {M : am_M} {v1 : Int} {v2 : Int} (hob : ob_12_beside (M 51) v1 v2) (h : q (aI (f_12_beside (M 51) v1 v2)) M) : S12_beside [aR 44, aI v1, aI v2] M q := by
  refine am_S.intro rfl rfl ?_
  unfold ob_12_beside at hob
  unfold f_12_beside at h
  refine s_iload 0 rfl rfl ?_
  refine s_push 1 rfl ?_
  refine s_idiv 2 rfl ⟨hob.1, by decide⟩ ?_
  refine s_iload 3 rfl rfl ?_
  refine s_ifne 4 rfl (fun h1 => ?_) (fun h1 => ?_)
  · rw [if_neg h1] at h
    refine s_iload 7 rfl rfl ?_
    refine s_push 8 rfl ?_
    refine s_icne 9 rfl (fun h2 => ?_) (fun h2 => ?_)
    · rw [if_neg h2] at h
      refine s_push 12 rfl ?_
      refine s_binX (v := (v1 / 8) + 0) 13 rfl ((hob.2.2 h1).2 h2).1 rfl ?_
      refine s_istore [aR 44, aI v1, aI v2, aI ((v1 / 8) + 0), aJ] 14 rfl rfl ?_
      refine s_iload 15 rfl rfl ?_
      refine s_push 16 rfl ?_
      refine s_irem 17 rfl ⟨hob.1, by decide⟩ ?_
      refine s_iload 18 rfl rfl ?_
      refine s_push 19 rfl ?_
      refine s_icne 20 rfl (fun h3 => ?_) (fun h3 => ?_)
      · rw [if_neg h3] at h
        refine s_iload 23 rfl rfl ?_
        refine s_push 24 rfl ?_
        refine s_icne 25 rfl (fun h4 => ?_) (fun h4 => ?_)
        · rw [if_neg h4] at h
          refine s_push 28 rfl ?_
          refine s_binX (v := (v1 % 8) + 0) 29 rfl ((((hob.2.2 h1).2 h2).2.2 h3).2 h4).1 rfl ?_
          refine s_istore [aR 44, aI v1, aI v2, aI ((v1 / 8) + 0), aI ((v1 % 8) + 0)] 30 rfl rfl ?_
          refine s_iload 31 rfl rfl ?_
          refine s_i2l 32 rfl ?_
          refine s_push 33 rfl ?_
          refine s_push 34 rfl ?_
          refine s_call 35 rfl rfl rfl rfl rfl (ct_12_in ?_)
          show am_R K12_beside q 59 [aR 44, aI v1, aI v2, aI ((v1 / 8) + 0), aI ((v1 % 8) + 0)] [aI (if ¬ (((v1 / 8) + 0) < 0) ∧ ¬ (7 < ((v1 / 8) + 0)) then 1 else 0)] M
          refine s_ifeqB 36 rfl (fun h5 => ?_) (fun h5 => ?_)
          · rw [if_neg h5] at h
            refine s_push 59 rfl ?_
            exact s_iret 60 rfl h
          · rw [if_pos h5] at h
            refine s_iload 37 rfl rfl ?_
            refine s_i2l 38 rfl ?_
            refine s_push 39 rfl ?_
            refine s_push 40 rfl ?_
            refine s_call 41 rfl rfl rfl rfl rfl (ct_12_in ?_)
            show am_R K12_beside q 72 [aR 44, aI v1, aI v2, aI ((v1 / 8) + 0), aI ((v1 % 8) + 0)] [aI (if ¬ (((v1 % 8) + 0) < 0) ∧ ¬ (7 < ((v1 % 8) + 0)) then 1 else 0)] M
            refine s_ifeqB 42 rfl (fun h6 => ?_) (fun h6 => ?_)
            · rw [if_neg h6] at h
              refine s_push 59 rfl ?_
              exact s_iret 60 rfl h
            · rw [if_pos h6] at h
              refine s_aload 43 rfl rfl ?_
              refine s_getR 51 44 rfl rfl ?_
              refine s_push 45 rfl ?_
              refine s_iload 46 rfl rfl ?_
              refine s_binX (v := 8 * ((v1 / 8) + 0)) 47 rfl ((((((hob.2.2 h1).2 h2).2.2 h3).2 h4).2 h5) h6).1 rfl ?_
              refine s_iload 48 rfl rfl ?_
              refine s_binX (v := (8 * ((v1 / 8) + 0)) + ((v1 % 8) + 0)) 49 rfl ((((((hob.2.2 h1).2 h2).2.2 h3).2 h4).2 h5) h6).2.1 rfl ?_
              refine s_iald (v := M 51 (((8 * ((v1 / 8) + 0)) + ((v1 % 8) + 0)).toNat)) 50 rfl rfl ((((((hob.2.2 h1).2 h2).2.2 h3).2 h4).2 h5) h6).2.2 rfl ?_
              refine s_push 51 rfl ?_
              refine s_ic 52 rfl (fun h7 => ?_) (fun h7 => ?_)
              · rw [if_pos h7] at h
                refine s_push 59 rfl ?_
                exact s_iret 60 rfl h
              · rw [if_neg h7] at h
                refine s_push 53 rfl ?_
                refine s_iload 54 rfl rfl ?_
                refine s_binX (v := 8 * ((v1 / 8) + 0)) 55 rfl ((((((hob.2.2 h1).2 h2).2.2 h3).2 h4).2 h5) h6).1 rfl ?_
                refine s_iload 56 rfl rfl ?_
                refine s_binX (v := (8 * ((v1 / 8) + 0)) + ((v1 % 8) + 0)) 57 rfl ((((((hob.2.2 h1).2 h2).2.2 h3).2 h4).2 h5) h6).2.1 rfl ?_
                refine s_goto 58 rfl ?_
                exact s_iret 60 rfl h
        · rw [if_pos h4] at h
          refine s_push 26 rfl ?_
          refine s_goto 27 rfl ?_
          refine s_binX (v := (v1 % 8) + (-1)) 29 rfl ((((hob.2.2 h1).2 h2).2.2 h3).1 h4).1 rfl ?_
          refine s_istore [aR 44, aI v1, aI v2, aI ((v1 / 8) + 0), aI ((v1 % 8) + (-1))] 30 rfl rfl ?_
          refine s_iload 31 rfl rfl ?_
          refine s_i2l 32 rfl ?_
          refine s_push 33 rfl ?_
          refine s_push 34 rfl ?_
          refine s_call 35 rfl rfl rfl rfl rfl (ct_12_in ?_)
          show am_R K12_beside q 59 [aR 44, aI v1, aI v2, aI ((v1 / 8) + 0), aI ((v1 % 8) + (-1))] [aI (if ¬ (((v1 / 8) + 0) < 0) ∧ ¬ (7 < ((v1 / 8) + 0)) then 1 else 0)] M
          refine s_ifeqB 36 rfl (fun h8 => ?_) (fun h8 => ?_)
          · rw [if_neg h8] at h
            refine s_push 59 rfl ?_
            exact s_iret 60 rfl h
          · rw [if_pos h8] at h
            refine s_iload 37 rfl rfl ?_
            refine s_i2l 38 rfl ?_
            refine s_push 39 rfl ?_
            refine s_push 40 rfl ?_
            refine s_call 41 rfl rfl rfl rfl rfl (ct_12_in ?_)
            show am_R K12_beside q 72 [aR 44, aI v1, aI v2, aI ((v1 / 8) + 0), aI ((v1 % 8) + (-1))] [aI (if ¬ (((v1 % 8) + (-1)) < 0) ∧ ¬ (7 < ((v1 % 8) + (-1))) then 1 else 0)] M
            refine s_ifeqB 42 rfl (fun h9 => ?_) (fun h9 => ?_)
            · rw [if_neg h9] at h
              refine s_push 59 rfl ?_
              exact s_iret 60 rfl h
            · rw [if_pos h9] at h
              refine s_aload 43 rfl rfl ?_
              refine s_getR 51 44 rfl rfl ?_
              refine s_push 45 rfl ?_
              refine s_iload 46 rfl rfl ?_
              refine s_binX (v := 8 * ((v1 / 8) + 0)) 47 rfl ((((((hob.2.2 h1).2 h2).2.2 h3).1 h4).2 h8) h9).1 rfl ?_
              refine s_iload 48 rfl rfl ?_
              refine s_binX (v := (8 * ((v1 / 8) + 0)) + ((v1 % 8) + (-1))) 49 rfl ((((((hob.2.2 h1).2 h2).2.2 h3).1 h4).2 h8) h9).2.1 rfl ?_
              refine s_iald (v := M 51 (((8 * ((v1 / 8) + 0)) + ((v1 % 8) + (-1))).toNat)) 50 rfl rfl ((((((hob.2.2 h1).2 h2).2.2 h3).1 h4).2 h8) h9).2.2 rfl ?_
              refine s_push 51 rfl ?_
              refine s_ic 52 rfl (fun h10 => ?_) (fun h10 => ?_)
              · rw [if_pos h10] at h
                refine s_push 59 rfl ?_
                exact s_iret 60 rfl h
              · rw [if_neg h10] at h
                refine s_push 53 rfl ?_
                refine s_iload 54 rfl rfl ?_
                refine s_binX (v := 8 * ((v1 / 8) + 0)) 55 rfl ((((((hob.2.2 h1).2 h2).2.2 h3).1 h4).2 h8) h9).1 rfl ?_
                refine s_iload 56 rfl rfl ?_
                refine s_binX (v := (8 * ((v1 / 8) + 0)) + ((v1 % 8) + (-1))) 57 rfl ((((((hob.2.2 h1).2 h2).2.2 h3).1 h4).2 h8) h9).2.1 rfl ?_
                refine s_goto 58 rfl ?_
                exact s_iret 60 rfl h
      · rw [if_pos h3] at h
        refine s_push 21 rfl ?_
        refine s_goto 22 rfl ?_
        refine s_binX (v := (v1 % 8) + 1) 29 rfl (((hob.2.2 h1).2 h2).2.1 h3).1 rfl ?_
        refine s_istore [aR 44, aI v1, aI v2, aI ((v1 / 8) + 0), aI ((v1 % 8) + 1)] 30 rfl rfl ?_
        refine s_iload 31 rfl rfl ?_
        refine s_i2l 32 rfl ?_
        refine s_push 33 rfl ?_
        refine s_push 34 rfl ?_
        refine s_call 35 rfl rfl rfl rfl rfl (ct_12_in ?_)
        show am_R K12_beside q 59 [aR 44, aI v1, aI v2, aI ((v1 / 8) + 0), aI ((v1 % 8) + 1)] [aI (if ¬ (((v1 / 8) + 0) < 0) ∧ ¬ (7 < ((v1 / 8) + 0)) then 1 else 0)] M
        refine s_ifeqB 36 rfl (fun h11 => ?_) (fun h11 => ?_)
        · rw [if_neg h11] at h
          refine s_push 59 rfl ?_
          exact s_iret 60 rfl h
        · rw [if_pos h11] at h
          refine s_iload 37 rfl rfl ?_
          refine s_i2l 38 rfl ?_
          refine s_push 39 rfl ?_
          refine s_push 40 rfl ?_
          refine s_call 41 rfl rfl rfl rfl rfl (ct_12_in ?_)
          show am_R K12_beside q 72 [aR 44, aI v1, aI v2, aI ((v1 / 8) + 0), aI ((v1 % 8) + 1)] [aI (if ¬ (((v1 % 8) + 1) < 0) ∧ ¬ (7 < ((v1 % 8) + 1)) then 1 else 0)] M
          refine s_ifeqB 42 rfl (fun h12 => ?_) (fun h12 => ?_)
          · rw [if_neg h12] at h
            refine s_push 59 rfl ?_
            exact s_iret 60 rfl h
          · rw [if_pos h12] at h
            refine s_aload 43 rfl rfl ?_
            refine s_getR 51 44 rfl rfl ?_
            refine s_push 45 rfl ?_
            refine s_iload 46 rfl rfl ?_
            refine s_binX (v := 8 * ((v1 / 8) + 0)) 47 rfl (((((hob.2.2 h1).2 h2).2.1 h3).2 h11) h12).1 rfl ?_
            refine s_iload 48 rfl rfl ?_
            refine s_binX (v := (8 * ((v1 / 8) + 0)) + ((v1 % 8) + 1)) 49 rfl (((((hob.2.2 h1).2 h2).2.1 h3).2 h11) h12).2.1 rfl ?_
            refine s_iald (v := M 51 (((8 * ((v1 / 8) + 0)) + ((v1 % 8) + 1)).toNat)) 50 rfl rfl (((((hob.2.2 h1).2 h2).2.1 h3).2 h11) h12).2.2 rfl ?_
            refine s_push 51 rfl ?_
            refine s_ic 52 rfl (fun h13 => ?_) (fun h13 => ?_)
            · rw [if_pos h13] at h
              refine s_push 59 rfl ?_
              exact s_iret 60 rfl h
            · rw [if_neg h13] at h
              refine s_push 53 rfl ?_
              refine s_iload 54 rfl rfl ?_
              refine s_binX (v := 8 * ((v1 / 8) + 0)) 55 rfl (((((hob.2.2 h1).2 h2).2.1 h3).2 h11) h12).1 rfl ?_
              refine s_iload 56 rfl rfl ?_
              refine s_binX (v := (8 * ((v1 / 8) + 0)) + ((v1 % 8) + 1)) 57 rfl (((((hob.2.2 h1).2 h2).2.1 h3).2 h11) h12).2.1 rfl ?_
              refine s_goto 58 rfl ?_
              exact s_iret 60 rfl h
    · rw [if_pos h2] at h
      refine s_push 10 rfl ?_
      refine s_goto 11 rfl ?_
      refine s_binX (v := (v1 / 8) + 1) 13 rfl ((hob.2.2 h1).1 h2).1 rfl ?_
      refine s_istore [aR 44, aI v1, aI v2, aI ((v1 / 8) + 1), aJ] 14 rfl rfl ?_
      refine s_iload 15 rfl rfl ?_
      refine s_push 16 rfl ?_
      refine s_irem 17 rfl ⟨hob.1, by decide⟩ ?_
      refine s_iload 18 rfl rfl ?_
      refine s_push 19 rfl ?_
      refine s_icne 20 rfl (fun h14 => ?_) (fun h14 => ?_)
      · rw [if_neg h14] at h
        refine s_iload 23 rfl rfl ?_
        refine s_push 24 rfl ?_
        refine s_icne 25 rfl (fun h15 => ?_) (fun h15 => ?_)
        · rw [if_neg h15] at h
          refine s_push 28 rfl ?_
          refine s_binX (v := (v1 % 8) + 0) 29 rfl ((((hob.2.2 h1).1 h2).2.2 h14).2 h15).1 rfl ?_
          refine s_istore [aR 44, aI v1, aI v2, aI ((v1 / 8) + 1), aI ((v1 % 8) + 0)] 30 rfl rfl ?_
          refine s_iload 31 rfl rfl ?_
          refine s_i2l 32 rfl ?_
          refine s_push 33 rfl ?_
          refine s_push 34 rfl ?_
          refine s_call 35 rfl rfl rfl rfl rfl (ct_12_in ?_)
          show am_R K12_beside q 59 [aR 44, aI v1, aI v2, aI ((v1 / 8) + 1), aI ((v1 % 8) + 0)] [aI (if ¬ (((v1 / 8) + 1) < 0) ∧ ¬ (7 < ((v1 / 8) + 1)) then 1 else 0)] M
          refine s_ifeqB 36 rfl (fun h16 => ?_) (fun h16 => ?_)
          · rw [if_neg h16] at h
            refine s_push 59 rfl ?_
            exact s_iret 60 rfl h
          · rw [if_pos h16] at h
            refine s_iload 37 rfl rfl ?_
            refine s_i2l 38 rfl ?_
            refine s_push 39 rfl ?_
            refine s_push 40 rfl ?_
            refine s_call 41 rfl rfl rfl rfl rfl (ct_12_in ?_)
            show am_R K12_beside q 72 [aR 44, aI v1, aI v2, aI ((v1 / 8) + 1), aI ((v1 % 8) + 0)] [aI (if ¬ (((v1 % 8) + 0) < 0) ∧ ¬ (7 < ((v1 % 8) + 0)) then 1 else 0)] M
            refine s_ifeqB 42 rfl (fun h17 => ?_) (fun h17 => ?_)
            · rw [if_neg h17] at h
              refine s_push 59 rfl ?_
              exact s_iret 60 rfl h
            · rw [if_pos h17] at h
              refine s_aload 43 rfl rfl ?_
              refine s_getR 51 44 rfl rfl ?_
              refine s_push 45 rfl ?_
              refine s_iload 46 rfl rfl ?_
              refine s_binX (v := 8 * ((v1 / 8) + 1)) 47 rfl ((((((hob.2.2 h1).1 h2).2.2 h14).2 h15).2 h16) h17).1 rfl ?_
              refine s_iload 48 rfl rfl ?_
              refine s_binX (v := (8 * ((v1 / 8) + 1)) + ((v1 % 8) + 0)) 49 rfl ((((((hob.2.2 h1).1 h2).2.2 h14).2 h15).2 h16) h17).2.1 rfl ?_
              refine s_iald (v := M 51 (((8 * ((v1 / 8) + 1)) + ((v1 % 8) + 0)).toNat)) 50 rfl rfl ((((((hob.2.2 h1).1 h2).2.2 h14).2 h15).2 h16) h17).2.2 rfl ?_
              refine s_push 51 rfl ?_
              refine s_ic 52 rfl (fun h18 => ?_) (fun h18 => ?_)
              · rw [if_pos h18] at h
                refine s_push 59 rfl ?_
                exact s_iret 60 rfl h
              · rw [if_neg h18] at h
                refine s_push 53 rfl ?_
                refine s_iload 54 rfl rfl ?_
                refine s_binX (v := 8 * ((v1 / 8) + 1)) 55 rfl ((((((hob.2.2 h1).1 h2).2.2 h14).2 h15).2 h16) h17).1 rfl ?_
                refine s_iload 56 rfl rfl ?_
                refine s_binX (v := (8 * ((v1 / 8) + 1)) + ((v1 % 8) + 0)) 57 rfl ((((((hob.2.2 h1).1 h2).2.2 h14).2 h15).2 h16) h17).2.1 rfl ?_
                refine s_goto 58 rfl ?_
                exact s_iret 60 rfl h
        · rw [if_pos h15] at h
          refine s_push 26 rfl ?_
          refine s_goto 27 rfl ?_
          refine s_binX (v := (v1 % 8) + (-1)) 29 rfl ((((hob.2.2 h1).1 h2).2.2 h14).1 h15).1 rfl ?_
          refine s_istore [aR 44, aI v1, aI v2, aI ((v1 / 8) + 1), aI ((v1 % 8) + (-1))] 30 rfl rfl ?_
          refine s_iload 31 rfl rfl ?_
          refine s_i2l 32 rfl ?_
          refine s_push 33 rfl ?_
          refine s_push 34 rfl ?_
          refine s_call 35 rfl rfl rfl rfl rfl (ct_12_in ?_)
          show am_R K12_beside q 59 [aR 44, aI v1, aI v2, aI ((v1 / 8) + 1), aI ((v1 % 8) + (-1))] [aI (if ¬ (((v1 / 8) + 1) < 0) ∧ ¬ (7 < ((v1 / 8) + 1)) then 1 else 0)] M
          refine s_ifeqB 36 rfl (fun h19 => ?_) (fun h19 => ?_)
          · rw [if_neg h19] at h
            refine s_push 59 rfl ?_
            exact s_iret 60 rfl h
          · rw [if_pos h19] at h
            refine s_iload 37 rfl rfl ?_
            refine s_i2l 38 rfl ?_
            refine s_push 39 rfl ?_
            refine s_push 40 rfl ?_
            refine s_call 41 rfl rfl rfl rfl rfl (ct_12_in ?_)
            show am_R K12_beside q 72 [aR 44, aI v1, aI v2, aI ((v1 / 8) + 1), aI ((v1 % 8) + (-1))] [aI (if ¬ (((v1 % 8) + (-1)) < 0) ∧ ¬ (7 < ((v1 % 8) + (-1))) then 1 else 0)] M
            refine s_ifeqB 42 rfl (fun h20 => ?_) (fun h20 => ?_)
            · rw [if_neg h20] at h
              refine s_push 59 rfl ?_
              exact s_iret 60 rfl h
            · rw [if_pos h20] at h
              refine s_aload 43 rfl rfl ?_
              refine s_getR 51 44 rfl rfl ?_
              refine s_push 45 rfl ?_
              refine s_iload 46 rfl rfl ?_
              refine s_binX (v := 8 * ((v1 / 8) + 1)) 47 rfl ((((((hob.2.2 h1).1 h2).2.2 h14).1 h15).2 h19) h20).1 rfl ?_
              refine s_iload 48 rfl rfl ?_
              refine s_binX (v := (8 * ((v1 / 8) + 1)) + ((v1 % 8) + (-1))) 49 rfl ((((((hob.2.2 h1).1 h2).2.2 h14).1 h15).2 h19) h20).2.1 rfl ?_
              refine s_iald (v := M 51 (((8 * ((v1 / 8) + 1)) + ((v1 % 8) + (-1))).toNat)) 50 rfl rfl ((((((hob.2.2 h1).1 h2).2.2 h14).1 h15).2 h19) h20).2.2 rfl ?_
              refine s_push 51 rfl ?_
              refine s_ic 52 rfl (fun h21 => ?_) (fun h21 => ?_)
              · rw [if_pos h21] at h
                refine s_push 59 rfl ?_
                exact s_iret 60 rfl h
              · rw [if_neg h21] at h
                refine s_push 53 rfl ?_
                refine s_iload 54 rfl rfl ?_
                refine s_binX (v := 8 * ((v1 / 8) + 1)) 55 rfl ((((((hob.2.2 h1).1 h2).2.2 h14).1 h15).2 h19) h20).1 rfl ?_
                refine s_iload 56 rfl rfl ?_
                refine s_binX (v := (8 * ((v1 / 8) + 1)) + ((v1 % 8) + (-1))) 57 rfl ((((((hob.2.2 h1).1 h2).2.2 h14).1 h15).2 h19) h20).2.1 rfl ?_
                refine s_goto 58 rfl ?_
                exact s_iret 60 rfl h
      · rw [if_pos h14] at h
        refine s_push 21 rfl ?_
        refine s_goto 22 rfl ?_
        refine s_binX (v := (v1 % 8) + 1) 29 rfl (((hob.2.2 h1).1 h2).2.1 h14).1 rfl ?_
        refine s_istore [aR 44, aI v1, aI v2, aI ((v1 / 8) + 1), aI ((v1 % 8) + 1)] 30 rfl rfl ?_
        refine s_iload 31 rfl rfl ?_
        refine s_i2l 32 rfl ?_
        refine s_push 33 rfl ?_
        refine s_push 34 rfl ?_
        refine s_call 35 rfl rfl rfl rfl rfl (ct_12_in ?_)
        show am_R K12_beside q 59 [aR 44, aI v1, aI v2, aI ((v1 / 8) + 1), aI ((v1 % 8) + 1)] [aI (if ¬ (((v1 / 8) + 1) < 0) ∧ ¬ (7 < ((v1 / 8) + 1)) then 1 else 0)] M
        refine s_ifeqB 36 rfl (fun h22 => ?_) (fun h22 => ?_)
        · rw [if_neg h22] at h
          refine s_push 59 rfl ?_
          exact s_iret 60 rfl h
        · rw [if_pos h22] at h
          refine s_iload 37 rfl rfl ?_
          refine s_i2l 38 rfl ?_
          refine s_push 39 rfl ?_
          refine s_push 40 rfl ?_
          refine s_call 41 rfl rfl rfl rfl rfl (ct_12_in ?_)
          show am_R K12_beside q 72 [aR 44, aI v1, aI v2, aI ((v1 / 8) + 1), aI ((v1 % 8) + 1)] [aI (if ¬ (((v1 % 8) + 1) < 0) ∧ ¬ (7 < ((v1 % 8) + 1)) then 1 else 0)] M
          refine s_ifeqB 42 rfl (fun h23 => ?_) (fun h23 => ?_)
          · rw [if_neg h23] at h
            refine s_push 59 rfl ?_
            exact s_iret 60 rfl h
          · rw [if_pos h23] at h
            refine s_aload 43 rfl rfl ?_
            refine s_getR 51 44 rfl rfl ?_
            refine s_push 45 rfl ?_
            refine s_iload 46 rfl rfl ?_
            refine s_binX (v := 8 * ((v1 / 8) + 1)) 47 rfl (((((hob.2.2 h1).1 h2).2.1 h14).2 h22) h23).1 rfl ?_
            refine s_iload 48 rfl rfl ?_
            refine s_binX (v := (8 * ((v1 / 8) + 1)) + ((v1 % 8) + 1)) 49 rfl (((((hob.2.2 h1).1 h2).2.1 h14).2 h22) h23).2.1 rfl ?_
            refine s_iald (v := M 51 (((8 * ((v1 / 8) + 1)) + ((v1 % 8) + 1)).toNat)) 50 rfl rfl (((((hob.2.2 h1).1 h2).2.1 h14).2 h22) h23).2.2 rfl ?_
            refine s_push 51 rfl ?_
            refine s_ic 52 rfl (fun h24 => ?_) (fun h24 => ?_)
            · rw [if_pos h24] at h
              refine s_push 59 rfl ?_
              exact s_iret 60 rfl h
            · rw [if_neg h24] at h
              refine s_push 53 rfl ?_
              refine s_iload 54 rfl rfl ?_
              refine s_binX (v := 8 * ((v1 / 8) + 1)) 55 rfl (((((hob.2.2 h1).1 h2).2.1 h14).2 h22) h23).1 rfl ?_
              refine s_iload 56 rfl rfl ?_
              refine s_binX (v := (8 * ((v1 / 8) + 1)) + ((v1 % 8) + 1)) 57 rfl (((((hob.2.2 h1).1 h2).2.1 h14).2 h22) h23).2.1 rfl ?_
              refine s_goto 58 rfl ?_
              exact s_iret 60 rfl h
  · rw [if_pos h1] at h
    refine s_push 5 rfl ?_
    refine s_goto 6 rfl ?_
    refine s_binX (v := (v1 / 8) + (-1)) 13 rfl (hob.2.1 h1).1 rfl ?_
    refine s_istore [aR 44, aI v1, aI v2, aI ((v1 / 8) + (-1)), aJ] 14 rfl rfl ?_
    refine s_iload 15 rfl rfl ?_
    refine s_push 16 rfl ?_
    refine s_irem 17 rfl ⟨hob.1, by decide⟩ ?_
    refine s_iload 18 rfl rfl ?_
    refine s_push 19 rfl ?_
    refine s_icne 20 rfl (fun h25 => ?_) (fun h25 => ?_)
    · rw [if_neg h25] at h
      refine s_iload 23 rfl rfl ?_
      refine s_push 24 rfl ?_
      refine s_icne 25 rfl (fun h26 => ?_) (fun h26 => ?_)
      · rw [if_neg h26] at h
        refine s_push 28 rfl ?_
        refine s_binX (v := (v1 % 8) + 0) 29 rfl (((hob.2.1 h1).2.2 h25).2 h26).1 rfl ?_
        refine s_istore [aR 44, aI v1, aI v2, aI ((v1 / 8) + (-1)), aI ((v1 % 8) + 0)] 30 rfl rfl ?_
        refine s_iload 31 rfl rfl ?_
        refine s_i2l 32 rfl ?_
        refine s_push 33 rfl ?_
        refine s_push 34 rfl ?_
        refine s_call 35 rfl rfl rfl rfl rfl (ct_12_in ?_)
        show am_R K12_beside q 59 [aR 44, aI v1, aI v2, aI ((v1 / 8) + (-1)), aI ((v1 % 8) + 0)] [aI (if ¬ (((v1 / 8) + (-1)) < 0) ∧ ¬ (7 < ((v1 / 8) + (-1))) then 1 else 0)] M
        refine s_ifeqB 36 rfl (fun h27 => ?_) (fun h27 => ?_)
        · rw [if_neg h27] at h
          refine s_push 59 rfl ?_
          exact s_iret 60 rfl h
        · rw [if_pos h27] at h
          refine s_iload 37 rfl rfl ?_
          refine s_i2l 38 rfl ?_
          refine s_push 39 rfl ?_
          refine s_push 40 rfl ?_
          refine s_call 41 rfl rfl rfl rfl rfl (ct_12_in ?_)
          show am_R K12_beside q 72 [aR 44, aI v1, aI v2, aI ((v1 / 8) + (-1)), aI ((v1 % 8) + 0)] [aI (if ¬ (((v1 % 8) + 0) < 0) ∧ ¬ (7 < ((v1 % 8) + 0)) then 1 else 0)] M
          refine s_ifeqB 42 rfl (fun h28 => ?_) (fun h28 => ?_)
          · rw [if_neg h28] at h
            refine s_push 59 rfl ?_
            exact s_iret 60 rfl h
          · rw [if_pos h28] at h
            refine s_aload 43 rfl rfl ?_
            refine s_getR 51 44 rfl rfl ?_
            refine s_push 45 rfl ?_
            refine s_iload 46 rfl rfl ?_
            refine s_binX (v := 8 * ((v1 / 8) + (-1))) 47 rfl (((((hob.2.1 h1).2.2 h25).2 h26).2 h27) h28).1 rfl ?_
            refine s_iload 48 rfl rfl ?_
            refine s_binX (v := (8 * ((v1 / 8) + (-1))) + ((v1 % 8) + 0)) 49 rfl (((((hob.2.1 h1).2.2 h25).2 h26).2 h27) h28).2.1 rfl ?_
            refine s_iald (v := M 51 (((8 * ((v1 / 8) + (-1))) + ((v1 % 8) + 0)).toNat)) 50 rfl rfl (((((hob.2.1 h1).2.2 h25).2 h26).2 h27) h28).2.2 rfl ?_
            refine s_push 51 rfl ?_
            refine s_ic 52 rfl (fun h29 => ?_) (fun h29 => ?_)
            · rw [if_pos h29] at h
              refine s_push 59 rfl ?_
              exact s_iret 60 rfl h
            · rw [if_neg h29] at h
              refine s_push 53 rfl ?_
              refine s_iload 54 rfl rfl ?_
              refine s_binX (v := 8 * ((v1 / 8) + (-1))) 55 rfl (((((hob.2.1 h1).2.2 h25).2 h26).2 h27) h28).1 rfl ?_
              refine s_iload 56 rfl rfl ?_
              refine s_binX (v := (8 * ((v1 / 8) + (-1))) + ((v1 % 8) + 0)) 57 rfl (((((hob.2.1 h1).2.2 h25).2 h26).2 h27) h28).2.1 rfl ?_
              refine s_goto 58 rfl ?_
              exact s_iret 60 rfl h
      · rw [if_pos h26] at h
        refine s_push 26 rfl ?_
        refine s_goto 27 rfl ?_
        refine s_binX (v := (v1 % 8) + (-1)) 29 rfl (((hob.2.1 h1).2.2 h25).1 h26).1 rfl ?_
        refine s_istore [aR 44, aI v1, aI v2, aI ((v1 / 8) + (-1)), aI ((v1 % 8) + (-1))] 30 rfl rfl ?_
        refine s_iload 31 rfl rfl ?_
        refine s_i2l 32 rfl ?_
        refine s_push 33 rfl ?_
        refine s_push 34 rfl ?_
        refine s_call 35 rfl rfl rfl rfl rfl (ct_12_in ?_)
        show am_R K12_beside q 59 [aR 44, aI v1, aI v2, aI ((v1 / 8) + (-1)), aI ((v1 % 8) + (-1))] [aI (if ¬ (((v1 / 8) + (-1)) < 0) ∧ ¬ (7 < ((v1 / 8) + (-1))) then 1 else 0)] M
        refine s_ifeqB 36 rfl (fun h30 => ?_) (fun h30 => ?_)
        · rw [if_neg h30] at h
          refine s_push 59 rfl ?_
          exact s_iret 60 rfl h
        · rw [if_pos h30] at h
          refine s_iload 37 rfl rfl ?_
          refine s_i2l 38 rfl ?_
          refine s_push 39 rfl ?_
          refine s_push 40 rfl ?_
          refine s_call 41 rfl rfl rfl rfl rfl (ct_12_in ?_)
          show am_R K12_beside q 72 [aR 44, aI v1, aI v2, aI ((v1 / 8) + (-1)), aI ((v1 % 8) + (-1))] [aI (if ¬ (((v1 % 8) + (-1)) < 0) ∧ ¬ (7 < ((v1 % 8) + (-1))) then 1 else 0)] M
          refine s_ifeqB 42 rfl (fun h31 => ?_) (fun h31 => ?_)
          · rw [if_neg h31] at h
            refine s_push 59 rfl ?_
            exact s_iret 60 rfl h
          · rw [if_pos h31] at h
            refine s_aload 43 rfl rfl ?_
            refine s_getR 51 44 rfl rfl ?_
            refine s_push 45 rfl ?_
            refine s_iload 46 rfl rfl ?_
            refine s_binX (v := 8 * ((v1 / 8) + (-1))) 47 rfl (((((hob.2.1 h1).2.2 h25).1 h26).2 h30) h31).1 rfl ?_
            refine s_iload 48 rfl rfl ?_
            refine s_binX (v := (8 * ((v1 / 8) + (-1))) + ((v1 % 8) + (-1))) 49 rfl (((((hob.2.1 h1).2.2 h25).1 h26).2 h30) h31).2.1 rfl ?_
            refine s_iald (v := M 51 (((8 * ((v1 / 8) + (-1))) + ((v1 % 8) + (-1))).toNat)) 50 rfl rfl (((((hob.2.1 h1).2.2 h25).1 h26).2 h30) h31).2.2 rfl ?_
            refine s_push 51 rfl ?_
            refine s_ic 52 rfl (fun h32 => ?_) (fun h32 => ?_)
            · rw [if_pos h32] at h
              refine s_push 59 rfl ?_
              exact s_iret 60 rfl h
            · rw [if_neg h32] at h
              refine s_push 53 rfl ?_
              refine s_iload 54 rfl rfl ?_
              refine s_binX (v := 8 * ((v1 / 8) + (-1))) 55 rfl (((((hob.2.1 h1).2.2 h25).1 h26).2 h30) h31).1 rfl ?_
              refine s_iload 56 rfl rfl ?_
              refine s_binX (v := (8 * ((v1 / 8) + (-1))) + ((v1 % 8) + (-1))) 57 rfl (((((hob.2.1 h1).2.2 h25).1 h26).2 h30) h31).2.1 rfl ?_
              refine s_goto 58 rfl ?_
              exact s_iret 60 rfl h
    · rw [if_pos h25] at h
      refine s_push 21 rfl ?_
      refine s_goto 22 rfl ?_
      refine s_binX (v := (v1 % 8) + 1) 29 rfl ((hob.2.1 h1).2.1 h25).1 rfl ?_
      refine s_istore [aR 44, aI v1, aI v2, aI ((v1 / 8) + (-1)), aI ((v1 % 8) + 1)] 30 rfl rfl ?_
      refine s_iload 31 rfl rfl ?_
      refine s_i2l 32 rfl ?_
      refine s_push 33 rfl ?_
      refine s_push 34 rfl ?_
      refine s_call 35 rfl rfl rfl rfl rfl (ct_12_in ?_)
      show am_R K12_beside q 59 [aR 44, aI v1, aI v2, aI ((v1 / 8) + (-1)), aI ((v1 % 8) + 1)] [aI (if ¬ (((v1 / 8) + (-1)) < 0) ∧ ¬ (7 < ((v1 / 8) + (-1))) then 1 else 0)] M
      refine s_ifeqB 36 rfl (fun h33 => ?_) (fun h33 => ?_)
      · rw [if_neg h33] at h
        refine s_push 59 rfl ?_
        exact s_iret 60 rfl h
      · rw [if_pos h33] at h
        refine s_iload 37 rfl rfl ?_
        refine s_i2l 38 rfl ?_
        refine s_push 39 rfl ?_
        refine s_push 40 rfl ?_
        refine s_call 41 rfl rfl rfl rfl rfl (ct_12_in ?_)
        show am_R K12_beside q 72 [aR 44, aI v1, aI v2, aI ((v1 / 8) + (-1)), aI ((v1 % 8) + 1)] [aI (if ¬ (((v1 % 8) + 1) < 0) ∧ ¬ (7 < ((v1 % 8) + 1)) then 1 else 0)] M
        refine s_ifeqB 42 rfl (fun h34 => ?_) (fun h34 => ?_)
        · rw [if_neg h34] at h
          refine s_push 59 rfl ?_
          exact s_iret 60 rfl h
        · rw [if_pos h34] at h
          refine s_aload 43 rfl rfl ?_
          refine s_getR 51 44 rfl rfl ?_
          refine s_push 45 rfl ?_
          refine s_iload 46 rfl rfl ?_
          refine s_binX (v := 8 * ((v1 / 8) + (-1))) 47 rfl ((((hob.2.1 h1).2.1 h25).2 h33) h34).1 rfl ?_
          refine s_iload 48 rfl rfl ?_
          refine s_binX (v := (8 * ((v1 / 8) + (-1))) + ((v1 % 8) + 1)) 49 rfl ((((hob.2.1 h1).2.1 h25).2 h33) h34).2.1 rfl ?_
          refine s_iald (v := M 51 (((8 * ((v1 / 8) + (-1))) + ((v1 % 8) + 1)).toNat)) 50 rfl rfl ((((hob.2.1 h1).2.1 h25).2 h33) h34).2.2 rfl ?_
          refine s_push 51 rfl ?_
          refine s_ic 52 rfl (fun h35 => ?_) (fun h35 => ?_)
          · rw [if_pos h35] at h
            refine s_push 59 rfl ?_
            exact s_iret 60 rfl h
          · rw [if_neg h35] at h
            refine s_push 53 rfl ?_
            refine s_iload 54 rfl rfl ?_
            refine s_binX (v := 8 * ((v1 / 8) + (-1))) 55 rfl ((((hob.2.1 h1).2.1 h25).2 h33) h34).1 rfl ?_
            refine s_iload 56 rfl rfl ?_
            refine s_binX (v := (8 * ((v1 / 8) + (-1))) + ((v1 % 8) + 1)) 57 rfl ((((hob.2.1 h1).2.1 h25).2 h33) h34).2.1 rfl ?_
            refine s_goto 58 rfl ?_
            exact s_iret 60 rfl h
theorem ct_12_isTwo {q : am_Q} {M : am_M} {v0 : Int} (h : q (aI (if ¬ (v0 < 0) ∧ ¬ (1 < v0) then 1 else 0)) M) : S12_isTwo [aI v0] M q := by
  refine am_S.intro rfl rfl ?_
  refine s_iload 0 rfl rfl ?_
  refine s_i2l 1 rfl ?_
  refine s_push 2 rfl ?_
  refine s_push 3 rfl ?_
  refine s_call 4 rfl rfl rfl rfl rfl (ct_12_in ?_)
  show am_R K12_isTwo q 7 [aI v0] [aI (if ¬ (v0 < 0) ∧ ¬ (1 < v0) then 1 else 0)] M
  exact s_zret 5 rfl (b01 _) h
def f_12_no (v0 : Int) : Int := w64 ((-9223372036854775808) - v0)
theorem ct_12_no {q : am_Q} {M : am_M} {v0 : Int} (h : q (aL (f_12_no v0)) M) : S12_no [aI v0] M q := by
  refine am_S.intro rfl rfl ?_
  unfold f_12_no at h
  refine s_push 0 rfl ?_
  refine s_iload 1 rfl rfl ?_
  refine s_i2l 2 rfl ?_
  refine s_binL 3 rfl ?_
  exact s_lret 4 rfl h
theorem ct_12_isSheet {q : am_Q} {M : am_M} {v0 : Int} (h : q (aI (if ¬ (v0 < 0) ∧ ¬ (3 < v0) then 1 else 0)) M) : S12_isSheet [aI v0] M q := by
  refine am_S.intro rfl rfl ?_
  refine s_iload 0 rfl rfl ?_
  refine s_i2l 1 rfl ?_
  refine s_push 2 rfl ?_
  refine s_push 3 rfl ?_
  refine s_call 4 rfl rfl rfl rfl rfl (ct_12_in ?_)
  show am_R K12_isSheet q 9 [aI v0] [aI (if ¬ (v0 < 0) ∧ ¬ (3 < v0) then 1 else 0)] M
  exact s_zret 5 rfl (b01 _) h
def f_12_cut (v0 v1 : Int) : Int := if v0 = 0 then w8 v1 else if v0 = 1 then w16 v1 else v1
theorem ct_12_cut {q : am_Q} {M : am_M} {v0 : Int} {v1 : Int} (h : q (aI (f_12_cut v0 v1)) M) : S12_cut [aI v0, aI v1] M q := by
  refine am_S.intro rfl rfl ?_
  unfold f_12_cut at h
  refine s_iload 0 rfl rfl ?_
  refine s_ifne 1 rfl (fun h1 => ?_) (fun h1 => ?_)
  · rw [if_neg h1] at h
    refine s_iload 5 rfl rfl ?_
    refine s_push 6 rfl ?_
    refine s_icne 7 rfl (fun h2 => ?_) (fun h2 => ?_)
    · rw [if_neg h2] at h
      refine s_iload 11 rfl rfl ?_
      exact s_iret 12 rfl h
    · rw [if_pos h2] at h
      refine s_iload 8 rfl rfl ?_
      refine s_un 9 rfl ?_
      refine s_goto 10 rfl ?_
      exact s_iret 12 rfl h
  · rw [if_pos h1] at h
    refine s_iload 2 rfl rfl ?_
    refine s_un 3 rfl ?_
    refine s_goto 4 rfl ?_
    exact s_iret 12 rfl h
def f_12_gripAt (m55 : Nat → Int) (m52 : Nat → Int) (v1 : Int) : Int := m55 (((5 * (m52 (v1.toNat))) + (m52 ((v1 + 1).toNat))).toNat)
def ob_12_gripAt (m55 : Nat → Int) (m52 : Nat → Int) (v1 : Int) : Prop := (0 ≤ v1 ∧ v1 < 5) ∧ ((-2147483648 ≤ 5 * (m52 (v1.toNat)) ∧ 5 * (m52 (v1.toNat)) < 2147483648) ∧ ((-2147483648 ≤ v1 + 1 ∧ v1 + 1 < 2147483648) ∧ ((0 ≤ v1 + 1 ∧ v1 + 1 < 5) ∧ ((-2147483648 ≤ (5 * (m52 (v1.toNat))) + (m52 ((v1 + 1).toNat)) ∧ (5 * (m52 (v1.toNat))) + (m52 ((v1 + 1).toNat)) < 2147483648) ∧ (0 ≤ (5 * (m52 (v1.toNat))) + (m52 ((v1 + 1).toNat)) ∧ (5 * (m52 (v1.toNat))) + (m52 ((v1 + 1).toNat)) < 25)))))
theorem ct_12_gripAt {q : am_Q} {M : am_M} {v1 : Int} (hob : ob_12_gripAt (M 55) (M 52) v1) (h : q (aI (f_12_gripAt (M 55) (M 52) v1)) M) : S12_gripAt [aR 44, aI v1] M q := by
  refine am_S.intro rfl rfl ?_
  unfold ob_12_gripAt at hob
  unfold f_12_gripAt at h
  refine s_aload 0 rfl rfl ?_
  refine s_getR 55 1 rfl rfl ?_
  refine s_push 2 rfl ?_
  refine s_aload 3 rfl rfl ?_
  refine s_getR 52 4 rfl rfl ?_
  refine s_iload 5 rfl rfl ?_
  refine s_iald (v := M 52 (v1.toNat)) 6 rfl rfl hob.1 rfl ?_
  refine s_binX (v := 5 * (M 52 (v1.toNat))) 7 rfl hob.2.1 rfl ?_
  refine s_aload 8 rfl rfl ?_
  refine s_getR 52 9 rfl rfl ?_
  refine s_iload 10 rfl rfl ?_
  refine s_push 11 rfl ?_
  refine s_binX (v := v1 + 1) 12 rfl hob.2.2.1 rfl ?_
  refine s_iald (v := M 52 ((v1 + 1).toNat)) 13 rfl rfl hob.2.2.2.1 rfl ?_
  refine s_binX (v := (5 * (M 52 (v1.toNat))) + (M 52 ((v1 + 1).toNat))) 14 rfl hob.2.2.2.2.1 rfl ?_
  refine s_iald (v := M 55 (((5 * (M 52 (v1.toNat))) + (M 52 ((v1 + 1).toNat))).toNat)) 15 rfl rfl hob.2.2.2.2.2 rfl ?_
  exact s_iret 16 rfl h
def f_12_orderOf (m44 : Nat → Int) (m52 : Nat → Int) (v1 : Int) : Int := if m44 9 ≤ v1 then (-1) else m52 (v1.toNat)
def ob_12_orderOf (m44 : Nat → Int) (m52 : Nat → Int) (v1 : Int) : Prop := ¬ (m44 9 ≤ v1) → (0 ≤ v1 ∧ v1 < 5)
theorem ct_12_orderOf {q : am_Q} {M : am_M} {v1 : Int} (hob : ob_12_orderOf (M 44) (M 52) v1) (h : q (aI (f_12_orderOf (M 44) (M 52) v1)) M) : S12_orderOf [aR 44, aI v1] M q := by
  refine am_S.intro rfl rfl ?_
  unfold ob_12_orderOf at hob
  unfold f_12_orderOf at h
  refine s_iload 0 rfl rfl ?_
  refine s_aload 1 rfl rfl ?_
  refine s_getI (v := M 44 9) 2 rfl rfl rfl ?_
  refine s_ic 3 rfl (fun h1 => ?_) (fun h1 => ?_)
  · rw [if_pos h1] at h
    refine s_push 9 rfl ?_
    exact s_iret 10 rfl h
  · rw [if_neg h1] at h
    refine s_aload 4 rfl rfl ?_
    refine s_getR 52 5 rfl rfl ?_
    refine s_iload 6 rfl rfl ?_
    refine s_iald (v := M 52 (v1.toNat)) 7 rfl rfl (hob h1) rfl ?_
    refine s_goto 8 rfl ?_
    exact s_iret 10 rfl h
theorem ct_12_isPerson {q : am_Q} {M : am_M} {v0 : Int} (h : q (aI (if ¬ (v0 < 0) ∧ ¬ (4 < v0) then 1 else 0)) M) : S12_isPerson [aI v0] M q := by
  refine am_S.intro rfl rfl ?_
  refine s_iload 0 rfl rfl ?_
  refine s_i2l 1 rfl ?_
  refine s_push 2 rfl ?_
  refine s_push 3 rfl ?_
  refine s_call 4 rfl rfl rfl rfl rfl (ct_12_in ?_)
  show am_R K12_isPerson q 9 [aI v0] [aI (if ¬ (v0 < 0) ∧ ¬ (4 < v0) then 1 else 0)] M
  exact s_zret 5 rfl (b01 _) h
def f_12_room (v0 : Int) : Int := if v0 = 0 then 71 else if v0 = 1 then 5 else 40
theorem ct_12_room {q : am_Q} {M : am_M} {v0 : Int} (h : q (aI (f_12_room v0)) M) : S12_room [aI v0] M q := by
  refine am_S.intro rfl rfl ?_
  unfold f_12_room at h
  refine s_iload 0 rfl rfl ?_
  refine s_ifne 1 rfl (fun h1 => ?_) (fun h1 => ?_)
  · rw [if_neg h1] at h
    refine s_iload 4 rfl rfl ?_
    refine s_push 5 rfl ?_
    refine s_icne 6 rfl (fun h2 => ?_) (fun h2 => ?_)
    · rw [if_neg h2] at h
      refine s_push 9 rfl ?_
      exact s_iret 10 rfl h
    · rw [if_pos h2] at h
      refine s_push 7 rfl ?_
      refine s_goto 8 rfl ?_
      exact s_iret 10 rfl h
  · rw [if_pos h1] at h
    refine s_push 2 rfl ?_
    refine s_goto 3 rfl ?_
    exact s_iret 10 rfl h
theorem ct_11_sheetOf {q : am_Q} {M : am_M} {v1 : Int} (h1 : 0 ≤ v1 ∧ v1 < 4 → q (aR (35 + v1.toNat)) M) (h2 : ¬ (0 ≤ v1 ∧ v1 < 4) → q aN M) : S11_sheetOf [aR 0, aI v1] M q := by
  refine am_S.intro rfl rfl ?_
  refine s_iload 0 rfl rfl ?_
  refine s_if 1 rfl (fun a1 => ?_) (fun a1 => ?_)
  · refine s_push 10 rfl ?_
    exact s_aret 11 rfl (h2 (by omega))
  · refine s_iload 2 rfl rfl ?_
    refine s_push 3 rfl ?_
    refine s_ic 4 rfl (fun a2 => ?_) (fun a2 => ?_)
    · refine s_push 10 rfl ?_
      exact s_aret 11 rfl (h2 (by omega))
    · refine s_aload 5 rfl rfl ?_
      refine s_getR 34 6 rfl rfl ?_
      refine s_iload 7 rfl rfl ?_
      refine s_aald (b := 35) (N := 4) 8 rfl rfl (by omega) ?_
      refine s_goto 9 rfl ?_
      exact s_aret 11 rfl (h1 (by omega))
theorem ct_11_textOf {q : am_Q} {M : am_M} {v1 : Int} (h1 : 0 ≤ v1 ∧ v1 < 3 → q (aR (1 + 2 * v1.toNat)) M) (h2 : ¬ (0 ≤ v1 ∧ v1 < 3) → q aN M) : S11_textOf [aR 0, aI v1] M q := by
  refine am_S.intro rfl rfl ?_
  refine s_iload 0 rfl rfl ?_
  rcases Classical.em (v1 = 0) with a1 | a1
  · subst a1
    refine s_tsw 1 rfl (tg_eq (m := 28) (by decide) ?_)
    refine s_aload 2 rfl rfl ?_
    refine s_getR 1 3 rfl rfl ?_
    exact s_aret 4 rfl (h1 (by decide))
  · rcases Classical.em (v1 = 1) with a2 | a2
    · subst a2
      refine s_tsw 1 rfl (tg_eq (m := 33) (by decide) ?_)
      refine s_aload 5 rfl rfl ?_
      refine s_getR 3 6 rfl rfl ?_
      exact s_aret 7 rfl (h1 (by decide))
    · rcases Classical.em (v1 = 2) with a3 | a3
      · subst a3
        refine s_tsw 1 rfl (tg_eq (m := 38) (by decide) ?_)
        refine s_aload 8 rfl rfl ?_
        refine s_getR 5 9 rfl rfl ?_
        exact s_aret 10 rfl (h1 (by decide))
      · refine s_tsw 1 rfl (tg_eq (m := 43) (by unfold am_tgt; rw [if_pos (by omega)]) ?_)
        refine s_push 11 rfl ?_
        exact s_aret 12 rfl (h2 (by omega))
