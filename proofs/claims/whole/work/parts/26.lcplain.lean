/-! sheets, and the plain answers -/
theorem J.fd {M : am_M} {x : Int} (hJ : J M) : J (am_up (am_up M 0 16 x) 44 4 x) := by
  obtain ⟨hT, hS, hG, hH, hP, hL, hE, hF⟩ := id hJ
  have f0 : (am_up (am_up M 0 16 x) 44 4 x) 0 = am_set (M 0) 16 x := by rw [up_ne (by decide), up_eq]
  have f44 : (am_up (am_up M 0 16 x) 44 4 x) 44 = am_set (M 44) 4 x := by rw [up_eq, up_ne (by decide)]
  have k2 : ∀ o, ¬ o = 0 → ¬ o = 44 → (am_up (am_up M 0 16 x) 44 4 x) o = M o := by intro o c d; rw [up_ne d, up_ne c]
  generalize am_up (am_up M 0 16 x) 44 4 x = M3 at *
  refine ⟨hT.congr (fun o ho => k2 o (by omega) (by omega)) (by rw [k2 _ (by omega) (by omega)]), hS.congr ?_ ?_ ?_ ?_, hG.congr ?_ ?_, hH.congr ?_ ?_, hP.congr ?_ ?_, hL.congr ?_ ?_ ?_ ?_ ?_, hE.congr (fun s hs => ⟨?_, ?_⟩) ?_ ?_ ?_, ?_⟩
  all_goals try (rw [k2 _ (by omega) (by omega)])
  · rw [f0, set_ne (by decide)]
  · rw [f0, set_ne (by decide)]
  · rw [f44, set_ne (by decide)]
  · unfold JF; rw [f0, f44, set_eq, set_eq, k2 31 (by omega) (by omega)]; exact ⟨rfl, hF.2⟩
theorem J.she {M M' : am_M} (hJ : J M) (hE' : JE M') (k2 : ∀ o, ¬ (35 ≤ o ∧ o ≤ 42) → ¬ o = 45 → ¬ o = 46 → ¬ o = 47 → ¬ o = 48 → M' o = M o) : J M' := by
  obtain ⟨hT, hS, hG, hH, hP, hL, hE, hF⟩ := id hJ
  refine ⟨hT.congr (fun o ho => k2 o (by omega) (by omega) (by omega) (by omega) (by omega)) (by rw [k2 _ (by omega) (by omega) (by omega) (by omega) (by omega)]), hS.congr ?_ ?_ ?_ ?_, hG.congr ?_ ?_, hH.congr ?_ ?_, hP.congr ?_ ?_, hL.congr ?_ ?_ ?_ ?_ ?_, hE', hF.congr ?_ ?_ ?_⟩
  all_goals (rw [k2 _ (by omega) (by omega) (by omega) (by omega) (by omega)])
theorem sxo {v : Int} (h : 0 ≤ v ∧ v < 4) : sx (35 + v.toNat) := by unfold sx; omega
theorem lc_dense {M : am_M} {v1 : Int} (hJ : J M) : S11_dense [aR 0, aI v1] M (fun r1 M1 => S12_dense [aR 44, aI v1] M1 (fun r2 M2 => eqI r1 r2 ∧ J M2)) := by
  have hF := hJ.1.1.2.1
  have hD : ∀ p, -1 ≤ xD M p ∧ xD M p ≤ 9 := fun p => dn_rng _ _ p
  refine ct_11_dense (e12_dense (ct_reads hJ.1 (fun M1 hs hR => ⟨fun h1 => by omega, fun x6 hx6 => ⟨⟨_, rfl, ?_⟩, hJ.sc hs⟩⟩)))
  have e : xD M1 = xD M := by unfold xD xn0; rw [hs.1 1 (by unfold keep; decide), hs.1 2 (by unfold keep; decide)]
  have h51 := hR.1
  rw [e] at h51
  rw [hx6]
  unfold f_11_dense f_2_densityOf
  rw [hF.2.1]
  congr 1
  by_cases h1 : 0 ≤ v1 ∧ v1 < 64
  · have := h51 v1.toNat (by omega)
    have hd := hD v1.toNat
    rw [this]
    unfold fm
    generalize xD M v1.toNat = d at *
    by_cases h2 : d = -1
    · rw [if_pos h2, if_neg (by omega), if_neg (by omega)]
    · rw [if_neg h2, if_pos (by omega), if_pos (by omega), if_neg (by omega), if_neg (by omega), if_neg h2]
  · rw [if_neg (by omega), if_neg (by omega)]
theorem lc_judged {M : am_M} (hJ : J M) : S11_judged [aR 0] M (fun r1 M1 => S12_judged [aR 44] M1 (fun r2 M2 => eqI r1 r2 ∧ J M2)) := by
  have hC := hJ.1.1
  refine ct_11_judged (e12_judged (ct_reads hJ.1 (fun M1 hs hR x6 hx6 => ⟨⟨_, rfl, ?_⟩, hJ.sc hs⟩)))
  have hC1 := (hJ.sc hs).1.1
  have e20 := hs.1 20 (by unfold keep; decide)
  have a := hC1.2.2.2.1.2.1
  have b := hC1.2.2.2.2.1
  have c := hR.2.2.2.1
  have d := hR.2.2.2.2.2.1
  have hle : xN M1 ≤ xW M1 := by have := (wdn_le (d := xD M1) (l := xL M1) (s := M1 20 2) (xW M1) 0).2; unfold xN; omega
  rw [e20] at a b
  rw [hx6, c, d]
  unfold f_11_judged
  rw [a, b]
  congr 1
  by_cases h : (xN M1 : Int) = xW M1
  · rw [if_pos h, if_pos (by omega)]
  · rw [if_neg h, if_neg (by omega)]
theorem lc_at {M : am_M} {v1 : Int} (hJ : J M) : S11_at [aR 0, aI v1] M (fun r1 M1 => S12_at [aR 44, aI v1] M1 (fun r2 M2 => eqI r1 r2 ∧ J M2)) := by
  refine ct_11_at (e12_at (ct_reads hJ.1 (fun M1 hs hR => ?_)))
  have hJ1 := hJ.sc hs
  have hC1 := hJ1.1.1
  have e20 := hs.1 20 (by unfold keep; decide)
  have e22 := hs.1 22 (by unfold keep; decide)
  have e8 := hs.1 8 (by unfold keep; decide)
  have es := hJ1.1.2.2.2.2.2.2.2.2
  have hB := hC1.1
  have hst := hB.2.2.2.2.2.2.2
  have a := hC1.2.2.2.2
  have h8 := hC1.2.1.2.1
  have d := hR.2.2.2.2.2
  have hw : xW M1 ≤ 40 := by have := vW_le (M1 6) (xn2 M1); have h2 := hB.2.2.2.1; unfold xW; unfold xn2 at *; omega
  have hle : xN M1 ≤ xW M1 := by have := (wdn_le (d := xD M1) (l := xL M1) (s := M1 20 2) (xW M1) 0).2; unfold xN; omega
  rw [d.1, ← es]
  refine ⟨fun h1 _ => by omega, fun x7 hx7 => ⟨⟨_, rfl, ?_⟩, hJ1⟩⟩
  rw [hx7, ← e20, ← e22, ← e8, h8]
  have h51 := hR.1 (M1 20 2).toNat (by omega)
  have hd := dn_rng (M1 2) (xn0 M1) (M1 20 2).toNat
  have hd' : dn (M1 2) (xn0 M1) = xD M1 := rfl
  rw [hd'] at hd
  rw [h51]
  unfold f_11_at f_10_placeBehind
  rw [a.1]
  congr 1
  by_cases h1 : 0 ≤ v1 ∧ v1 ≤ xN M1
  · rw [a.2 v1.toNat (by omega), d.2 v1.toNat (by omega)]
    unfold fm
    generalize xD M1 (M1 20 2).toNat = dd at *
    by_cases h2 : dd = -1
    · rw [if_pos h2]
      (repeat' split) <;> omega
    · rw [if_neg h2]
      (repeat' split) <;> omega
  · rw [if_neg (by omega)]
    by_cases h3 : v1 < 0
    · rw [if_pos h3]
    · rw [if_neg h3, if_neg (by omega)]
theorem xP_le {M : am_M} (hB : XB M) : xP M ≤ 5 := by
  have := vP_le (M 4) (xn1 M)
  have h2 := hB.2.2.1
  unfold xP; unfold xn1 at *; omega
theorem lc_order {M : am_M} {v1 : Int} (hJ : J M) : S11_order [aR 0, aI v1] M (fun r1 M1 => S12_order [aR 44, aI v1] M1 (fun r2 M2 => eqI r1 r2 ∧ J M2)) := by
  refine ct_11_order (e12_order (ct_reads hJ.1 (fun M1 hs hR => ?_)))
  have hJ1 := hJ.sc hs
  have hC1 := hJ1.1.1
  have e15 := hs.1 15 (by unfold keep; decide)
  have e19 := hs.1 19 (by unfold keep; decide)
  have hp := xP_le hC1.1
  have a := hC1.2.2.1.2
  have d9 := hR.2.1
  have d52 := hR.2.2.1
  refine ⟨fun h1 => ?_, fun x6 hx6 => ⟨⟨_, rfl, ?_⟩, hJ1⟩⟩
  · unfold ob_12_orderOf; omega
  · rw [hx6, ← e15, ← e19]
    unfold f_11_order f_3_whoGoes f_12_orderOf
    rw [a.1, d9]
    congr 1
    by_cases h2 : 0 ≤ v1 ∧ v1 < xP M1
    · rw [a.2 v1.toNat (by omega), d52 v1.toNat (by omega)]
      (repeat' split) <;> omega
    · (repeat' split) <;> omega
theorem lc_count {M : am_M} {v1 : Int} (hJ : J M) : S11_count [aR 0, aI v1] M (fun r1 M1 => S12_count [aR 44, aI v1] M1 (fun r2 M2 => eqI r1 r2 ∧ J M2)) := by
  refine ct_11_count (e12_count (ct_reads hJ.1 (fun M1 hs hR => ?_)))
  have hJ1 := hJ.sc hs
  obtain ⟨hC1, -, s0, s1, s2, -⟩ := hJ1.1
  have hD := fun p => dn_rng (M1 2) (xn0 M1) p
  have hd' : dn (M1 2) (xn0 M1) = xD M1 := rfl
  rw [hd'] at hD
  have k : ∀ o, keep o → M1 o = M o := hs.1
  rw [← k 7 (by unfold keep; decide), ← k 15 (by unfold keep; decide), ← k 20 (by unfold keep; decide), ← k 1 (by unfold keep; decide), ← k 3 (by unfold keep; decide), ← k 5 (by unfold keep; decide), ← k 27 (by unfold keep; decide), ← k 0 (by unfold keep; decide)]
  unfold f_11_count
  refine ⟨fun h => ?_, fun h0 => ⟨fun h => ?_, fun h1 => ⟨fun h => ?_, fun h2 => ⟨fun h => ?_, fun h3 => ⟨fun h => ?_, fun h4 => ⟨fun h => ?_, fun h5 => ⟨fun h => ?_, fun h6 => ⟨fun h => ?_, fun h7 => ⟨fun h => ?_, fun h8 => ?_⟩⟩⟩⟩⟩⟩⟩⟩⟩
  · have loop : ∀ (n i : Nat), i + n = 64 → am_R K12_count (fun r2 M2 => eqI (aI (M1 7 2)) r2 ∧ J M2) 58 [aR 44, aJ, aI (cntP (xD M1) i), aI (i : Int)] [] M1 := by
      intro n
      induction n with
      | zero =>
        intro i hi
        refine g12_count_58 ⟨fun _ => ⟨⟨_, rfl, ?_⟩, hJ1⟩, fun hc => absurd hc (by omega)⟩
        have : i = 64 := by omega
        rw [this, hC1.2.1.2.2.1]
      | succ n ih =>
        intro i hi
        have hc := cntP_le (xD M1) i
        have e : cntP (xD M1) (i + 1) = cntP (xD M1) i + if xD M1 i = -1 then 0 else 1 := rfl
        refine g12_count_58 ⟨fun hc => absurd hc (by omega), fun _ => ⟨by omega, fun x3 hx3 => ?_⟩⟩
        have hi' : (i : Int).toNat = i := rfl
        rw [hi', hR.1 i (by omega)] at hx3
        have hd := hD i
        have e3 : x3 = if xD M1 i = -1 then 0 else 1 := by
          rw [hx3]; unfold fm
          by_cases h2 : xD M1 i = -1
          · rw [if_pos h2, if_pos h2, if_neg (by omega)]
          · rw [if_neg h2, if_neg h2, if_pos (by omega)]
        have r3 : 0 ≤ x3 ∧ x3 ≤ 1 := by rw [e3]; split <;> omega
        refine ⟨by omega, fun x4 hx4 => ⟨by omega, ?_⟩⟩
        have := ih (i + 1) (by omega)
        rw [e, ← e3, ← hx4] at this
        exact this
    rw [if_pos h]
    exact loop 64 0 rfl
  · subst h; exact ⟨⟨_, rfl, congrArg aI (hR.2.1.trans hC1.2.2.1.2.1.symm)⟩, hJ1⟩
  · subst h; exact ⟨⟨_, rfl, congrArg aI (hR.2.2.2.1.trans hC1.2.2.2.1.2.1.symm)⟩, hJ1⟩
  · subst h; exact ⟨⟨_, rfl, congrArg aI (hR.2.2.2.2.2.1.trans hC1.2.2.2.2.1.symm)⟩, hJ1⟩
  · subst h; exact ⟨by omega, by omega, ⟨_, rfl, congrArg aI s0.symm⟩, hJ1⟩
  · subst h; exact ⟨by omega, by omega, ⟨_, rfl, congrArg aI s1.symm⟩, hJ1⟩
  · subst h; exact ⟨by omega, by omega, ⟨_, rfl, congrArg aI s2.symm⟩, hJ1⟩
  · subst h; exact ⟨⟨_, rfl, congrArg aI hJ1.2.2.2.2.2.1.1.symm⟩, hJ1⟩
  · subst h
    have := hJ1.2.2.2.2.2.2.2
    unfold JF at this
    exact ⟨⟨_, rfl, congrArg aI this.1.symm⟩, hJ1⟩
  · rw [if_neg h0, if_neg h1, if_neg h2, if_neg h3, if_neg h4, if_neg h5, if_neg h6, if_neg h7, if_neg h8]
    exact ⟨⟨_, rfl, rfl⟩, hJ1⟩
