/-! risk, counts -/
/-- the density of the place behind step i -/
def sd (M : am_M) (i : Nat) : Int := xD M (xQ M (i + 1)).toNat
def sds (M : am_M) : Nat → Int
  | 0 => 0
  | k + 1 => sds M k + sd M k
theorem xN_le {M : am_M} (hB : XB M) : xN M ≤ 40 := by
  have h1 := (wdn_le (d := xD M) (l := xL M) (s := M 20 2) (xW M) 0).2
  have h2 := vW_le (M 6) (xn2 M)
  have h3 := hB.2.2.2.1
  unfold xN
  have h4 : xW M ≤ xn2 M := h2
  unfold xn2 at *; omega
theorem sd_rng {M : am_M} {i : Nat} (hi : i < xN M) : 0 ≤ xQ M (i + 1) ∧ xQ M (i + 1) < 64 ∧ 0 ≤ sd M i ∧ sd M i ≤ 9 := by
  have h1 := wpos_rng (d := xD M) (l := xL M) (s := M 20 2) (k := xW M) (j := i + 1) (by omega) hi
  have h2 := dn_rng (M 2) (xn0 M) (xQ M (i + 1)).toNat
  have h3 : ¬ xD M (xQ M (i + 1)).toNat = -1 := h1.2.2
  have h4 : -1 ≤ xD M (xQ M (i + 1)).toNat ∧ xD M (xQ M (i + 1)).toNat ≤ 9 := h2
  have h5 : 0 ≤ xQ M (i + 1) ∧ xQ M (i + 1) < 64 := ⟨h1.1, h1.2.1⟩
  unfold sd
  omega
theorem sds_rng {M : am_M} : ∀ k, k ≤ xN M → 0 ≤ sds M k ∧ sds M k ≤ 9 * k := by
  intro k
  induction k with
  | zero => intro _; unfold sds; omega
  | succ k ih => intro hk; have := sd_rng (M := M) (i := k) (by omega); have := ih (by omega); unfold sds; omega
theorem dstep {M : am_M} (hC : XC M) {i : Nat} (hi : i < xN M) : f_11_densityOfStep (M 8) (M 20) (M 22) (i : Int) = sd M i := by
  have hr := sd_rng hi
  have hn := xN_le hC.1
  obtain ⟨hB, hF, hO, hW, hN⟩ := hC
  have e : ((i : Int) + 1) = ((i + 1 : Nat) : Int) := rfl
  unfold f_11_densityOfStep
  have e1 : f_10_placeBehind (M 20) (M 22) ((i : Int) + 1) = xQ M (i + 1) := by
    unfold f_10_placeBehind
    rw [hN.1, if_neg (by omega), if_neg (by omega), if_neg (by omega), e]
    exact hN.2 (i + 1) (by omega)
  rw [e1]
  unfold f_2_densityOf
  rw [if_neg (by omega), if_neg (by omega), hF.2.1]
  have : xD M (xQ M (i + 1)).toNat = sd M i := rfl
  rw [this, if_neg (by omega)]
theorem sc.sd {M M' : am_M} (h : sc M M') : sds M' = sds M := by
  funext k
  induction k with
  | zero => rfl
  | succ k ih =>
    have a : sds M' (k + 1) = sds M' k + xD M' (xQ M' (k + 1)).toNat := rfl
    have b : sds M (k + 1) = sds M k + xD M (xQ M (k + 1)).toNat := rfl
    rw [a, b, ih, h.be.D, h.be.Q]
theorem lc_risk {M : am_M} (hJ : J M) : S11_risk [aR 0] M (fun r1 M1 => S12_risk [aR 44] M1 (fun r2 M2 => eqI r1 r2 ∧ J M2)) := by
  have hC := hJ.1.1
  have hn := xN_le hC.1
  have hp := xP_le hC.1
  have l2 := jls_rng hJ.2.2.1 (xP M - 1)
  have s2 := sds_rng (M := M) (xN M) (Nat.le_refl _)
  have hm : 0 ≤ sds M (xN M) * jls M (xP M - 1) ∧ sds M (xN M) * jls M (xP M - 1) ≤ 360 * 80 := ⟨Int.mul_nonneg s2.1 l2.1, Int.mul_le_mul (by omega) (by omega) l2.1 (by omega)⟩
  have ref : ∀ v : Int, v = sds M (xN M) * jls M (xP M - 1) → S12_risk [aR 44] M (fun r2 M2 => eqI (aI v) r2 ∧ J M2) := by
    intro v hv
    refine e12_risk (ct_reads hJ.1 (fun M1 hs hR => ?_))
    have hJ1 := hJ.sc hs
    have eN := hs.be.N
    have eP := hs.be.P
    have eS := hs.sd
    have eL := hs.ls
    have loop : ∀ (k i : Nat), i + k = xN M1 → am_R K12_riskNow (fun r6 M5 => ∃ x7 : Int, r6 = aI x7 ∧ eqI (aI v) (aI x7) ∧ J M5) 4 [aR 44, aI (sds M1 i), aI ((i + 1 : Nat) : Int)] [] M1 := by
      intro k
      induction k with
      | zero =>
        intro i hi
        refine g12_riskNow_4 ?_
        rw [hR.2.2.2.2.2.1]
        refine ⟨fun _ => ct_loose12 hJ1.2.2.1 hJ1.1.1.1 hR ⟨_, rfl, ?_⟩, fun hc => absurd hc (by omega)⟩
        have e : i = xN M := by omega
        rw [eS, eL, eP, e]
        exact ⟨by omega, _, rfl, ⟨_, rfl, by rw [hv]⟩, hJ1⟩
      | succ k ih =>
        intro i hi
        have hr := sd_rng (M := M1) (i := i) (by omega)
        have hs2 := sds_rng (M := M1) i (by omega)
        have ei : ((i + 1 : Nat) : Int).toNat = i + 1 := rfl
        refine g12_riskNow_4 ?_
        rw [hR.2.2.2.2.2.1, ei, hR.2.2.2.2.2.2 (i + 1) (by omega)]
        have e51 : M1 51 (xQ M1 (i + 1)).toNat = sd M1 i := by
          rw [hR.1 _ (by omega)]
          have : xD M1 (xQ M1 (i + 1)).toNat = sd M1 i := rfl
          unfold fm
          rw [this, if_neg (by omega)]
        rw [e51]
        refine ⟨fun hc => absurd hc (by omega), fun _ => ⟨by omega, by omega, by omega, fun x6 hx6 => ⟨by omega, ?_⟩⟩⟩
        rw [hx6]
        exact ih (i + 1) (by omega)
    exact e12_riskNow (loop (xN M1) 0 (by omega))
  have loop : ∀ (k i : Nat), i + k = xN M → am_R K11_risk (fun r1 M1 => S12_risk [aR 44] M1 (fun r2 M2 => eqI r1 r2 ∧ J M2)) 4 [aR 0, aI (sds M i), aI (i : Int)] [] M := by
    intro k
    induction k with
    | zero =>
      intro i hi
      have e : i = xN M := by omega
      refine g11_risk_4 ?_
      rw [hC.2.2.2.2.1]
      refine ⟨fun _ => ct_loose11 hJ ⟨_, rfl, ?_⟩, fun hc => absurd hc (by omega)⟩
      rw [e]
      exact ⟨by omega, ref _ rfl⟩
    | succ k ih =>
      intro i hi
      have hr := sd_rng (M := M) (i := i) (by omega)
      have hs2 := sds_rng (M := M) i (by omega)
      refine g11_risk_4 ?_
      rw [hC.2.2.2.2.1, dstep hC (by omega)]
      refine ⟨fun hc => absurd hc (by omega), fun _ => ⟨by unfold ob_11_densityOfStep; omega, by omega, fun x6 hx6 => ⟨by omega, ?_⟩⟩⟩
      rw [hx6]
      exact ih (i + 1) (by omega)
  exact e11_risk (loop (xN M) 0 (by omega))
