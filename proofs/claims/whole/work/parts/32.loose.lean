/-! loose -/
def jg (M : am_M) (i : Nat) : Int := M 55 (5 * (xO M i).toNat + (xO M (i + 1)).toNat)
def jls (M : am_M) : Nat → Int
  | 0 => 0
  | k + 1 => jls M k + (16 - jg M k)
theorem xO_rng (M : am_M) (i : Nat) : 0 ≤ xO M i ∧ xO M i < 5 := vO_rng _ _ i
theorem jg_rng {M : am_M} (hG : JG M) (i : Nat) : 0 ≤ jg M i ∧ jg M i ≤ 16 := by
  have a := xO_rng M i
  have b := xO_rng M (i + 1)
  exact (hG _ (by omega)).2
theorem jls_rng {M : am_M} (hG : JG M) : ∀ k, 0 ≤ jls M k ∧ jls M k ≤ 16 * k := by
  intro k
  induction k with
  | zero => unfold jls; omega
  | succ k ih => have := jg_rng hG k; unfold jls; omega
theorem gripJ_11 {M : am_M} (hJ : J M) {i : Nat} (hi : i + 1 < xP M) : f_3_gripOfJoint (M 16) (M 15) (M 19) (i : Int) = jg M i := by
  have hO := hJ.1.1.2.2.1.2
  have hp := xP_le hJ.1.1.1
  have a := xO_rng M i
  have b := xO_rng M (i + 1)
  have w : ∀ k : Nat, k < xP M → f_3_whoGoes (M 15) (M 19) (k : Int) = xO M k := by
    intro k hk
    unfold f_3_whoGoes
    rw [hO.1, if_neg (by omega), if_neg (by omega), if_neg (by omega)]
    exact hO.2 k hk
  unfold f_3_gripOfJoint
  have e : ((i : Int) + 1) = ((i + 1 : Nat) : Int) := rfl
  rw [e, w i (by omega), w (i + 1) hi]
  unfold f_3_gripOf
  rw [if_neg (by omega), if_neg (by omega), if_neg (by omega), if_neg (by omega)]
  have e2 : (xO M i * 5 + xO M (i + 1)).toNat = 5 * (xO M i).toNat + (xO M (i + 1)).toNat := by omega
  rw [e2]
  exact (hJ.2.2.1 _ (by omega)).1
theorem gripJ_12 {M : am_M} (hR : RD M) {i : Nat} (hi : i + 1 < xP M) (hp : xP M ≤ 5) : f_12_gripAt (M 55) (M 52) (i : Int) = jg M i ∧ ob_12_gripAt (M 55) (M 52) (i : Int) := by
  have a := xO_rng M i
  have b := xO_rng M (i + 1)
  have e1 := hR.2.2.1 i (by omega)
  have e2 := hR.2.2.1 (i + 1) hi
  have ei : (i : Int).toNat = i := rfl
  have ei1 : ((i : Int) + 1).toNat = i + 1 := rfl
  unfold f_12_gripAt ob_12_gripAt
  rw [ei, ei1, e1, e2]
  have e3 : (5 * xO M i + xO M (i + 1)).toNat = 5 * (xO M i).toNat + (xO M (i + 1)).toNat := by omega
  refine ⟨?_, by omega⟩
  rw [e3]
  rfl
theorem ct_loose11 {q : am_Q} {M : am_M} (hJ : J M) (h : q (aI (jls M (xP M - 1))) M) : S3_looseness [aR 15] M q := by
  have hO := hJ.1.1.2.2.1.2
  have hp := xP_le hJ.1.1.1
  have hj : f_3_joints (M 15) = ((xP M - 1 : Nat) : Int) := by
    unfold f_3_joints; rw [hO.1]; split <;> omega
  have ho : ob_3_joints (M 15) := by unfold ob_3_joints; rw [hO.1]; omega
  have loop : ∀ (k i : Nat), i + k = xP M - 1 → am_R K3_looseness q 4 [aR 15, aI (jls M i), aI (i : Int)] [] M := by
    intro k
    induction k with
    | zero =>
      intro i hi
      have : i = xP M - 1 := by omega
      rw [← this] at h
      exact g3_looseness_4 ⟨ho, fun _ => h, fun hc => absurd hc (by omega)⟩
    | succ k ih =>
      intro i hi
      have hr := jls_rng hJ.2.2.1 i
      have hg := jg_rng hJ.2.2.1 i
      refine g3_looseness_4 ⟨ho, fun hc => absurd hc (by omega), fun _ => ?_⟩
      rw [gripJ_11 hJ (by omega)]
      refine ⟨by unfold ob_3_gripOfJoint; omega, by omega, by omega, fun x2 hx2 => ⟨by omega, ?_⟩⟩
      rw [hx2]
      exact ih (i + 1) (by omega)
  exact e3_looseness (loop (xP M - 1) 0 (by omega))
theorem ct_loose12 {q : am_Q} {M : am_M} (hG : JG M) (hB : XB M) (hR : RD M) (h : q (aI (jls M (xP M - 1))) M) : S12_looseNow [aR 44] M q := by
  have hp := xP_le hB
  have loop : ∀ (k i : Nat), i + k = xP M - 1 → am_R K12_looseNow q 4 [aR 44, aI (jls M i), aI (i : Int)] [] M := by
    intro k
    induction k with
    | zero =>
      intro i hi
      have : i = xP M - 1 := by omega
      rw [← this] at h
      refine g12_looseNow_4 ⟨by omega, ?_⟩
      rw [hR.2.1]
      exact ⟨fun _ => h, fun hc => absurd hc (by omega)⟩
    | succ k ih =>
      intro i hi
      have hr := jls_rng hG i
      have hg := jg_rng hG i
      have gj := gripJ_12 hR (i := i) (by omega) hp
      refine g12_looseNow_4 ⟨by omega, ?_⟩
      rw [hR.2.1, gj.1]
      refine ⟨fun hc => absurd hc (by omega), fun _ => ⟨gj.2, by omega, by omega, fun x2 hx2 => ?_⟩⟩
      rw [hx2]
      exact ih (i + 1) (by omega)
  exact e12_looseNow (loop (xP M - 1) 0 (by omega))
theorem sc.be {M M' : am_M} (h : sc M M') : xbe M M' := by
  have k := h.1
  refine ⟨k _ (by unfold keep; decide), k _ (by unfold keep; decide), k _ (by unfold keep; decide), ?_, ?_, ?_, ?_, ?_, ?_, ?_⟩
  all_goals (rw [k _ (by unfold keep; decide)])
theorem sc.ls {M M' : am_M} (h : sc M M') : jls M' = jls M := by
  have e : jg M' = jg M := by
    funext i; unfold jg; rw [h.be.O, h.1 55 (by unfold keep; decide)]
  funext k
  induction k with
  | zero => rfl
  | succ k ih =>
    have a : jls M' (k + 1) = jls M' k + (16 - jg M' k) := rfl
    have b : jls M (k + 1) = jls M k + (16 - jg M k) := rfl
    rw [a, b, ih, e]
theorem lc_loose {M : am_M} (hJ : J M) : S11_loose [aR 0] M (fun r1 M1 => S12_loose [aR 44] M1 (fun r2 M2 => eqI r1 r2 ∧ J M2)) := by
  refine e11_loose (ct_loose11 hJ ⟨_, rfl, e12_loose (ct_reads hJ.1 (fun M1 hs hR => ?_))⟩)
  have hJ1 := hJ.sc hs
  refine ct_loose12 hJ1.2.2.1 hJ1.1.1.1 hR ⟨_, rfl, ⟨_, rfl, ?_⟩, hJ1⟩
  rw [hs.ls, hs.be.P]
