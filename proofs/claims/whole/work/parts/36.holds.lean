/-! holds -/
/-- the chances that joint j holds over the steps from f on -/
def hoA (M : am_M) (j f : Nat) : Nat → Nat
  | 0 => 1
  | k + 1 => hoA M j f k * (256 - sd M (f + k) * (16 - jg M j)).toNat
def p8 : Nat → Nat
  | 0 => 1
  | k + 1 => p8 k * 256
theorem p8s (k : Nat) : p8 (k + 1) = p8 k * 256 := rfl
theorem p8r : ∀ k : Nat, k ≤ 6 → 1 ≤ p8 k ∧ p8 k ≤ 281474976710656 := by
  intro k hk
  have : k = 0 ∨ k = 1 ∨ k = 2 ∨ k = 3 ∨ k = 4 ∨ k = 5 ∨ k = 6 := by omega
  rcases this with e | e | e | e | e | e | e <;> subst e <;> decide
theorem ho_fac {M : am_M} (hG : JG M) {j i : Nat} (hi : i < xN M) : 0 ≤ sd M i * (16 - jg M j) ∧ sd M i * (16 - jg M j) ≤ 9 * 16 := by
  have a := sd_rng hi
  have b := jg_rng hG j
  exact ⟨Int.mul_nonneg (by omega) (by omega), Int.mul_le_mul (by omega) (by omega) (by omega) (by omega)⟩
theorem ho_step {M : am_M} (hG : JG M) {j f : Nat} : ∀ k, k ≤ 6 → f + k ≤ xN M → hoA M j f k ≤ p8 k := by
  intro k
  induction k with
  | zero => intro _ _; unfold hoA p8; omega
  | succ k ih =>
    intro h6 hk
    have := ho_fac hG (j := j) (i := f + k) (by omega)
    unfold hoA
    rw [p8s]
    exact Nat.mul_le_mul (ih (by omega) (by omega)) (by omega)
theorem ho_next {M : am_M} (hG : JG M) {j f k : Nat} (h6 : k < 6) (hk : f + k < xN M) : ((hoA M j f k : Nat) : Int) * (256 - sd M (f + k) * (16 - jg M j)) = (hoA M j f (k + 1) : Nat) ∧ ((p8 k : Nat) : Int) * 256 = (p8 (k + 1) : Nat) ∧ hoA M j f (k + 1) ≤ 281474976710656 ∧ p8 (k + 1) ≤ 281474976710656 := by
  have a := ho_fac hG (j := j) hk
  have b := ho_step hG (j := j) (f := f) (k + 1) (by omega) (by omega)
  have c := p8r (k + 1) (by omega)
  have e : hoA M j f (k + 1) = hoA M j f k * (256 - sd M (f + k) * (16 - jg M j)).toNat := rfl
  refine ⟨?_, ?_, by omega, by omega⟩
  · rw [e, Int.natCast_mul]
    congr 1
    omega
  · rw [p8s, Int.natCast_mul]; rfl
theorem ho_sc {M M' : am_M} (h : sc M M') (j f : Nat) : ∀ k, hoA M' j f k = hoA M j f k := by
  have e1 : ∀ i, sd M' i = sd M i := fun i => by unfold sd; rw [h.be.D, h.be.Q]
  have e2 : ∀ i, jg M' i = jg M i := fun i => by unfold jg; rw [h.be.O, h.1 55 (by unfold keep; decide)]
  intro k
  induction k with
  | zero => rfl
  | succ k ih =>
    have a : hoA M' j f (k + 1) = hoA M' j f k * (256 - sd M' (f + k) * (16 - jg M' j)).toNat := rfl
    have b : hoA M j f (k + 1) = hoA M j f k * (256 - sd M (f + k) * (16 - jg M j)).toNat := rfl
    rw [a, b, ih, e1, e2]
theorem lc_holds {M : am_M} {v1 v2 v3 v4 : Int} (hJ : J M) (r2 : -2147483648 ≤ v2 ∧ v2 < 2147483648) (r3 : -2147483648 ≤ v3 ∧ v3 < 2147483648) : S11_holds [aR 0, aI v1, aI v2, aI v3, aI v4] M (fun r1 M1 => S12_holds [aR 44, aI v1, aI v2, aI v3, aI v4] M1 (fun r2 M2 => eqL r1 r2 ∧ J M2)) := by
  have hC := hJ.1.1
  have hO := hC.2.2.1.2
  have hp := xP_le hC.1
  have hn := xN_le hC.1
  have hG := hJ.2.2.1
  have h20 := hC.2.2.2.2.1
  have bad : ¬ ((0 ≤ v1 ∧ v1 + 1 < xP M) ∧ 0 ≤ v2 ∧ (0 ≤ v3 ∧ v3 ≤ 6) ∧ v2 + v3 ≤ xN M ∧ (v4 = 0 ∨ v4 = 1)) → S12_holds [aR 44, aI v1, aI v2, aI v3, aI v4] M (fun r2 M2 => eqL (aL (f_11_refused (-2))) r2 ∧ J M2) := by
    intro hb
    refine e12_holds (ct_reads hJ.1 (fun M1 hs hR => ?_))
    have hJ1 := hJ.sc hs
    rw [hR.2.1, hR.2.2.2.2.2.1, hs.be.P, hs.be.N]
    refine ⟨by omega, fun _ _ _ => by omega, fun x9 _ => ⟨fun h1 => ⟨fun h2 => absurd hb (by omega), fun _ => ⟨⟨_, rfl, rfl⟩, hJ1⟩⟩, fun _ => ⟨⟨_, rfl, rfl⟩, hJ1⟩⟩⟩
  have hj : f_3_joints (M 15) = ((xP M - 1 : Nat) : Int) := by
    unfold f_3_joints; rw [hO.1]; split <;> omega
  have ho : ob_3_joints (M 15) := by unfold ob_3_joints; rw [hO.1]; omega
  refine e11_holds ⟨fun h1 => bad (by omega), fun h1 => ⟨ho, fun h2 => bad (by omega), fun h2 => ⟨fun h3 => bad (by omega), fun h3 => ⟨fun h4 => bad (by omega), fun h4 => ⟨fun h5 => bad (by omega), fun h5 => ⟨by omega, fun h6 => bad (by omega), fun h6 => ⟨fun h7 => ?_, fun h7 => bad (by omega)⟩⟩⟩⟩⟩⟩⟩
  obtain ⟨j, hj'⟩ : ∃ j : Nat, v1 = j := ⟨v1.toNat, by omega⟩
  obtain ⟨f, hf'⟩ : ∃ f : Nat, v2 = f := ⟨v2.toNat, by omega⟩
  obtain ⟨n, hn'⟩ : ∃ n : Nat, v3 = n := ⟨v3.toNat, by omega⟩
  subst hj'; subst hf'; subst hn'
  have hgr := jg_rng hG j
  have ref : ∀ v : Int, v = lt_ (hoA M j f n) (p8 n) v4 → S12_holds [aR 44, aI (j : Int), aI (f : Int), aI (n : Int), aI v4] M (fun r2 M2 => eqL (aL v) r2 ∧ J M2) := by
    intro v hv
    refine e12_holds (ct_reads hJ.1 (fun M1 hs hR => ?_))
    have hJ1 := hJ.sc hs
    have eN := hs.be.N
    have eP := hs.be.P
    have hG1 := hJ1.2.2.1
    rw [hR.2.1, hR.2.2.2.2.2.1, eP, eN]
    refine ⟨by omega, fun _ _ _ => by omega, fun x9 _ => ⟨fun _ => ⟨fun _ => ?_, fun hc => absurd hc (by omega)⟩, fun hc => absurd hc (by omega)⟩⟩
    have gj := gripJ_12 hR (i := j) (by omega) (by omega)
    have hgr1 := jg_rng hG1 j
    have loop : ∀ (k i : Nat), i + k = n → am_R K12_holdsOf (fun r13 M12 => ∃ x14 : Int, r13 = aL x14 ∧ eqL (aL v) (aL x14) ∧ J M12) 9 [aR 44, aI (j : Int), aI (f : Int), aI (n : Int), aI v4, aL (hoA M1 j f i : Nat), aJ, aL (p8 i : Nat), aJ, aI ((f + i : Nat) : Int)] [] M1 := by
      intro k
      induction k with
      | zero =>
        intro i hi
        have ei : i = n := by omega
        subst ei
        have p := p8r i (by omega)
        refine g12_holdsOf_9 ⟨by omega, fun _ => ct_part (by omega) ⟨_, rfl, _, rfl, ⟨_, rfl, ?_⟩, hJ1⟩, fun hc => absurd hc (by omega)⟩
        rw [hv, ho_sc hs]
      | succ k ih =>
        intro i hi
        have nx := ho_next hG1 (j := j) (f := f) (k := i) (by omega) (by omega)
        have fc := ho_fac hG1 (j := j) (i := f + i) (by omega)
        have hr := sd_rng (M := M1) (i := f + i) (by omega)
        have e1 : (((f + i : Nat) : Int) + 1).toNat = f + i + 1 := rfl
        have e51 : M1 51 (xQ M1 (f + i + 1)).toNat = sd M1 (f + i) := by
          rw [hR.1 _ (by omega)]
          have : xD M1 (xQ M1 (f + i + 1)).toNat = sd M1 (f + i) := rfl
          unfold fm
          rw [this, if_neg (by omega)]
        refine g12_holdsOf_9 ⟨by omega, fun hc => absurd hc (by omega), fun _ => ?_⟩
        rw [e1, hR.2.2.2.2.2.2 (f + i + 1) (by omega), e51, gj.1, nx.1, nx.2.1]
        refine ⟨by omega, by omega, by omega, gj.2, by omega, by omega, by omega, by omega, fun x6 hx6 => ⟨by omega, fun x7 hx7 => ?_⟩⟩
        rw [hx6, hx7]
        exact ih (i + 1) (by omega)
    exact e12_holdsOf (loop n 0 (by omega))
  rw [gripJ_11 hJ (by omega)]
  refine ⟨by unfold ob_3_gripOfJoint; omega, by omega, fun x8 hx8 => ?_⟩
  subst hx8
  have loop : ∀ (k i : Nat), i + k = n → am_R K11_holds (fun r1 M1 => S12_holds [aR 44, aI (j : Int), aI (f : Int), aI (n : Int), aI v4] M1 (fun r2 M2 => eqL r1 r2 ∧ J M2)) 78 [aR 0, aJ, aI (f : Int), aI (n : Int), aI v4, aL (hoA M j f i : Nat), aJ, aL (p8 i : Nat), aJ, aI (16 - jg M j), aI (i : Int)] [] M := by
    intro k
    induction k with
    | zero =>
      intro i hi
      have ei : i = n := by omega
      subst ei
      have p := p8r i (by omega)
      exact g11_holds_78 ⟨fun _ => ct_lowest (by omega) (by omega) ⟨_, rfl, ref _ rfl⟩, fun hc => absurd hc (by omega)⟩
    | succ k ih =>
      intro i hi
      have nx := ho_next hG (j := j) (f := f) (k := i) (by omega) (by omega)
      have fc := ho_fac hG (j := j) (i := f + i) (by omega)
      have ed : f_11_densityOfStep (M 8) (M 20) (M 22) ((f : Int) + (i : Int)) = sd M (f + i) := dstep hC (i := f + i) (by omega)
      refine g11_holds_78 ⟨fun hc => absurd hc (by omega), fun _ => ?_⟩
      rw [ed, nx.1, nx.2.1]
      refine ⟨by omega, by unfold ob_11_densityOfStep; omega, by omega, by omega, by omega, fun x6 hx6 => ⟨by omega, fun x7 hx7 => ⟨by omega, ?_⟩⟩⟩
      rw [hx6, hx7]
      exact ih (i + 1) (by omega)
  exact loop n 0 (by omega)
