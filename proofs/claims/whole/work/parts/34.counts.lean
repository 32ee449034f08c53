/-! counts -/
theorem lc_counts {M : am_M} {v1 v2 v3 : Int} (hJ : J M) : S11_counts [aR 0, aI v1, aI v2, aI v3] M (fun r1 M1 => S12_counts [aR 44, aI v1, aI v2, aI v3] M1 (fun r2 M2 => eqI r1 r2 ∧ J M2)) := by
  have bad : ¬ ((1 ≤ v1 ∧ v1 ≤ 99) ∧ (0 ≤ v2 ∧ v2 ≤ 99) ∧ (0 ≤ v3 ∧ v3 ≤ 99)) → S12_counts [aR 44, aI v1, aI v2, aI v3] M (fun r2 M2 => eqI (aI (-2)) r2 ∧ J M2) := by
    intro hb
    exact e12_counts ⟨fun _ => ⟨fun _ => ⟨fun hc => absurd hc (by omega), fun _ => ⟨⟨_, rfl, rfl⟩, hJ⟩⟩, fun _ => ⟨⟨_, rfl, rfl⟩, hJ⟩⟩, fun _ => ⟨⟨_, rfl, rfl⟩, hJ⟩⟩
  refine e11_counts ⟨fun h1 => bad (by omega), fun h1 => ⟨fun h2 => bad (by omega), fun h2 => ⟨fun h3 => bad (by omega), fun h3 => ⟨fun h4 => bad (by omega), fun h4 => ⟨fun h5 => bad (by omega), fun h5 => ⟨fun h6 => ?_, fun h6 => bad (by omega)⟩⟩⟩⟩⟩⟩
  have hm : 0 ≤ v2 * v1 ∧ v2 * v1 ≤ 99 * 99 := ⟨Int.mul_nonneg (by omega) (by omega), Int.mul_le_mul (by omega) (by omega) (by omega) (by omega)⟩
  have cost : ∀ n : Int, 1 ≤ n → n ≤ 60 → (0 ≤ v1 + n - 1 ∧ (0 ≤ v2 * ((v1 + n - 1) / n) ∧ v2 * ((v1 + n - 1) / n) ≤ 99 * 158) ∧ (0 ≤ v3 * (n - 1) ∧ v3 * (n - 1) ≤ 99 * 59)) := by
    intro n a b
    have d0 : 0 ≤ (v1 + n - 1) / n := Int.ediv_nonneg (by omega) (by omega)
    have d1 : (v1 + n - 1) / n ≤ v1 + n - 1 := Int.ediv_le_self _ (by omega)
    refine ⟨by omega, ⟨Int.mul_nonneg (by omega) d0, Int.mul_le_mul (by omega) (by omega) d0 (by omega)⟩, Int.mul_nonneg (by omega) (by omega), Int.mul_le_mul (by omega) (by omega) (by omega) (by omega)⟩
  refine ⟨by omega, fun x7 hx7 => ?_⟩
  have ref : ∀ (k : Nat) (i b c v : Int), 2 ≤ i → i + k = 61 → (∀ q : am_Q, q (aI v) M → am_R K11_counts q 45 [aJ, aI v1, aI v2, aI v3, aI b, aI c, aI i, aJ] [] M) → True := fun _ _ _ _ _ _ _ _ => trivial
  have both : ∀ (k : Nat) (i b c : Int), 2 ≤ i → i + k = 61 → b < i → ∃ v : Int, (∀ q : am_Q, q (aI v) M → am_R K11_counts q 45 [aJ, aI v1, aI v2, aI v3, aI b, aI c, aI i, aJ] [] M) ∧ (∀ q : am_Q, q (aI v) M → am_R K12_countsOf q 8 [aI v1, aI v2, aI v3, aI b, aI c, aI i, aJ] [] M) := by
    intro k
    induction k with
    | zero =>
      intro i b c h2 hi hbi
      refine ⟨b, fun q hq => g11_counts_45 ⟨fun _ => hq, fun hc => absurd hc (by omega)⟩, fun q hq => g12_countsOf_8 ⟨fun _ => hq, fun hc => absurd hc (by omega)⟩⟩
    | succ k ih =>
      intro i b c h2 hi hbi
      have hc := cost i (by omega) (by omega)
      generalize hx : v2 * ((v1 + i - 1) / i) + v3 * (i - 1) = x
      obtain ⟨v, ha, hb⟩ := ih (i + 1) (if c ≤ x then b else i) (if c ≤ x then c else x) (by omega) (by omega) (by split <;> omega)
      refine ⟨v, fun q hq => g11_counts_45 ⟨fun hc => absurd hc (by omega), fun _ => ⟨by omega, by omega, by omega, by omega, by omega, by omega, by omega, fun x2 hx2 x4 hx4 x5 hx5 => ⟨by omega, ?_⟩⟩⟩, fun q hq => g12_countsOf_8 ⟨fun hc => absurd hc (by omega), fun _ => ⟨by omega, by omega, by omega, by omega, by omega, by omega, by omega, fun x2 hx2 x5 hx5 x7 hx7 => ⟨by omega, ?_⟩⟩⟩⟩
      · rw [hx] at hx2
        rw [hx4, hx5, hx2]
        exact ha q hq
      · rw [hx] at hx2
        rw [if_neg (by omega), hx2] at hx5
        have e7 : x7 = if c ≤ x then c else x := by
          rw [hx7, hx5, hx2]
          by_cases e : c ≤ x
          · rw [if_pos e, if_pos e, if_neg (by omega)]
          · rw [if_neg e, if_neg e, if_pos rfl]
        rw [hx5, e7]
        exact hb q hq
  obtain ⟨v, ha, hb⟩ := both 59 2 1 x7 (by omega) (by omega) (by omega)
  refine ha _ (e12_counts ⟨fun _ => ⟨fun _ => ⟨fun _ => e12_countsOf ?_, fun hc => absurd hc (by omega)⟩, fun hc => absurd hc (by omega)⟩, fun hc => absurd hc (by omega)⟩)
  have hc := cost 1 (by omega) (by omega)
  refine g12_countsOf_8 ⟨fun hc => absurd hc (by omega), fun _ => ⟨by omega, by omega, by omega, by omega, by omega, by omega, by omega, fun x2 hx2 x5 hx5 x8 hx8 => ⟨by omega, ?_⟩⟩⟩
  rw [if_pos rfl] at hx5
  rw [hx5, if_pos rfl] at hx8
  have e : v1 + 1 - 1 = v1 := by omega
  rw [e, Int.ediv_one, ← hx7] at hx2
  have e2 : x2 = x7 := by rw [hx2]; omega
  rw [hx5, hx8, e2]
  exact hb _ ⟨_, rfl, ⟨_, rfl, rfl⟩, hJ⟩
