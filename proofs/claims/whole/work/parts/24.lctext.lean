/-! type, wipe, undo, fault, set -/
theorem lc_type0 {M : am_M} {v2 : Int} (hJ : J M) : S11_type [aR 0, aI 0, aI v2] M (fun r1 M1 => S12_type [aR 44, aI 0, aI v2] M1 (fun r2 M2 => eqI r1 r2 ∧ J M2)) := by
  obtain ⟨⟨hC, hby, s0, s1, s2, r0, r1, r2, es⟩, -⟩ := id hJ
  obtain ⟨hB, -⟩ := id hC
  have hn := hB.2.1
  have hmost := hB.1.1
  have hnE : M 1 2 = (xn0 M : Int) := by unfold xn0; omega
  have h50 : M 50 0 = (xn0 M : Int) := by rw [← s0]; exact hnE
  have hle : xn0 M ≤ 71 := by unfold xn0; omega
  have bad : ¬ (0 ≤ v2 ∧ v2 ≤ 255) → S12_type [aR 44, aI 0, aI v2] M (fun r2 M2 => eqI (aI (-2)) r2 ∧ J M2) := fun hb => e12_type ⟨fun _ => ⟨fun hc => absurd hc (by omega), fun _ => ⟨⟨_, rfl, rfl⟩, hJ⟩⟩, fun hc => absurd hc (by omega)⟩
  refine e11_type ⟨fun _ => ⟨fun h1 => bad (by omega), fun h1 => ⟨fun h2 => ⟨fun hf => ?_, fun hf => ?_⟩, fun h2 => bad (by omega)⟩⟩, fun hc => absurd hc (by omega)⟩
  · have hf' : M 1 0 ≤ M 1 2 ∨ ¬ (M 1 2 < 71) := hf
    refine e12_type ⟨fun _ => ⟨fun _ => ⟨by omega, fun _ => ⟨⟨_, rfl, rfl⟩, hJ⟩, fun hc => ?_⟩, fun hc => absurd hc (by omega)⟩, fun hc => absurd hc (by omega)⟩
    have hc' : ¬ M 50 0 = 71 := hc
    omega
  · have hf' : ¬ (M 1 0 ≤ M 1 2 ∨ ¬ (M 1 2 < 71)) := hf
    have hlt : xn0 M < 71 := by omega
    refine e9_append (o := 1) (Or.inl rfl) ⟨fun hc => absurd hc (by omega), fun _ => ⟨fun hc => absurd hc (by omega), fun _ => ⟨by omega, ?_⟩⟩⟩
    have e1 : (am_up M (1 + 1) ((M 1 2).toNat) v2) 1 2 = (xn0 M : Int) := by rw [up_ne (by decide)]; exact hnE
    rw [e1]
    refine ⟨by omega, fun x3 hx3 => ?_⟩
    have e2 : am_up (am_up M (1 + 1) ((M 1 2).toNat) v2) 1 2 x3 = am_ob (am_up M 1 2 ((xn0 M + 1 : Nat) : Int)) 2 (am_set (M 2) (xn0 M) v2) := by
      have ex : x3 = ((xn0 M + 1 : Nat) : Int) := by omega
      have ez : (M 1 2).toNat = xn0 M := by rw [hnE]; rfl
      rw [ez, ex, up_ob M (1 + 1)]
      exact up_ob_ne (by decide)
    rw [e2]
    refine re_0 hJ (by omega) (fun j hj => ?_) (fun M1 hC1 hx => ?_)
    · unfold am_set
      by_cases e : j = xn0 M
      · rw [if_pos e]; omega
      · rw [if_neg e]; exact hB.2.2.2.2.1 j (by omega)
    · have e3 : M1 1 2 = ((xn0 M + 1 : Nat) : Int) := by
        have := hx.2.1 2 (by decide)
        rw [this.1]
        rw [ob_ne (by decide), up_eq, set_eq]
      have k1 : ∀ o, ¬ (o = 1 ∨ o = 3 ∨ o = 5 ∨ o = 7 ∨ o = 8 ∨ o = 9 ∨ o = 15 ∨ o = 19 ∨ o = 20 ∨ o = 21 ∨ o = 22) → ¬ o = 2 → M1 o = M o := by
        intro o h1 h2
        rw [hx.at h1, ob_ne h2, up_ne (by omega)]
      have e50 : M1 50 0 = (xn0 M : Int) := by rw [k1 50 (by omega) (by decide)]; exact h50
      have er : M1 (1 + 2 * (0 : Int).toNat) 2 = ((xn0 M + 1 : Nat) : Int) := e3
      rw [er]
      refine e12_type ⟨fun _ => ⟨fun _ => ⟨by omega, fun hc => ?_, fun _ => ?_⟩, fun hc => absurd hc (by omega)⟩, fun hc => absurd hc (by omega)⟩
      · have hc' : M1 50 0 = 71 := hc
        omega
      · have et : M1 50 ((0 : Int).toNat) = (xn0 M : Int) := e50
        rw [et]
        refine ⟨by omega, by omega, by omega, by omega, fun x4 hx4 => ⟨⟨_, rfl, by rw [hx4]; congr 1⟩, ?_⟩⟩
        have ei : (80 * (0 : Int) + (xn0 M : Int)).toNat = 0 + xn0 M := by omega
        rw [ei, up_ob M1 49, k1 49 (by omega) (by decide)]
        have ex4 : x4 = ((xn0 M + 1 : Nat) : Int) := by omega
        rw [ex4]
        refine jn_0 hJ hC1 hx ?_ (by omega) ?_ ?_
        · intro j hj
          unfold am_set
          by_cases e : j = 0 + xn0 M
          · rw [if_pos e]; omega
          · rw [if_neg e]; exact hby j hj
        · intro j hj hne
          exact set_ne (by omega)
        · intro j hj
          unfold am_set
          by_cases e : j = xn0 M
          · rw [if_pos e, if_pos (by omega)]
          · rw [if_neg e, if_neg (by omega), Nat.zero_add]
            exact r0 j (by omega)

theorem lc_wipe0 {M : am_M} (hJ : J M) : S11_wipe [aR 0, aI 0] M (fun r1 M1 => S12_wipe [aR 44, aI 0] M1 (fun r2 M2 => eqI r1 r2 ∧ J M2)) := by
  obtain ⟨⟨hC, hby, s0, s1, s2, r0, r1, r2, es⟩, -⟩ := id hJ
  obtain ⟨hB, -⟩ := id hC
  have hn := hB.2.1
  have hmost := hB.1.1
  have hnE : M 1 2 = (xn0 M : Int) := by unfold xn0; omega
  have h50 : M 50 0 = (xn0 M : Int) := by rw [← s0]; exact hnE
  have hle : xn0 M ≤ 71 := by unfold xn0; omega
  refine e11_wipe ⟨fun _ => ?_, fun hc => absurd hc (by omega)⟩
  intro x3 hx3
  have ex : x3 = (xn0 M : Int) := hx3.trans hnE
  have e2 : am_up M (1 + 2 * (0 : Int).toNat) 2 0 = am_ob (am_up M 1 2 ((0 : Nat) : Int)) 2 (M 2) := by
    have : am_ob (am_up M 1 2 ((0 : Nat) : Int)) 2 (M 2) = am_up M 1 2 ((0 : Nat) : Int) := ob_id' (by rw [up_ne (by decide)])
    rw [this]
    rfl
  rw [e2]
  refine re_0 hJ (by omega) (fun j hj => by omega) (fun M1 hC1 hx => ?_)
  have k1 : ∀ o, ¬ (o = 1 ∨ o = 3 ∨ o = 5 ∨ o = 7 ∨ o = 8 ∨ o = 9 ∨ o = 15 ∨ o = 19 ∨ o = 20 ∨ o = 21 ∨ o = 22) → ¬ o = 2 → M1 o = M o := by
    intro o h1 h2
    rw [hx.at h1, ob_ne h2, up_ne (by omega)]
  have e50 : M1 50 ((0 : Int).toNat) = (xn0 M : Int) := by rw [k1 50 (by omega) (by decide)]; exact h50
  refine e12_wipe ⟨fun _ => ⟨by omega, fun x2 hx2 => ⟨⟨_, rfl, ?_⟩, ?_⟩⟩, fun hc => absurd hc (by omega)⟩
  · rw [hx2, e50, ex]
  · have := jn_0 hJ hC1 hx (gg := M 49) hby (by omega) (fun j hj _ => rfl) (fun j hj => by omega)
    rw [ob_id' (by rw [k1 49 (by omega) (by decide)])] at this
    exact this
theorem lc_undo0 {M : am_M} (hJ : J M) : S11_undo [aR 0, aI 0] M (fun r1 M1 => S12_undo [aR 44, aI 0] M1 (fun r2 M2 => eqI r1 r2 ∧ J M2)) := by
  obtain ⟨⟨hC, hby, s0, s1, s2, r0, r1, r2, es⟩, -⟩ := id hJ
  obtain ⟨hB, -⟩ := id hC
  have hn := hB.2.1
  have hmost := hB.1.1
  have hnE : M 1 2 = (xn0 M : Int) := by unfold xn0; omega
  have h50 : M 50 0 = (xn0 M : Int) := by rw [← s0]; exact hnE
  have hle : xn0 M ≤ 71 := by unfold xn0; omega
  refine e11_undo ⟨fun _ => ⟨fun h0 => ?_, fun h0 => ?_⟩, fun hc => absurd hc (by omega)⟩
  · have h0' : 0 < M 1 2 := h0
    have ez : M (1 + 2 * (0 : Int).toNat) 2 = (xn0 M : Int) := hnE
    rw [ez]
    refine ⟨by omega, fun x4 hx4 => ?_⟩
    have ex : x4 = ((xn0 M - 1 : Nat) : Int) := by omega
    have e2 : am_up M (1 + 2 * (0 : Int).toNat) 2 x4 = am_ob (am_up M 1 2 ((xn0 M - 1 : Nat) : Int)) 2 (M 2) := by
      have : am_ob (am_up M 1 2 ((xn0 M - 1 : Nat) : Int)) 2 (M 2) = am_up M 1 2 ((xn0 M - 1 : Nat) : Int) := ob_id' (by rw [up_ne (by decide)])
      rw [this, ex]
      rfl
    rw [e2]
    refine re_0 hJ (by omega) (fun j hj => hB.2.2.2.2.1 j (by omega)) (fun M1 hC1 hx => ?_)
    have e3 : M1 (1 + 2 * (0 : Int).toNat) 2 = ((xn0 M - 1 : Nat) : Int) := by
      have := hx.2.1 2 (by decide)
      have e4 := this.1
      rw [ob_ne (by decide), up_eq, set_eq] at e4
      exact e4
    rw [e3]
    have k1 : ∀ o, ¬ (o = 1 ∨ o = 3 ∨ o = 5 ∨ o = 7 ∨ o = 8 ∨ o = 9 ∨ o = 15 ∨ o = 19 ∨ o = 20 ∨ o = 21 ∨ o = 22) → ¬ o = 2 → M1 o = M o := by
      intro o h1 h2
      rw [hx.at h1, ob_ne h2, up_ne (by omega)]
    have e50 : M1 50 ((0 : Int).toNat) = (xn0 M : Int) := by rw [k1 50 (by omega) (by decide)]; exact h50
    refine e12_undo ⟨fun _ => ⟨by omega, fun hc => ?_, fun _ => ?_⟩, fun hc => absurd hc (by omega)⟩
    · rw [e50] at hc; omega
    · rw [e50]
      refine ⟨by omega, fun x3 hx3 => ⟨⟨_, rfl, by rw [hx3]; congr 1; omega⟩, ?_⟩⟩
      have e6 : x3 = ((xn0 M - 1 : Nat) : Int) := by omega
      rw [e6]
      have := jn_0 hJ hC1 hx (gg := M 49) hby (by omega) (fun j hj _ => rfl) (fun j hj => by rw [Nat.zero_add]; exact r0 j (by omega))
      rw [ob_id' (by rw [k1 49 (by omega) (by decide)])] at this
      exact this
  · have h0' : ¬ 0 < M 1 2 := h0
    refine e12_undo ⟨fun _ => ⟨by omega, fun _ => ⟨⟨_, rfl, rfl⟩, hJ⟩, fun hc => ?_⟩, fun hc => absurd hc (by omega)⟩
    have hc' : ¬ M 50 0 = 0 := hc
    omega

theorem lc_type1 {M : am_M} {v2 : Int} (hJ : J M) : S11_type [aR 0, aI 1, aI v2] M (fun r1 M1 => S12_type [aR 44, aI 1, aI v2] M1 (fun r2 M2 => eqI r1 r2 ∧ J M2)) := by
  obtain ⟨⟨hC, hby, s0, s1, s2, r0, r1, r2, es⟩, -⟩ := id hJ
  obtain ⟨hB, -⟩ := id hC
  have hn := hB.2.2.1
  have hmost := hB.1.2.1
  have hnE : M 3 2 = (xn1 M : Int) := by unfold xn1; omega
  have h50 : M 50 1 = (xn1 M : Int) := by rw [← s1]; exact hnE
  have hle : xn1 M ≤ 5 := by unfold xn1; omega
  have bad : ¬ (0 ≤ v2 ∧ v2 ≤ 255) → S12_type [aR 44, aI 1, aI v2] M (fun r2 M2 => eqI (aI (-2)) r2 ∧ J M2) := fun hb => e12_type ⟨fun _ => ⟨fun hc => absurd hc (by omega), fun _ => ⟨⟨_, rfl, rfl⟩, hJ⟩⟩, fun hc => absurd hc (by omega)⟩
  refine e11_type ⟨fun _ => ⟨fun h1 => bad (by omega), fun h1 => ⟨fun h2 => ⟨fun hf => ?_, fun hf => ?_⟩, fun h2 => bad (by omega)⟩⟩, fun hc => absurd hc (by omega)⟩
  · have hf' : M 3 0 ≤ M 3 2 ∨ ¬ (M 3 2 < 71) := hf
    refine e12_type ⟨fun _ => ⟨fun _ => ⟨by omega, fun _ => ⟨⟨_, rfl, rfl⟩, hJ⟩, fun hc => ?_⟩, fun hc => absurd hc (by omega)⟩, fun hc => absurd hc (by omega)⟩
    have hc' : ¬ M 50 1 = 5 := hc
    omega
  · have hf' : ¬ (M 3 0 ≤ M 3 2 ∨ ¬ (M 3 2 < 71)) := hf
    have hlt : xn1 M < 5 := by omega
    refine e9_append (o := 3) (Or.inr (Or.inl rfl)) ⟨fun hc => absurd hc (by omega), fun _ => ⟨fun hc => absurd hc (by omega), fun _ => ⟨by omega, ?_⟩⟩⟩
    have e1 : (am_up M (3 + 1) ((M 3 2).toNat) v2) 3 2 = (xn1 M : Int) := by rw [up_ne (by decide)]; exact hnE
    rw [e1]
    refine ⟨by omega, fun x3 hx3 => ?_⟩
    have e2 : am_up (am_up M (3 + 1) ((M 3 2).toNat) v2) 3 2 x3 = am_ob (am_up M 3 2 ((xn1 M + 1 : Nat) : Int)) 4 (am_set (M 4) (xn1 M) v2) := by
      have ex : x3 = ((xn1 M + 1 : Nat) : Int) := by omega
      have ez : (M 3 2).toNat = xn1 M := by rw [hnE]; rfl
      rw [ez, ex, up_ob M (3 + 1)]
      exact up_ob_ne (by decide)
    rw [e2]
    refine re_1 hJ (by omega) (fun j hj => ?_) (fun M1 hC1 hx => ?_)
    · unfold am_set
      by_cases e : j = xn1 M
      · rw [if_pos e]; omega
      · rw [if_neg e]; exact hB.2.2.2.2.2.1 j (by omega)
    · have e3 : M1 3 2 = ((xn1 M + 1 : Nat) : Int) := by
        have := hx.2.1 2 (by decide)
        rw [this.2.1]
        rw [ob_ne (by decide), up_eq, set_eq]
      have k1 : ∀ o, ¬ (o = 1 ∨ o = 3 ∨ o = 5 ∨ o = 7 ∨ o = 8 ∨ o = 9 ∨ o = 15 ∨ o = 19 ∨ o = 20 ∨ o = 21 ∨ o = 22) → ¬ o = 4 → M1 o = M o := by
        intro o h1 h2
        rw [hx.at h1, ob_ne h2, up_ne (by omega)]
      have e50 : M1 50 1 = (xn1 M : Int) := by rw [k1 50 (by omega) (by decide)]; exact h50
      have er : M1 (1 + 2 * (1 : Int).toNat) 2 = ((xn1 M + 1 : Nat) : Int) := e3
      rw [er]
      refine e12_type ⟨fun _ => ⟨fun _ => ⟨by omega, fun hc => ?_, fun _ => ?_⟩, fun hc => absurd hc (by omega)⟩, fun hc => absurd hc (by omega)⟩
      · have hc' : M1 50 1 = 5 := hc
        omega
      · have et : M1 50 ((1 : Int).toNat) = (xn1 M : Int) := e50
        rw [et]
        refine ⟨by omega, by omega, by omega, by omega, fun x4 hx4 => ⟨⟨_, rfl, by rw [hx4]; congr 1⟩, ?_⟩⟩
        have ei : (80 * (1 : Int) + (xn1 M : Int)).toNat = 80 + xn1 M := by omega
        rw [ei, up_ob M1 49, k1 49 (by omega) (by decide)]
        have ex4 : x4 = ((xn1 M + 1 : Nat) : Int) := by omega
        rw [ex4]
        refine jn_1 hJ hC1 hx ?_ (by omega) ?_ ?_
        · intro j hj
          unfold am_set
          by_cases e : j = 80 + xn1 M
          · rw [if_pos e]; omega
          · rw [if_neg e]; exact hby j hj
        · intro j hj hne
          exact set_ne (by omega)
        · intro j hj
          unfold am_set
          by_cases e : j = xn1 M
          · rw [if_pos e, if_pos (by omega)]
          · rw [if_neg e, if_neg (by omega)]
            exact r1 j (by omega)

theorem lc_wipe1 {M : am_M} (hJ : J M) : S11_wipe [aR 0, aI 1] M (fun r1 M1 => S12_wipe [aR 44, aI 1] M1 (fun r2 M2 => eqI r1 r2 ∧ J M2)) := by
  obtain ⟨⟨hC, hby, s0, s1, s2, r0, r1, r2, es⟩, -⟩ := id hJ
  obtain ⟨hB, -⟩ := id hC
  have hn := hB.2.2.1
  have hmost := hB.1.2.1
  have hnE : M 3 2 = (xn1 M : Int) := by unfold xn1; omega
  have h50 : M 50 1 = (xn1 M : Int) := by rw [← s1]; exact hnE
  have hle : xn1 M ≤ 5 := by unfold xn1; omega
  refine e11_wipe ⟨fun _ => ?_, fun hc => absurd hc (by omega)⟩
  intro x3 hx3
  have ex : x3 = (xn1 M : Int) := hx3.trans hnE
  have e2 : am_up M (1 + 2 * (1 : Int).toNat) 2 0 = am_ob (am_up M 3 2 ((0 : Nat) : Int)) 4 (M 4) := by
    have : am_ob (am_up M 3 2 ((0 : Nat) : Int)) 4 (M 4) = am_up M 3 2 ((0 : Nat) : Int) := ob_id' (by rw [up_ne (by decide)])
    rw [this]
    rfl
  rw [e2]
  refine re_1 hJ (by omega) (fun j hj => by omega) (fun M1 hC1 hx => ?_)
  have k1 : ∀ o, ¬ (o = 1 ∨ o = 3 ∨ o = 5 ∨ o = 7 ∨ o = 8 ∨ o = 9 ∨ o = 15 ∨ o = 19 ∨ o = 20 ∨ o = 21 ∨ o = 22) → ¬ o = 4 → M1 o = M o := by
    intro o h1 h2
    rw [hx.at h1, ob_ne h2, up_ne (by omega)]
  have e50 : M1 50 ((1 : Int).toNat) = (xn1 M : Int) := by rw [k1 50 (by omega) (by decide)]; exact h50
  refine e12_wipe ⟨fun _ => ⟨by omega, fun x2 hx2 => ⟨⟨_, rfl, ?_⟩, ?_⟩⟩, fun hc => absurd hc (by omega)⟩
  · rw [hx2, e50, ex]
  · have := jn_1 hJ hC1 hx (gg := M 49) hby (by omega) (fun j hj _ => rfl) (fun j hj => by omega)
    rw [ob_id' (by rw [k1 49 (by omega) (by decide)])] at this
    exact this
theorem lc_undo1 {M : am_M} (hJ : J M) : S11_undo [aR 0, aI 1] M (fun r1 M1 => S12_undo [aR 44, aI 1] M1 (fun r2 M2 => eqI r1 r2 ∧ J M2)) := by
  obtain ⟨⟨hC, hby, s0, s1, s2, r0, r1, r2, es⟩, -⟩ := id hJ
  obtain ⟨hB, -⟩ := id hC
  have hn := hB.2.2.1
  have hmost := hB.1.2.1
  have hnE : M 3 2 = (xn1 M : Int) := by unfold xn1; omega
  have h50 : M 50 1 = (xn1 M : Int) := by rw [← s1]; exact hnE
  have hle : xn1 M ≤ 5 := by unfold xn1; omega
  refine e11_undo ⟨fun _ => ⟨fun h0 => ?_, fun h0 => ?_⟩, fun hc => absurd hc (by omega)⟩
  · have h0' : 0 < M 3 2 := h0
    have ez : M (1 + 2 * (1 : Int).toNat) 2 = (xn1 M : Int) := hnE
    rw [ez]
    refine ⟨by omega, fun x4 hx4 => ?_⟩
    have ex : x4 = ((xn1 M - 1 : Nat) : Int) := by omega
    have e2 : am_up M (1 + 2 * (1 : Int).toNat) 2 x4 = am_ob (am_up M 3 2 ((xn1 M - 1 : Nat) : Int)) 4 (M 4) := by
      have : am_ob (am_up M 3 2 ((xn1 M - 1 : Nat) : Int)) 4 (M 4) = am_up M 3 2 ((xn1 M - 1 : Nat) : Int) := ob_id' (by rw [up_ne (by decide)])
      rw [this, ex]
      rfl
    rw [e2]
    refine re_1 hJ (by omega) (fun j hj => hB.2.2.2.2.2.1 j (by omega)) (fun M1 hC1 hx => ?_)
    have e3 : M1 (1 + 2 * (1 : Int).toNat) 2 = ((xn1 M - 1 : Nat) : Int) := by
      have := hx.2.1 2 (by decide)
      have e4 := this.2.1
      rw [ob_ne (by decide), up_eq, set_eq] at e4
      exact e4
    rw [e3]
    have k1 : ∀ o, ¬ (o = 1 ∨ o = 3 ∨ o = 5 ∨ o = 7 ∨ o = 8 ∨ o = 9 ∨ o = 15 ∨ o = 19 ∨ o = 20 ∨ o = 21 ∨ o = 22) → ¬ o = 4 → M1 o = M o := by
      intro o h1 h2
      rw [hx.at h1, ob_ne h2, up_ne (by omega)]
    have e50 : M1 50 ((1 : Int).toNat) = (xn1 M : Int) := by rw [k1 50 (by omega) (by decide)]; exact h50
    refine e12_undo ⟨fun _ => ⟨by omega, fun hc => ?_, fun _ => ?_⟩, fun hc => absurd hc (by omega)⟩
    · rw [e50] at hc; omega
    · rw [e50]
      refine ⟨by omega, fun x3 hx3 => ⟨⟨_, rfl, by rw [hx3]; congr 1; omega⟩, ?_⟩⟩
      have e6 : x3 = ((xn1 M - 1 : Nat) : Int) := by omega
      rw [e6]
      have := jn_1 hJ hC1 hx (gg := M 49) hby (by omega) (fun j hj _ => rfl) (fun j hj => by exact r1 j (by omega))
      rw [ob_id' (by rw [k1 49 (by omega) (by decide)])] at this
      exact this
  · have h0' : ¬ 0 < M 3 2 := h0
    refine e12_undo ⟨fun _ => ⟨by omega, fun _ => ⟨⟨_, rfl, rfl⟩, hJ⟩, fun hc => ?_⟩, fun hc => absurd hc (by omega)⟩
    have hc' : ¬ M 50 1 = 0 := hc
    omega

theorem lc_type2 {M : am_M} {v2 : Int} (hJ : J M) : S11_type [aR 0, aI 2, aI v2] M (fun r1 M1 => S12_type [aR 44, aI 2, aI v2] M1 (fun r2 M2 => eqI r1 r2 ∧ J M2)) := by
  obtain ⟨⟨hC, hby, s0, s1, s2, r0, r1, r2, es⟩, -⟩ := id hJ
  obtain ⟨hB, -⟩ := id hC
  have hn := hB.2.2.2.1
  have hmost := hB.1.2.2
  have hnE : M 5 2 = (xn2 M : Int) := by unfold xn2; omega
  have h50 : M 50 2 = (xn2 M : Int) := by rw [← s2]; exact hnE
  have hle : xn2 M ≤ 40 := by unfold xn2; omega
  have bad : ¬ (0 ≤ v2 ∧ v2 ≤ 255) → S12_type [aR 44, aI 2, aI v2] M (fun r2 M2 => eqI (aI (-2)) r2 ∧ J M2) := fun hb => e12_type ⟨fun _ => ⟨fun hc => absurd hc (by omega), fun _ => ⟨⟨_, rfl, rfl⟩, hJ⟩⟩, fun hc => absurd hc (by omega)⟩
  refine e11_type ⟨fun _ => ⟨fun h1 => bad (by omega), fun h1 => ⟨fun h2 => ⟨fun hf => ?_, fun hf => ?_⟩, fun h2 => bad (by omega)⟩⟩, fun hc => absurd hc (by omega)⟩
  · have hf' : M 5 0 ≤ M 5 2 ∨ ¬ (M 5 2 < 71) := hf
    refine e12_type ⟨fun _ => ⟨fun _ => ⟨by omega, fun _ => ⟨⟨_, rfl, rfl⟩, hJ⟩, fun hc => ?_⟩, fun hc => absurd hc (by omega)⟩, fun hc => absurd hc (by omega)⟩
    have hc' : ¬ M 50 2 = 40 := hc
    omega
  · have hf' : ¬ (M 5 0 ≤ M 5 2 ∨ ¬ (M 5 2 < 71)) := hf
    have hlt : xn2 M < 40 := by omega
    refine e9_append (o := 5) (Or.inr (Or.inr rfl)) ⟨fun hc => absurd hc (by omega), fun _ => ⟨fun hc => absurd hc (by omega), fun _ => ⟨by omega, ?_⟩⟩⟩
    have e1 : (am_up M (5 + 1) ((M 5 2).toNat) v2) 5 2 = (xn2 M : Int) := by rw [up_ne (by decide)]; exact hnE
    rw [e1]
    refine ⟨by omega, fun x3 hx3 => ?_⟩
    have e2 : am_up (am_up M (5 + 1) ((M 5 2).toNat) v2) 5 2 x3 = am_ob (am_up M 5 2 ((xn2 M + 1 : Nat) : Int)) 6 (am_set (M 6) (xn2 M) v2) := by
      have ex : x3 = ((xn2 M + 1 : Nat) : Int) := by omega
      have ez : (M 5 2).toNat = xn2 M := by rw [hnE]; rfl
      rw [ez, ex, up_ob M (5 + 1)]
      exact up_ob_ne (by decide)
    rw [e2]
    refine re_2 hJ (by omega) (fun j hj => ?_) (fun M1 hC1 hx => ?_)
    · unfold am_set
      by_cases e : j = xn2 M
      · rw [if_pos e]; omega
      · rw [if_neg e]; exact hB.2.2.2.2.2.2.1 j (by omega)
    · have e3 : M1 5 2 = ((xn2 M + 1 : Nat) : Int) := by
        have := hx.2.1 2 (by decide)
        rw [this.2.2]
        rw [ob_ne (by decide), up_eq, set_eq]
      have k1 : ∀ o, ¬ (o = 1 ∨ o = 3 ∨ o = 5 ∨ o = 7 ∨ o = 8 ∨ o = 9 ∨ o = 15 ∨ o = 19 ∨ o = 20 ∨ o = 21 ∨ o = 22) → ¬ o = 6 → M1 o = M o := by
        intro o h1 h2
        rw [hx.at h1, ob_ne h2, up_ne (by omega)]
      have e50 : M1 50 2 = (xn2 M : Int) := by rw [k1 50 (by omega) (by decide)]; exact h50
      have er : M1 (1 + 2 * (2 : Int).toNat) 2 = ((xn2 M + 1 : Nat) : Int) := e3
      rw [er]
      refine e12_type ⟨fun _ => ⟨fun _ => ⟨by omega, fun hc => ?_, fun _ => ?_⟩, fun hc => absurd hc (by omega)⟩, fun hc => absurd hc (by omega)⟩
      · have hc' : M1 50 2 = 40 := hc
        omega
      · have et : M1 50 ((2 : Int).toNat) = (xn2 M : Int) := e50
        rw [et]
        refine ⟨by omega, by omega, by omega, by omega, fun x4 hx4 => ⟨⟨_, rfl, by rw [hx4]; congr 1⟩, ?_⟩⟩
        have ei : (80 * (2 : Int) + (xn2 M : Int)).toNat = 160 + xn2 M := by omega
        rw [ei, up_ob M1 49, k1 49 (by omega) (by decide)]
        have ex4 : x4 = ((xn2 M + 1 : Nat) : Int) := by omega
        rw [ex4]
        refine jn_2 hJ hC1 hx ?_ (by omega) ?_ ?_
        · intro j hj
          unfold am_set
          by_cases e : j = 160 + xn2 M
          · rw [if_pos e]; omega
          · rw [if_neg e]; exact hby j hj
        · intro j hj hne
          exact set_ne (by omega)
        · intro j hj
          unfold am_set
          by_cases e : j = xn2 M
          · rw [if_pos e, if_pos (by omega)]
          · rw [if_neg e, if_neg (by omega)]
            exact r2 j (by omega)

theorem lc_wipe2 {M : am_M} (hJ : J M) : S11_wipe [aR 0, aI 2] M (fun r1 M1 => S12_wipe [aR 44, aI 2] M1 (fun r2 M2 => eqI r1 r2 ∧ J M2)) := by
  obtain ⟨⟨hC, hby, s0, s1, s2, r0, r1, r2, es⟩, -⟩ := id hJ
  obtain ⟨hB, -⟩ := id hC
  have hn := hB.2.2.2.1
  have hmost := hB.1.2.2
  have hnE : M 5 2 = (xn2 M : Int) := by unfold xn2; omega
  have h50 : M 50 2 = (xn2 M : Int) := by rw [← s2]; exact hnE
  have hle : xn2 M ≤ 40 := by unfold xn2; omega
  refine e11_wipe ⟨fun _ => ?_, fun hc => absurd hc (by omega)⟩
  intro x3 hx3
  have ex : x3 = (xn2 M : Int) := hx3.trans hnE
  have e2 : am_up M (1 + 2 * (2 : Int).toNat) 2 0 = am_ob (am_up M 5 2 ((0 : Nat) : Int)) 6 (M 6) := by
    have : am_ob (am_up M 5 2 ((0 : Nat) : Int)) 6 (M 6) = am_up M 5 2 ((0 : Nat) : Int) := ob_id' (by rw [up_ne (by decide)])
    rw [this]
    rfl
  rw [e2]
  refine re_2 hJ (by omega) (fun j hj => by omega) (fun M1 hC1 hx => ?_)
  have k1 : ∀ o, ¬ (o = 1 ∨ o = 3 ∨ o = 5 ∨ o = 7 ∨ o = 8 ∨ o = 9 ∨ o = 15 ∨ o = 19 ∨ o = 20 ∨ o = 21 ∨ o = 22) → ¬ o = 6 → M1 o = M o := by
    intro o h1 h2
    rw [hx.at h1, ob_ne h2, up_ne (by omega)]
  have e50 : M1 50 ((2 : Int).toNat) = (xn2 M : Int) := by rw [k1 50 (by omega) (by decide)]; exact h50
  refine e12_wipe ⟨fun _ => ⟨by omega, fun x2 hx2 => ⟨⟨_, rfl, ?_⟩, ?_⟩⟩, fun hc => absurd hc (by omega)⟩
  · rw [hx2, e50, ex]
  · have := jn_2 hJ hC1 hx (gg := M 49) hby (by omega) (fun j hj _ => rfl) (fun j hj => by omega)
    rw [ob_id' (by rw [k1 49 (by omega) (by decide)])] at this
    exact this
theorem lc_undo2 {M : am_M} (hJ : J M) : S11_undo [aR 0, aI 2] M (fun r1 M1 => S12_undo [aR 44, aI 2] M1 (fun r2 M2 => eqI r1 r2 ∧ J M2)) := by
  obtain ⟨⟨hC, hby, s0, s1, s2, r0, r1, r2, es⟩, -⟩ := id hJ
  obtain ⟨hB, -⟩ := id hC
  have hn := hB.2.2.2.1
  have hmost := hB.1.2.2
  have hnE : M 5 2 = (xn2 M : Int) := by unfold xn2; omega
  have h50 : M 50 2 = (xn2 M : Int) := by rw [← s2]; exact hnE
  have hle : xn2 M ≤ 40 := by unfold xn2; omega
  refine e11_undo ⟨fun _ => ⟨fun h0 => ?_, fun h0 => ?_⟩, fun hc => absurd hc (by omega)⟩
  · have h0' : 0 < M 5 2 := h0
    have ez : M (1 + 2 * (2 : Int).toNat) 2 = (xn2 M : Int) := hnE
    rw [ez]
    refine ⟨by omega, fun x4 hx4 => ?_⟩
    have ex : x4 = ((xn2 M - 1 : Nat) : Int) := by omega
    have e2 : am_up M (1 + 2 * (2 : Int).toNat) 2 x4 = am_ob (am_up M 5 2 ((xn2 M - 1 : Nat) : Int)) 6 (M 6) := by
      have : am_ob (am_up M 5 2 ((xn2 M - 1 : Nat) : Int)) 6 (M 6) = am_up M 5 2 ((xn2 M - 1 : Nat) : Int) := ob_id' (by rw [up_ne (by decide)])
      rw [this, ex]
      rfl
    rw [e2]
    refine re_2 hJ (by omega) (fun j hj => hB.2.2.2.2.2.2.1 j (by omega)) (fun M1 hC1 hx => ?_)
    have e3 : M1 (1 + 2 * (2 : Int).toNat) 2 = ((xn2 M - 1 : Nat) : Int) := by
      have := hx.2.1 2 (by decide)
      have e4 := this.2.2
      rw [ob_ne (by decide), up_eq, set_eq] at e4
      exact e4
    rw [e3]
    have k1 : ∀ o, ¬ (o = 1 ∨ o = 3 ∨ o = 5 ∨ o = 7 ∨ o = 8 ∨ o = 9 ∨ o = 15 ∨ o = 19 ∨ o = 20 ∨ o = 21 ∨ o = 22) → ¬ o = 6 → M1 o = M o := by
      intro o h1 h2
      rw [hx.at h1, ob_ne h2, up_ne (by omega)]
    have e50 : M1 50 ((2 : Int).toNat) = (xn2 M : Int) := by rw [k1 50 (by omega) (by decide)]; exact h50
    refine e12_undo ⟨fun _ => ⟨by omega, fun hc => ?_, fun _ => ?_⟩, fun hc => absurd hc (by omega)⟩
    · rw [e50] at hc; omega
    · rw [e50]
      refine ⟨by omega, fun x3 hx3 => ⟨⟨_, rfl, by rw [hx3]; congr 1; omega⟩, ?_⟩⟩
      have e6 : x3 = ((xn2 M - 1 : Nat) : Int) := by omega
      rw [e6]
      have := jn_2 hJ hC1 hx (gg := M 49) hby (by omega) (fun j hj _ => rfl) (fun j hj => by exact r2 j (by omega))
      rw [ob_id' (by rw [k1 49 (by omega) (by decide)])] at this
      exact this
  · have h0' : ¬ 0 < M 5 2 := h0
    refine e12_undo ⟨fun _ => ⟨by omega, fun _ => ⟨⟨_, rfl, rfl⟩, hJ⟩, fun hc => ?_⟩, fun hc => absurd hc (by omega)⟩
    have hc' : ¬ M 50 2 = 0 := hc
    omega

theorem lc_type {M : am_M} {v1 v2 : Int} (hJ : J M) : S11_type [aR 0, aI v1, aI v2] M (fun r1 M1 => S12_type [aR 44, aI v1, aI v2] M1 (fun r2 M2 => eqI r1 r2 ∧ J M2)) := by
  by_cases h : 0 ≤ v1 ∧ v1 < 3
  · rcases (show v1 = 0 ∨ v1 = 1 ∨ v1 = 2 by omega) with rfl | rfl | rfl
    · exact lc_type0 hJ
    · exact lc_type1 hJ
    · exact lc_type2 hJ
  · exact e11_type ⟨fun hc => absurd hc h, fun _ => e12_type ⟨fun hc => absurd hc (by omega), fun _ => ⟨⟨_, rfl, rfl⟩, hJ⟩⟩⟩
theorem lc_wipe {M : am_M} {v1 : Int} (hJ : J M) : S11_wipe [aR 0, aI v1] M (fun r1 M1 => S12_wipe [aR 44, aI v1] M1 (fun r2 M2 => eqI r1 r2 ∧ J M2)) := by
  by_cases h : 0 ≤ v1 ∧ v1 < 3
  · rcases (show v1 = 0 ∨ v1 = 1 ∨ v1 = 2 by omega) with rfl | rfl | rfl
    · exact lc_wipe0 hJ
    · exact lc_wipe1 hJ
    · exact lc_wipe2 hJ
  · exact e11_wipe ⟨fun hc => absurd hc h, fun _ => e12_wipe ⟨fun hc => absurd hc (by omega), fun _ => ⟨⟨_, rfl, rfl⟩, hJ⟩⟩⟩
theorem lc_undo {M : am_M} {v1 : Int} (hJ : J M) : S11_undo [aR 0, aI v1] M (fun r1 M1 => S12_undo [aR 44, aI v1] M1 (fun r2 M2 => eqI r1 r2 ∧ J M2)) := by
  by_cases h : 0 ≤ v1 ∧ v1 < 3
  · rcases (show v1 = 0 ∨ v1 = 1 ∨ v1 = 2 by omega) with rfl | rfl | rfl
    · exact lc_undo0 hJ
    · exact lc_undo1 hJ
    · exact lc_undo2 hJ
  · exact e11_undo ⟨fun hc => absurd hc h, fun _ => e12_undo ⟨fun hc => absurd hc (by omega), fun _ => ⟨⟨_, rfl, rfl⟩, hJ⟩⟩⟩
