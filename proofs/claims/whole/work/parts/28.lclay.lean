/-! lay, get, copy, read -/
/-- what the reference finds wrong is what the class finds wrong -/
theorem lk_lacks {q : am_Q} {M : am_M} {s : Nat} {v2 v3 : Int} (hE : JE M) (hs : s < 4)
    (h0 : f_7_wrongWith (M (35 + s)) v2 v3 = 0 → M 45 s = v2 → 0 ≤ v2 → (0 ≤ v3 ∧ v3 < M 46 s) → q (aI 0) M)
    (h1 : ∀ x, f_7_wrongWith (M (35 + s)) v2 v3 = x → 1 ≤ x → x ≤ 3 → q (aI (-10 - x)) (am_up M 44 4 x)) : S12_lacks [aR 44, aI (s : Int), aI v2, aI v3] M q := by
  obtain ⟨g1, g2, g3, g4, g5, g6⟩ := hE s hs
  have es : (s : Int).toNat = s := rfl
  unfold f_7_wrongWith at *
  rw [g1] at h0 h1
  refine e12_lacks ⟨by omega, ?_⟩
  rw [es]
  refine ⟨fun a => ⟨fun b => ⟨by omega, ⟨fun c => ?_, fun c => ?_⟩⟩, fun b => ?_⟩, fun a => ?_⟩
  · have := (g6 a).1
    exact h0 (by rw [if_neg (by omega), if_pos b, if_pos (by omega)]) b (by omega) (by omega)
  · have := (g6 a).1
    exact met_bad (by omega) ⟨_, rfl, h1 2 (by rw [if_neg (by omega), if_pos b, if_neg (by omega)]) (by omega) (by omega)⟩
  · exact met_bad (by omega) ⟨_, rfl, h1 3 (by rw [if_neg (by omega), if_neg b]) (by omega) (by omega)⟩
  · exact met_bad (by omega) ⟨_, rfl, h1 1 (by rw [if_pos (by omega)]) (by omega) (by omega)⟩
theorem JE.frame {M M' : am_M} (h : JE M) (e : ∀ o, ¬ o = 0 → ¬ o = 44 → M' o = M o) : JE M' :=
  h.congr (fun s hs => ⟨e _ (by omega) (by omega), e _ (by omega) (by omega)⟩) (e _ (by omega) (by omega)) (e _ (by omega) (by omega)) (e _ (by omega) (by omega))
/-- a cell of a sheet written on both sides -/
theorem J.cell {M : am_M} {s i : Nat} {x : Int} (hJ : J M) (hs : s < 4) (hi : i < 64) : J (am_up (am_up M (35 + s + 4) i x) 47 (64 * s + i) x) := by
  have hE := hJ.2.2.2.2.2.2.1
  have k5 : ∀ o, ¬ o = 35 + s + 4 → ¬ o = 47 → (am_up (am_up M (35 + s + 4) i x) 47 (64 * s + i) x) o = M o := by
    intro o a b; rw [up_ne b, up_ne a]
  have f4 : (am_up (am_up M (35 + s + 4) i x) 47 (64 * s + i) x) (35 + s + 4) = am_set (M (35 + s + 4)) i x := by rw [up_ne (by omega), up_eq]
  have f47 : (am_up (am_up M (35 + s + 4) i x) 47 (64 * s + i) x) 47 = am_set (M 47) (64 * s + i) x := by rw [up_eq, up_ne (by omega)]
  generalize am_up (am_up M (35 + s + 4) i x) 47 (64 * s + i) x = M3 at *
  obtain ⟨g1, g2, g3, g4, g5, g6⟩ := hE s hs
  refine hJ.she (hE.up hs (fun t ht hne => ⟨?_, ?_, ?_, ?_, ?_⟩) ?_) (fun o a b c d e => k5 o (by omega) (by omega))
  · exact k5 _ (by omega) (by omega)
  · exact k5 _ (by omega) (by omega)
  · rw [k5 _ (by omega) (by omega)]
  · rw [k5 _ (by omega) (by omega)]
  · intro j hj; rw [f47, set_ne (by omega)]
  · rw [k5 (35 + s) (by omega) (by omega), k5 45 (by omega) (by omega), k5 46 (by omega) (by omega), f4, f47]
    refine ⟨g1, g2, g3, g4, g5, fun a => ⟨(g6 a).1, fun j hj => ?_⟩⟩
    unfold am_set
    by_cases e : j = i
    · rw [if_pos e, if_pos (by omega)]
    · rw [if_neg e, if_neg (by omega)]; exact (g6 a).2 j hj
theorem lc_lay {M : am_M} {v1 v2 v3 v4 : Int} (hJ : J M) : S11_lay [aR 0, aI v1, aI v2, aI v3, aI v4] M (fun r1 M1 => S12_lay [aR 44, aI v1, aI v2, aI v3, aI v4] M1 (fun r2 M2 => eqI r1 r2 ∧ J M2)) := by
  have hE := hJ.2.2.2.2.2.2.1
  refine e11_lay ⟨fun h1 => ⟨fun h2 x4 hx4 => ?_, fun h2 => e12_lay ⟨fun _ => ⟨fun hc => absurd hc (by omega), fun _ => ⟨⟨_, rfl, rfl⟩, hJ⟩⟩, fun _ => ⟨⟨_, rfl, rfl⟩, hJ⟩⟩⟩, fun h1 => e12_lay ⟨fun hc => absurd hc (by omega), fun _ => ⟨⟨_, rfl, rfl⟩, hJ⟩⟩⟩
  obtain ⟨s, hs⟩ : ∃ s : Nat, v1 = s := ⟨v1.toNat, by omega⟩
  subst hs
  have es : (s : Int).toNat = s := rfl
  rw [es] at hx4 ⊢
  have hs4 : s < 4 := by omega
  obtain ⟨g1, g2, g3, g4, g5, g6⟩ := hE s hs4
  refine ⟨fun h3 => ?_, fun h3 => ?_⟩
  · have hw := hx4.symm.trans h3
    unfold f_7_wrongWith at hw
    rw [g1] at hw
    have h5 : ¬ M 45 s = -1 := by intro e; rw [if_pos e] at hw; omega
    rw [if_neg h5] at hw
    have h6 : M 45 s = v2 := by
      by_cases e : M 45 s = v2
      · exact e
      · rw [if_neg e] at hw; omega
    rw [if_pos h6] at hw
    have h7 : ¬ (v3 < 0) ∧ (¬ (M (35 + s) 2 ≤ v3) ∧ ¬ (64 ≤ v3)) := by
      by_cases e : ¬ (v3 < 0) ∧ (¬ (M (35 + s) 2 ≤ v3) ∧ ¬ (64 ≤ v3))
      · exact e
      · rw [if_neg e] at hw; omega
    have hsz := (g6 (by omega)).1
    refine e7_putItem (o := 35 + s) (by unfold sx; omega) ⟨fun _ x5 hx5 => ⟨by omega, ?_⟩, fun hc => absurd h7 hc⟩
    obtain ⟨i, hi⟩ : ∃ i : Nat, v3 = i := ⟨v3.toNat, by omega⟩
    subst hi
    have ei : (i : Int).toNat = i := rfl
    rw [ei]
    have kk : ∀ o, ¬ o = 35 + s + 4 → (am_up M (35 + s + 4) i x5) o = M o := fun o a => up_ne a
    have hl : S12_lay [aR 44, aI (s : Int), aI v2, aI (i : Int), aI v4] (am_up M (35 + s + 4) i x5) (fun r2 M2 => eqI (aI 1) r2 ∧ J M2) := by
      refine e12_lay ⟨fun _ => ⟨fun _ => ?_, fun hc => absurd hc (by omega)⟩, fun hc => absurd hc (by omega)⟩
      refine e12_lacks ⟨by omega, ?_⟩
      rw [es, kk 45 (by omega), kk 46 (by omega)]
      refine ⟨fun _ => ⟨fun _ => ⟨by omega, fun _ => ⟨_, rfl, fun _ => ⟨by omega, by omega, fun x8 hx8 => ⟨by omega, ⟨_, rfl, rfl⟩, ?_⟩⟩, fun hc => absurd rfl hc⟩, fun hc => absurd hc (by omega)⟩, fun hc => absurd h6 hc⟩, fun hc => absurd hc (by omega)⟩
      have e8 : x8 = x5 := by
        rw [hx8, hx5]; unfold f_12_cut
        rw [g1, h6]
      have e : (64 * (s : Int) + (i : Int)).toNat = 64 * s + i := by omega
      rw [e8, e]
      exact hJ.cell hs4 (by omega)
    exact hl
  · have h5 : 1 ≤ x4 ∧ x4 ≤ 3 := by
      rw [hx4] at h3 ⊢
      unfold f_7_wrongWith at *
      repeat' split
      all_goals (first | omega | (exfalso; simp_all))
    refine e11_found ⟨by omega, _, rfl, e12_lay ⟨fun _ => ⟨fun _ => ?_, fun hc => absurd hc (by omega)⟩, fun hc => absurd hc (by omega)⟩⟩
    have hE' : JE (am_up M 0 16 x4) := hE.frame (fun o a b => up_ne a)
    refine lk_lacks hE' hs4 (fun hw _ _ _ => ?_) (fun x hw a b => ?_)
    · rw [up_ne (by omega), ← hx4] at hw; exact absurd hw h3
    · rw [up_ne (by omega), ← hx4] at hw
      subst hw
      exact ⟨_, rfl, fun hc => absurd hc (by omega), fun _ => ⟨⟨_, rfl, rfl⟩, hJ.fd⟩⟩
theorem lc_get {M : am_M} {v1 v2 v3 : Int} (hJ : J M) : S11_get [aR 0, aI v1, aI v2, aI v3] M (fun r1 M1 => S12_get [aR 44, aI v1, aI v2, aI v3] M1 (fun r2 M2 => eqI r1 r2 ∧ J M2)) := by
  have hE := hJ.2.2.2.2.2.2.1
  refine e11_get ⟨fun h1 => ⟨fun h2 x4 hx4 => ?_, fun h2 => e12_get ⟨fun _ => ⟨fun hc => absurd hc (by omega), fun _ => ⟨⟨_, rfl, rfl⟩, hJ⟩⟩, fun _ => ⟨⟨_, rfl, rfl⟩, hJ⟩⟩⟩, fun h1 => e12_get ⟨fun hc => absurd hc (by omega), fun _ => ⟨⟨_, rfl, rfl⟩, hJ⟩⟩⟩
  obtain ⟨s, hs⟩ : ∃ s : Nat, v1 = s := ⟨v1.toNat, by omega⟩
  subst hs
  have es : (s : Int).toNat = s := rfl
  rw [es] at hx4 ⊢
  have hs4 : s < 4 := by omega
  obtain ⟨g1, g2, g3, g4, g5, g6⟩ := hE s hs4
  refine ⟨fun h3 => ?_, fun h3 => ?_⟩
  · refine e12_get ⟨fun _ => ⟨fun _ => ?_, fun hc => absurd hc (by omega)⟩, fun hc => absurd hc (by omega)⟩
    refine lk_lacks hE hs4 (fun hw a b c => ⟨_, rfl, fun _ => ⟨by omega, by omega, by omega, ⟨_, rfl, ?_⟩, hJ⟩, fun hc => absurd rfl hc⟩) (fun x hw a b => ?_)
    · have e : (64 * (s : Int) + v3).toNat = 64 * s + v3.toNat := by omega
      have g7 := g6 (by omega)
      unfold f_7_itemAt
      rw [if_pos (by omega), e, ← g7.2 v3.toNat (by omega)]
    · rw [← hx4] at hw; omega
  · have h5 : 1 ≤ x4 ∧ x4 ≤ 3 := by
      rw [hx4] at h3 ⊢
      unfold f_7_wrongWith at *
      repeat' split
      all_goals (first | omega | (exfalso; simp_all))
    refine e12_get ⟨fun _ => ⟨fun _ => ?_, fun hc => absurd hc (by omega)⟩, fun hc => absurd hc (by omega)⟩
    have hE' : JE (am_up M 0 16 x4) := hE.frame (fun o a b => up_ne a)
    refine lk_lacks hE' hs4 (fun hw _ _ _ => ?_) (fun x hw a b => ?_)
    · rw [up_ne (by omega), ← hx4] at hw; exact absurd hw h3
    · rw [up_ne (by omega), ← hx4] at hw
      subst hw
      exact ⟨_, rfl, fun hc => absurd hc (by omega), fun _ => ⟨⟨_, rfl, rfl⟩, hJ.fd⟩⟩
