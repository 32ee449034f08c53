/-! sheets -/
theorem JE.up {M M' : am_M} {s : Nat} (hs : s < 4) (hE : JE M) (k : ∀ t, t < 4 → ¬ t = s → M' (35 + t) = M (35 + t) ∧ M' (35 + t + 4) = M (35 + t + 4) ∧ M' 45 t = M 45 t ∧ M' 46 t = M 46 t ∧ ∀ i : Nat, i < 64 → M' 47 (64 * t + i) = M 47 (64 * t + i))
    (h : M' (35 + s) 1 = M' 45 s ∧ -1 ≤ M' 45 s ∧ M' 45 s ≤ 2 ∧ 0 ≤ M' 46 s ∧ M' 46 s ≤ 64 ∧ (0 ≤ M' 45 s → M' (35 + s) 2 = M' 46 s ∧ ∀ i : Nat, (i : Int) < M' 46 s → M' (35 + s + 4) i = M' 47 (64 * s + i))) : JE M' := by
  intro t ht
  by_cases e : t = s
  · subst e; exact h
  · obtain ⟨a, b, c, d, f⟩ := k t ht e
    have := hE t ht
    rw [a, b, c, d]
    obtain ⟨g1, g2, g3, g4, g5, g6⟩ := this
    refine ⟨g1, g2, g3, g4, g5, fun h0 => ⟨(g6 h0).1, fun i hi => ?_⟩⟩
    rw [f i (by omega)]
    exact (g6 h0).2 i hi
theorem lp_sheet {q : am_Q} {M : am_M} {s n : Nat} (hs : s < 4) (hn : n ≤ 64) (h : ∀ g : Nat → Int, (∀ j, g j = if 64 * s ≤ j ∧ j < 64 * s + n then 0 else M 47 j) → q (aI n) (am_ob M 47 g)) : am_R K12_sheet q 55 [aR 44, aI (s : Int), aJ, aI (n : Int), aI 0] [] M := by
  have loop : ∀ (k i : Nat) (g : Nat → Int), i + k = n → (∀ j, g j = if 64 * s ≤ j ∧ j < 64 * s + i then 0 else M 47 j) → am_R K12_sheet q 55 [aR 44, aI (s : Int), aJ, aI (n : Int), aI (i : Int)] [] (am_ob M 47 g) := by
    intro k
    induction k with
    | zero =>
      intro i g hi hg
      have : i = n := by omega
      subst this
      exact g12_sheet_55 ⟨fun _ => h g hg, fun hc => absurd hc (by omega)⟩
    | succ k ih =>
      intro i g hi hg
      refine g12_sheet_55 ⟨fun hc => absurd hc (by omega), fun _ => ⟨by omega, by omega, by omega, by omega, ?_⟩⟩
      have e : (64 * (s : Int) + (i : Int)).toNat = 64 * s + i := by omega
      rw [e, up_ob_eq]
      refine ih (i + 1) _ (by omega) (fun j => ?_)
      unfold am_set
      by_cases e2 : j = 64 * s + i
      · rw [if_pos e2, if_pos (by omega)]
      · rw [if_neg e2, hg j]
        by_cases e3 : 64 * s ≤ j ∧ j < 64 * s + i
        · rw [if_pos e3, if_pos (by omega)]
        · rw [if_neg e3, if_neg (by omega)]
  have := loop n 0 (M 47) (by omega) (fun j => by rw [if_neg (by omega)])
  rw [ob_id] at this
  exact this
theorem met_bad {M : am_M} {x : Int} {q : am_Q} (hx : 0 ≤ x ∧ x ≤ 5) (h : q (aI (-10 - x)) (am_up M 44 4 x)) : S12_met [aR 44, aI x] M q := e12_met ⟨by omega, h⟩
theorem lc_sheet {M : am_M} {v1 v2 v3 : Int} (hJ : J M) : S11_sheet [aR 0, aI v1, aI v2, aI v3] M (fun r1 M1 => S12_sheet [aR 44, aI v1, aI v2, aI v3] M1 (fun r2 M2 => eqI r1 r2 ∧ J M2)) := by
  have hE := hJ.2.2.2.2.2.2.1
  have bad : ¬ ((0 ≤ v1 ∧ v1 < 4) ∧ (0 ≤ v2 ∧ v2 < 3) ∧ v3 ≤ 64) → S12_sheet [aR 44, aI v1, aI v2, aI v3] M (fun r2 M2 => eqI (aI (-2)) r2 ∧ J M2) := by
    intro hb
    exact e12_sheet ⟨fun _ => ⟨fun _ => ⟨fun hc => absurd hc (by omega), fun _ => ⟨⟨_, rfl, rfl⟩, hJ⟩⟩, fun _ => ⟨⟨_, rfl, rfl⟩, hJ⟩⟩, fun _ => ⟨⟨_, rfl, rfl⟩, hJ⟩⟩
  refine e11_sheet ⟨fun h1 => ⟨fun h2 => ⟨fun h3 => ⟨fun h4 => ?_, fun h4 => ?_⟩, fun h3 => bad (by omega)⟩, fun h2 => bad (by omega)⟩, fun h1 => bad (by omega)⟩
  · obtain ⟨s, hs⟩ : ∃ s : Nat, v1 = s := ⟨v1.toNat, by omega⟩
    obtain ⟨n, hn⟩ : ∃ n : Nat, v3 = n := ⟨v3.toNat, by omega⟩
    subst hs; subst hn
    have es : (s : Int).toNat = s := rfl
    rw [es]
    have hs4 : s < 4 := by omega
    have hal : am_al (35 + s + 4) 0 = some 64 := by
      have : s = 0 ∨ s = 1 ∨ s = 2 ∨ s = 3 := by omega
      rcases this with e | e | e | e <;> subst e <;> rfl
    refine e7_renew (o := 35 + s) (by unfold sx; omega) (ct_fillI hal (by decide) (fun x5 hx5 => ?_))
    have hx : x5 = (n : Int) := by rw [hx5, if_neg (by omega)]
    rw [hx]
    refine e12_sheet ⟨fun _ => ⟨fun _ => ⟨fun _ => ⟨fun _ => ⟨by omega, ?_⟩, fun hc => absurd hc (by omega)⟩, fun hc => absurd hc (by omega)⟩, fun hc => absurd hc (by omega)⟩, fun hc => absurd hc (by omega)⟩
    rw [es]
    refine lp_sheet hs4 (by omega) (fun g hg => ⟨⟨_, rfl, rfl⟩, ?_⟩)
    have fa : (am_up (am_up (am_up (am_up (am_ob M (35 + s + 4) (am_fl (M (35 + s + 4)) 64 0)) (35 + s) 1 v2) (35 + s) 2 (n : Int)) 45 s v2) 46 s (n : Int)) 47 = M 47 := by
      rw [up_ne (by decide), up_ne (by decide), up_ne (by omega), up_ne (by omega), ob_ne (by omega)]
    rw [fa] at hg
    have k5 : ∀ o, ¬ o = 35 + s → ¬ o = 35 + s + 4 → ¬ o = 45 → ¬ o = 46 → ¬ o = 47 → (am_ob (am_up (am_up (am_up (am_up (am_ob M (35 + s + 4) (am_fl (M (35 + s + 4)) 64 0)) (35 + s) 1 v2) (35 + s) 2 (n : Int)) 45 s v2) 46 s (n : Int)) 47 g) o = M o := by
      intro o a b c d e; rw [ob_ne e, up_ne d, up_ne c, up_ne a, up_ne a, ob_ne b]
    have f1 : (am_ob (am_up (am_up (am_up (am_up (am_ob M (35 + s + 4) (am_fl (M (35 + s + 4)) 64 0)) (35 + s) 1 v2) (35 + s) 2 (n : Int)) 45 s v2) 46 s (n : Int)) 47 g) (35 + s) = am_set (am_set (M (35 + s)) 1 v2) 2 (n : Int) := by
      rw [ob_ne (by omega), up_ne (by omega), up_ne (by omega), up_eq, up_eq, ob_ne (by omega)]
    have f4 : (am_ob (am_up (am_up (am_up (am_up (am_ob M (35 + s + 4) (am_fl (M (35 + s + 4)) 64 0)) (35 + s) 1 v2) (35 + s) 2 (n : Int)) 45 s v2) 46 s (n : Int)) 47 g) (35 + s + 4) = am_fl (M (35 + s + 4)) 64 0 := by
      rw [ob_ne (by omega), up_ne (by omega), up_ne (by omega), up_ne (by omega), up_ne (by omega), ob_eq]
    have f45 : (am_ob (am_up (am_up (am_up (am_up (am_ob M (35 + s + 4) (am_fl (M (35 + s + 4)) 64 0)) (35 + s) 1 v2) (35 + s) 2 (n : Int)) 45 s v2) 46 s (n : Int)) 47 g) 45 = am_set (M 45) s v2 := by
      rw [ob_ne (by omega), up_ne (by omega), up_eq, up_ne (by omega), up_ne (by omega), ob_ne (by omega)]
    have f46 : (am_ob (am_up (am_up (am_up (am_up (am_ob M (35 + s + 4) (am_fl (M (35 + s + 4)) 64 0)) (35 + s) 1 v2) (35 + s) 2 (n : Int)) 45 s v2) 46 s (n : Int)) 47 g) 46 = am_set (M 46) s (n : Int) := by
      rw [ob_ne (by omega), up_eq, up_ne (by omega), up_ne (by omega), up_ne (by omega), ob_ne (by omega)]
    have f47 : (am_ob (am_up (am_up (am_up (am_up (am_ob M (35 + s + 4) (am_fl (M (35 + s + 4)) 64 0)) (35 + s) 1 v2) (35 + s) 2 (n : Int)) 45 s v2) 46 s (n : Int)) 47 g) 47 = g := ob_eq
    generalize am_ob (am_up (am_up (am_up (am_up (am_ob M (35 + s + 4) (am_fl (M (35 + s + 4)) 64 0)) (35 + s) 1 v2) (35 + s) 2 (n : Int)) 45 s v2) 46 s (n : Int)) 47 g = M3 at *
    refine hJ.she (hE.up hs4 (fun t ht hne => ⟨?_, ?_, ?_, ?_, ?_⟩) ?_) (fun o a b c d e => k5 o (by omega) (by omega) b c d)
    · exact k5 _ (by omega) (by omega) (by omega) (by omega) (by omega)
    · exact k5 _ (by omega) (by omega) (by omega) (by omega) (by omega)
    · rw [f45, set_ne hne]
    · rw [f46, set_ne hne]
    · intro i hi; rw [f47, hg, if_neg (by omega)]
    · rw [f1, f4, f45, f46, f47, set_eq, set_eq, set_eq, set_ne (by decide), set_eq]
      refine ⟨rfl, by omega, by omega, by omega, by omega, fun _ => ⟨rfl, fun i hi => ?_⟩⟩
      rw [hg, if_pos (by omega)]
      unfold am_fl
      rw [if_pos (by omega)]
  · refine e11_found ⟨by omega, _, rfl, e12_sheet ⟨fun _ => ⟨fun _ => ⟨fun _ => ⟨fun hc => absurd hc h4, fun _ => met_bad (by omega) ⟨_, rfl, ⟨_, rfl, rfl⟩, hJ.fd⟩⟩, fun hc => absurd hc (by omega)⟩, fun hc => absurd hc (by omega)⟩, fun hc => absurd hc (by omega)⟩⟩
theorem lc_lose {M : am_M} {v1 : Int} (hJ : J M) : S11_lose [aR 0, aI v1] M (fun r1 M1 => S12_lose [aR 44, aI v1] M1 (fun r2 M2 => eqI r1 r2 ∧ J M2)) := by
  have hE := hJ.2.2.2.2.2.2.1
  refine e11_lose ⟨fun h1 => ?_, fun h1 => e12_lose ⟨fun hc => absurd hc (by omega), fun _ => ⟨⟨_, rfl, rfl⟩, hJ⟩⟩⟩
  obtain ⟨s, hs⟩ : ∃ s : Nat, v1 = s := ⟨v1.toNat, by omega⟩
  subst hs
  have es : (s : Int).toNat = s := rfl
  rw [es]
  have hs4 : s < 4 := by omega
  obtain ⟨g1, g2, g3, g4, g5, g6⟩ := hE s hs4
  refine ⟨fun h2 => ?_, fun h2 x4 hx4 => ?_⟩
  · refine e11_found ⟨by omega, _, rfl, e12_lose ⟨fun _ => ⟨by omega, ?_⟩, fun hc => absurd hc (by omega)⟩⟩
    rw [es, up_ne (by decide)]
    exact ⟨fun hc => absurd hc (by omega), fun _ => met_bad (by omega) ⟨_, rfl, ⟨_, rfl, rfl⟩, hJ.fd⟩⟩
  · refine e7_giveUp (o := 35 + s) (by unfold sx; omega) (e12_lose ⟨fun _ => ⟨by omega, ?_⟩, fun hc => absurd hc (by omega)⟩)
    rw [es, up_ne (by omega), up_ne (by omega), up_ne (by omega), up_ne (by omega)]
    refine ⟨fun h0 => ⟨⟨_, rfl, ?_⟩, ?_⟩, fun hc => absurd hc (by omega)⟩
    · rw [hx4, (g6 h0).1]
    · have k5 : ∀ o, ¬ o = 35 + s → ¬ o = 45 → (am_up (am_up (am_up M (35 + s) 1 (-1)) (35 + s) 2 0) 45 s (-1)) o = M o := by
        intro o a b; rw [up_ne b, up_ne a, up_ne a]
      have f1 : (am_up (am_up (am_up M (35 + s) 1 (-1)) (35 + s) 2 0) 45 s (-1)) (35 + s) 1 = -1 := by rw [up_ne (by omega), up_eq, set_ne (by decide), up_eq, set_eq]
      have f45 : (am_up (am_up (am_up M (35 + s) 1 (-1)) (35 + s) 2 0) 45 s (-1)) 45 = am_set (M 45) s (-1) := by rw [up_eq, up_ne (by omega), up_ne (by omega)]
      generalize am_up (am_up (am_up M (35 + s) 1 (-1)) (35 + s) 2 0) 45 s (-1) = M3 at *
      refine hJ.she (hE.up hs4 (fun t ht hne => ⟨?_, ?_, ?_, ?_, ?_⟩) ?_) (fun o a b c d e => k5 o (by omega) (by omega))
      · exact k5 _ (by omega) (by omega)
      · exact k5 _ (by omega) (by omega)
      · rw [f45, set_ne hne]
      · rw [k5 _ (by omega) (by omega)]
      · intro i hi; rw [k5 _ (by omega) (by omega)]
      · rw [f1, f45, set_eq, k5 46 (by omega) (by omega)]
        exact ⟨rfl, by omega, by omega, g4, g5, fun hc => absurd hc (by omega)⟩
