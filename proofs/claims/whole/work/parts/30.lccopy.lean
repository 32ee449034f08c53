/-! copy -/
theorem lp_copy {q : am_Q} {M : am_M} {s t a b n : Nat} (hs : s < 4) (ht : t < 4) (ha : a + n ≤ 64) (hb : b + n ≤ 64)
    (h : ∀ g g' : Nat → Int, (∀ j, g' j = if 64 * t + b ≤ j ∧ j < 64 * t + b + n then M 47 (64 * s + a + (j - (64 * t + b))) else M 47 j) → q (aI 1) (am_ob (am_ob M 48 g) 47 g')) : am_R K12_copy q 120 [aR 44, aI (s : Int), aI (a : Int), aI (t : Int), aI (b : Int), aI (n : Int), aI 0] [] M := by
  have loop2 : ∀ (k i : Nat) (g g' : Nat → Int), i + k = n → (∀ j, j < n → g j = M 47 (64 * s + a + j)) → (∀ j, g' j = if 64 * t + b ≤ j ∧ j < 64 * t + b + i then M 47 (64 * s + a + (j - (64 * t + b))) else M 47 j) → am_R K12_copy q 157 [aR 44, aJ, aJ, aI (t : Int), aI (b : Int), aI (n : Int), aI (i : Int)] [] (am_ob (am_ob M 48 g) 47 g') := by
    intro k
    induction k with
    | zero =>
      intro i g g' hi hg hg'
      have : i = n := by omega
      subst this
      exact g12_copy_157 ⟨fun _ => h g g' hg', fun hc => absurd hc (by omega)⟩
    | succ k ih =>
      intro i g g' hi hg hg'
      refine g12_copy_157 ⟨fun hc => absurd hc (by omega), fun _ => ⟨by omega, by omega, by omega, by omega, fun x2 hx2 => ⟨by omega, by omega, ?_⟩⟩⟩
      have e : (64 * (t : Int) + (b : Int) + (i : Int)).toNat = 64 * t + b + i := by omega
      have ei : (i : Int).toNat = i := rfl
      rw [ob_ne (by decide), ob_eq, ei, hg i (by omega)] at hx2
      rw [e, up_ob_eq]
      refine ih (i + 1) g _ (by omega) hg (fun j => ?_)
      unfold am_set
      by_cases e2 : j = 64 * t + b + i
      · rw [if_pos e2, if_pos (by omega), hx2]
        congr 1
        omega
      · rw [if_neg e2, hg' j]
        by_cases e3 : 64 * t + b ≤ j ∧ j < 64 * t + b + i
        · rw [if_pos e3, if_pos (by omega)]
        · rw [if_neg e3, if_neg (by omega)]
  have loop : ∀ (k i : Nat) (g : Nat → Int), i + k = n → (∀ j, j < i → g j = M 47 (64 * s + a + j)) → am_R K12_copy q 120 [aR 44, aI (s : Int), aI (a : Int), aI (t : Int), aI (b : Int), aI (n : Int), aI (i : Int)] [] (am_ob M 48 g) := by
    intro k
    induction k with
    | zero =>
      intro i g hi hg
      have : i = n := by omega
      subst this
      refine g12_copy_120 ⟨fun _ => ?_, fun hc => absurd hc (by omega)⟩
      have := loop2 i 0 g (M 47) (by omega) hg (fun j => by rw [if_neg (by omega)])
      have e : am_ob (am_ob M 48 g) 47 (M 47) = am_ob M 48 g := ob_id' (by rw [ob_ne (by decide)])
      rw [e] at this
      exact this
    | succ k ih =>
      intro i g hi hg
      refine g12_copy_120 ⟨fun hc => absurd hc (by omega), fun _ => ⟨by omega, by omega, by omega, by omega, fun x2 hx2 => ⟨by omega, by omega, ?_⟩⟩⟩
      have e : (64 * (s : Int) + (a : Int) + (i : Int)).toNat = 64 * s + a + i := by omega
      have ei : (i : Int).toNat = i := rfl
      rw [ob_ne (by decide), e] at hx2
      rw [ei, up_ob_eq]
      refine ih (i + 1) _ (by omega) (fun j hj => ?_)
      unfold am_set
      by_cases e2 : j = i
      · rw [if_pos e2, hx2, e2]
      · rw [if_neg e2]; exact hg j (by omega)
  have := loop n 0 (M 48) (by omega) (fun j hj => by omega)
  rw [ob_id] at this
  exact this
theorem lc_copy {M : am_M} {v1 v2 v3 v4 v5 : Int} (hJ : J M) (r2 : -2147483648 ≤ v2 ∧ v2 < 2147483648) (r4 : -2147483648 ≤ v4 ∧ v4 < 2147483648) (r5 : -2147483648 ≤ v5 ∧ v5 < 2147483648) : S11_copy [aR 0, aI v1, aI v2, aI v3, aI v4, aI v5] M (fun r1 M1 => S12_copy [aR 44, aI v1, aI v2, aI v3, aI v4, aI v5] M1 (fun r2 M2 => eqI r1 r2 ∧ J M2)) := by
  have hE := hJ.2.2.2.2.2.2.1
  refine e11_copy ⟨fun h1 => ⟨fun h3 => ?_, fun h3 => e12_copy ⟨fun _ => ⟨fun hc => absurd hc (by omega), fun _ => ⟨⟨_, rfl, rfl⟩, hJ⟩⟩, fun hc => absurd hc (by omega)⟩⟩, fun h1 => ⟨fun h3 => e12_copy ⟨fun hc => absurd hc (by omega), fun _ => ⟨⟨_, rfl, rfl⟩, hJ⟩⟩, fun h3 => e12_copy ⟨fun hc => absurd hc (by omega), fun _ => ⟨⟨_, rfl, rfl⟩, hJ⟩⟩⟩⟩
  obtain ⟨s, hs⟩ : ∃ s : Nat, v1 = s := ⟨v1.toNat, by omega⟩
  subst hs
  obtain ⟨t, ht⟩ : ∃ t : Nat, v3 = t := ⟨v3.toNat, by omega⟩
  subst ht
  have es : (s : Int).toNat = s := rfl
  have et : (t : Int).toNat = t := rfl
  rw [es, et]
  have hs4 : s < 4 := by omega
  have ht4 : t < 4 := by omega
  obtain ⟨g1, g2, g3, g4, g5, g6⟩ := hE s hs4
  obtain ⟨t1, t2, t3, t4, t5, t6⟩ := hE t ht4
  have f45 : ∀ x, (am_up M 0 16 x) 45 = M 45 := fun x => up_ne (by decide)
  have f46 : ∀ x, (am_up M 0 16 x) 46 = M 46 := fun x => up_ne (by decide)
  refine ⟨fun h2 => ?_, fun h2 => ⟨fun h4 => ?_, fun h4 => ⟨fun h5 => ?_, fun h5 => ?_⟩⟩⟩
  · refine e11_found ⟨by omega, _, rfl, e12_copy ⟨fun _ => ⟨fun _ => ⟨by omega, ?_⟩, fun hc => absurd hc (by omega)⟩, fun hc => absurd hc (by omega)⟩⟩
    rw [es, f45]
    exact ⟨fun _ => met_bad (by omega) ⟨_, rfl, ⟨_, rfl, rfl⟩, hJ.fd⟩, fun hc => absurd hc (by omega)⟩
  · refine e11_found ⟨by omega, _, rfl, e12_copy ⟨fun _ => ⟨fun _ => ⟨by omega, ?_⟩, fun hc => absurd hc (by omega)⟩, fun hc => absurd hc (by omega)⟩⟩
    rw [es, et, f45]
    exact ⟨fun hc => absurd hc (by omega), fun _ => ⟨by omega, fun hc => absurd hc (by omega), fun _ => met_bad (by omega) ⟨_, rfl, ⟨_, rfl, rfl⟩, hJ.fd⟩⟩⟩
  · have s7 := (g6 (by omega)).1
    have t7 := (t6 (by omega)).1
    have bad : (v2 < 0 ∨ v4 < 0 ∨ v5 < 0 ∨ M 46 s < v2 + v5 ∨ M 46 t < v4 + v5) → S11_found [aR 0, aI 2] M (fun r M1 => ∃ x : Int, r = aI x ∧ S12_copy [aR 44, aI (s : Int), aI v2, aI (t : Int), aI v4, aI v5] M1 (fun r2 M2 => eqI (aI x) r2 ∧ J M2)) := by
      intro hb
      have fin : S12_met [aR 44, aI 2] (am_up M 0 16 2) (fun r M2 => ∃ x : Int, r = aI x ∧ eqI (aI (-10 - 2)) (aI x) ∧ J M2) := met_bad (by omega) ⟨_, rfl, ⟨_, rfl, rfl⟩, hJ.fd⟩
      refine e11_found ⟨by omega, _, rfl, e12_copy ⟨fun _ => ⟨fun _ => ⟨by omega, ?_⟩, fun hc => absurd hc (by omega)⟩, fun hc => absurd hc (by omega)⟩⟩
      rw [es, et, f45, f46]
      refine ⟨fun hc => absurd hc (by omega), fun _ => ⟨by omega, fun _ => ⟨fun _ => ⟨fun _ => fin, fun a1 => ⟨fun _ => fin, fun a2 => ⟨fun _ => fin, fun a3 => ⟨by omega, fun _ => fin, fun a4 => ⟨by omega, fun hc => absurd hc (by omega), fun _ => fin⟩⟩⟩⟩⟩, fun hc => absurd hc (by omega)⟩, fun hc => absurd hc (by omega)⟩⟩
    refine ⟨by unfold ob_7_hasRun; omega, fun h6 => ⟨by unfold ob_7_hasRun; omega, fun h7 => ⟨by omega, ?_⟩, fun h7 => bad (by omega)⟩, fun h6 => bad (by omega)⟩
    obtain ⟨a, ha⟩ : ∃ a : Nat, v2 = a := ⟨v2.toNat, by omega⟩
    obtain ⟨b, hb⟩ : ∃ b : Nat, v4 = b := ⟨v4.toNat, by omega⟩
    obtain ⟨n, hn⟩ : ∃ n : Nat, v5 = n := ⟨v5.toNat, by omega⟩
    subst ha; subst hb; subst hn
    have ea : (a : Int).toNat = a := rfl
    have eb : (b : Int).toNat = b := rfl
    have en : (n : Int).toNat = n := rfl
    rw [ea, eb, en]
    generalize hC : am_cpy (M (35 + s + 4)) (M (35 + t + 4)) a b n = cc
    have o45 : (am_ob M (35 + t + 4) cc) 45 = M 45 := ob_ne (by omega)
    have o46 : (am_ob M (35 + t + 4) cc) 46 = M 46 := ob_ne (by omega)
    have o47 : (am_ob M (35 + t + 4) cc) 47 = M 47 := ob_ne (by omega)
    refine e12_copy ⟨fun _ => ⟨fun _ => ⟨by omega, ?_⟩, fun hc => absurd hc (by omega)⟩, fun hc => absurd hc (by omega)⟩
    rw [es, et, o45, o46]
    refine ⟨fun hc => absurd hc (by omega), fun _ => ⟨by omega, fun _ => ⟨fun _ => ⟨fun hc => absurd hc (by omega), fun a1 => ⟨fun hc => absurd hc (by omega), fun a2 => ⟨fun hc => absurd hc (by omega), fun a3 => ⟨by omega, fun hc => absurd hc (by omega), fun a4 => ⟨by omega, fun _ => ?_, fun hc => absurd hc (by omega)⟩⟩⟩⟩⟩, fun hc => absurd hc (by omega)⟩, fun hc => absurd hc (by omega)⟩⟩
    refine lp_copy hs4 ht4 (by omega) (by omega) (fun g g' hg' => ⟨⟨_, rfl, rfl⟩, ?_⟩)
    rw [o47] at hg'
    have k5 : ∀ o, ¬ o = 35 + t + 4 → ¬ o = 47 → ¬ o = 48 → (am_ob (am_ob (am_ob M (35 + t + 4) cc) 48 g) 47 g') o = M o := by
      intro o x y z; rw [ob_ne y, ob_ne z, ob_ne x]
    have f4 : (am_ob (am_ob (am_ob M (35 + t + 4) cc) 48 g) 47 g') (35 + t + 4) = cc := by rw [ob_ne (by omega), ob_ne (by omega), ob_eq]
    have f47 : (am_ob (am_ob (am_ob M (35 + t + 4) cc) 48 g) 47 g') 47 = g' := ob_eq
    generalize am_ob (am_ob (am_ob M (35 + t + 4) cc) 48 g) 47 g' = M3 at *
    refine hJ.she (hE.up ht4 (fun u hu hne => ⟨?_, ?_, ?_, ?_, ?_⟩) ?_) (fun o a b c d e => k5 o (by omega) (by omega) (by omega))
    · exact k5 _ (by omega) (by omega) (by omega)
    · exact k5 _ (by omega) (by omega) (by omega)
    · rw [k5 _ (by omega) (by omega) (by omega)]
    · rw [k5 _ (by omega) (by omega) (by omega)]
    · intro j hj; rw [f47, hg', if_neg (by omega)]
    · rw [k5 (35 + t) (by omega) (by omega) (by omega), k5 45 (by omega) (by omega) (by omega), k5 46 (by omega) (by omega) (by omega), f4, f47]
      refine ⟨t1, t2, t3, t4, t5, fun a0 => ⟨t7, fun j hj => ?_⟩⟩
      rw [← hC, hg']
      unfold am_cpy
      by_cases e : b ≤ j ∧ j < b + n
      · rw [if_pos e, if_pos (by omega)]
        have := (g6 (by omega)).2 (a + (j - b)) (by omega)
        rw [this]
        congr 1
        omega
      · rw [if_neg e, if_neg (by omega)]
        exact (t6 a0).2 j hj
  · refine e11_found ⟨by omega, _, rfl, e12_copy ⟨fun _ => ⟨fun _ => ⟨by omega, ?_⟩, fun hc => absurd hc (by omega)⟩, fun hc => absurd hc (by omega)⟩⟩
    rw [es, et, f45]
    exact ⟨fun hc => absurd hc (by omega), fun _ => ⟨by omega, fun _ => ⟨fun hc => absurd hc (by omega), fun _ => met_bad (by omega) ⟨_, rfl, ⟨_, rfl, rfl⟩, hJ.fd⟩⟩, fun hc => absurd hc (by omega)⟩⟩
