/-! read, copy -/
/-- the first k items, one after another, so far as each is a habit -/
def rdN (it : Nat → Int) (n : Int) : Nat → Nat → Nat
  | 0, i => i
  | k + 1, i => if (i : Int) < n ∧ 0 ≤ it i ∧ it i ≤ 16 then rdN it n k (i + 1) else i
theorem rdN_le (it : Nat → Int) (n : Int) : ∀ k i, i ≤ rdN it n k i ∧ rdN it n k i ≤ i + k := by
  intro k
  induction k with
  | zero => intro i; unfold rdN; omega
  | succ k ih => intro i; unfold rdN; have := ih (i + 1); split <;> omega
theorem rdN_in (it : Nat → Int) (n : Int) : ∀ k i j, i ≤ j → j < rdN it n k i → 0 ≤ it j ∧ it j ≤ 16 := by
  intro k
  induction k with
  | zero => intro i j h1 h2; unfold rdN at h2; omega
  | succ k ih =>
    intro i j h1 h2
    unfold rdN at h2
    by_cases h : (i : Int) < n ∧ 0 ≤ it i ∧ it i ≤ 16
    · rw [if_pos h] at h2
      by_cases e : j = i
      · subst e; exact h.2
      · exact ih (i + 1) j (by omega) h2
    · rw [if_neg h] at h2; omega
theorem rdN_congr {it it' : Nat → Int} {n : Int} (h : ∀ i : Nat, (i : Int) < n → it i = it' i) : ∀ k i, rdN it n k i = rdN it' n k i := by
  intro k
  induction k with
  | zero => intro i; rfl
  | succ k ih =>
    intro i
    unfold rdN
    by_cases e : (i : Int) < n
    · rw [h i e, ih]
    · rw [if_neg (by omega), if_neg (by omega)]
theorem lp_read11 {q : am_Q} {M : am_M} {o : Nat} (ho : sx o) (hn : 0 ≤ M o 2 ∧ M o 2 ≤ 64)
    (h : ∀ g : Nat → Int, (∀ j, g j = if j < rdN (M (o + 4)) (M o 2) 5 0 then M (o + 4) j else M 17 j) → q (aI (rdN (M (o + 4)) (M o 2) 5 0 : Nat)) (am_ob M 17 g)) : am_R K11_read q 28 [aR 0, aJ, aR o, aI 0] [] M := by
  have ho2 : ¬ o = 17 ∧ ¬ o + 4 = 17 := by unfold sx at ho; omega
  have loop : ∀ (k i : Nat) (g : Nat → Int), i + k = 5 → (∀ j, g j = if j < i then M (o + 4) j else M 17 j) → rdN (M (o + 4)) (M o 2) 5 0 = rdN (M (o + 4)) (M o 2) k i → am_R K11_read q 28 [aR 0, aJ, aR o, aI (i : Int)] [] (am_ob M 17 g) := by
    intro k
    induction k with
    | zero =>
      intro i g hi hg hr
      have : rdN (M (o + 4)) (M o 2) 5 0 = i := hr
      rw [this] at h
      exact g11_read_28 ho ⟨fun _ => h g hg, fun hc => absurd hc (by omega)⟩
    | succ k ih =>
      intro i g hi hg hr
      have ei : (i : Int).toNat = i := rfl
      refine g11_read_28 ho ⟨fun hc => absurd hc (by omega), fun _ => ?_⟩
      rw [ob_ne ho2.1, ob_ne ho2.2]
      have hrr : rdN (M (o + 4)) (M o 2) (k + 1) i = if (i : Int) < M o 2 ∧ 0 ≤ M (o + 4) i ∧ M (o + 4) i ≤ 16 then rdN (M (o + 4)) (M o 2) k (i + 1) else i := rfl
      rw [hrr] at hr
      have stop : ¬ ((i : Int) < M o 2 ∧ 0 ≤ M (o + 4) i ∧ M (o + 4) i ≤ 16) → q (aI (i : Int)) (am_ob M 17 g) := by
        intro hc
        rw [if_neg hc] at hr
        have : rdN (M (o + 4)) (M o 2) 5 0 = i := hr
        rw [this] at h
        exact h g hg
      refine ⟨fun h1 => ?_, fun h1 => stop (by omega)⟩
      unfold f_7_itemAt
      rw [if_pos h1, ei]
      refine ⟨fun h2 x4 hx4 => ⟨by omega, by omega, ?_⟩, fun h2 => stop (by omega)⟩
      rw [up_ob_eq]
      rw [if_pos (by omega)] at hr
      refine ih (i + 1) _ (by omega) (fun j => ?_) hr
      unfold am_set
      by_cases e : j = i
      · rw [if_pos e, if_pos (by omega), hx4, e]
      · rw [if_neg e, hg j]
        by_cases e2 : j < i
        · rw [if_pos e2, if_pos (by omega)]
        · rw [if_neg e2, if_neg (by omega)]
  have := loop 5 0 (M 17) rfl (fun j => by rw [if_neg (by omega)]) rfl
  rw [ob_id] at this
  exact this
theorem lp_read12 {q : am_Q} {M : am_M} {s : Nat} (hs : s < 4) (hn : 0 ≤ M 46 s ∧ M 46 s ≤ 64) (hh : ∀ j, j < 5 → 0 ≤ M 56 j ∧ M 56 j ≤ 16)
    (h : ∀ g : Nat → Int, (∀ j, g j = if j < rdN (fun i => M 47 (64 * s + i)) (M 46 s) 5 0 then M 47 (64 * s + j) else M 56 j) → q (aI (rdN (fun i => M 47 (64 * s + i)) (M 46 s) 5 0 : Nat)) (am_ob M 56 g)) : am_R K12_read q 27 [aR 44, aI (s : Int), aI 0] [] M := by
  generalize hit : (fun i => M 47 (64 * s + i)) = it at h
  have hit' : ∀ i, M 47 (64 * s + i) = it i := fun i => congrFun hit i
  have es : (s : Int).toNat = s := rfl
  have loop : ∀ (k i : Nat) (g : Nat → Int), i + k = 5 → (∀ j, g j = if j < i then it j else M 56 j) → (∀ j, j < 5 → 0 ≤ g j ∧ g j ≤ 16) → rdN it (M 46 s) 5 0 = rdN it (M 46 s) k i → am_R K12_read q 27 [aR 44, aI (s : Int), aI (i : Int)] [] (am_ob M 56 g) := by
    intro k
    induction k with
    | zero =>
      intro i g hi hg hr5 hr
      have hi5 : i = 5 := by omega
      have : rdN it (M 46 s) 5 0 = i := hr
      rw [this] at h
      have fin : q (aI (i : Int)) (am_ob M 56 g) := h g (fun j => by rw [hg j]; split <;> simp [hit'])
      refine g12_read_27 ⟨by omega, ?_⟩
      rw [es, ob_ne (by decide)]
      refine ⟨fun _ => fin, fun _ => ⟨by omega, by omega, by omega, e12_person ⟨fun hc => absurd hc (by omega), fun _ => ⟨_, rfl, fun _ => fin, fun hc => absurd hc (by omega)⟩⟩⟩⟩
    | succ k ih =>
      intro i g hi hg hr5 hr
      have ei : (i : Int).toNat = i := rfl
      have e : (64 * (s : Int) + (i : Int)).toNat = 64 * s + i := by omega
      have hrr : rdN it (M 46 s) (k + 1) i = if (i : Int) < M 46 s ∧ 0 ≤ it i ∧ it i ≤ 16 then rdN it (M 46 s) k (i + 1) else i := rfl
      rw [hrr] at hr
      have stop : ¬ ((i : Int) < M 46 s ∧ 0 ≤ it i ∧ it i ≤ 16) → q (aI (i : Int)) (am_ob M 56 g) := by
        intro hc
        rw [if_neg hc] at hr
        have : rdN it (M 46 s) 5 0 = i := hr
        rw [this] at h
        exact h g (fun j => by rw [hg j]; split <;> simp [hit'])
      refine g12_read_27 ⟨by omega, ?_⟩
      rw [es, ob_ne (by decide), e, ob_ne (by decide), hit']
      refine ⟨fun hc => stop (by omega), fun h1 => ⟨by omega, by omega, by omega, ?_⟩⟩
      refine e12_person ⟨fun _ => ⟨fun _ x4 hx4 => ⟨fun h2 => ⟨⟨fun _ => by omega, fun hc => absurd rfl hc⟩, fun x7 hx7 => ⟨fun _ => by omega, fun x9 hx9 => ⟨by omega, fun x11 hx11 => ⟨_, rfl, ?_⟩⟩⟩⟩, fun h2 => ⟨_, rfl, fun _ => stop (by have e : x4 = 16 := hx4; omega), fun hc => absurd hc (by omega)⟩⟩, fun hc => absurd hc (by omega)⟩, fun hc => absurd hc (by omega)⟩
      have hx4' : x4 = 16 := hx4
      have e7 : x7 = g i := by rw [hx7, if_pos rfl, ob_eq, ei]
      have e9 : x9 = it i := hx9
      have e11 : x11 = (am_up (am_ob M 56 g) 56 ((i : Int).toNat) x9) 57 ((i : Int).toNat) := by rw [hx11, if_neg (by decide)]; rfl
      have := hr5 i (by omega)
      refine ⟨fun hc => absurd hc (by omega), fun _ => ⟨by omega, ?_⟩⟩
      rw [up_id' e11, up_ob_eq, ei]
      rw [if_pos (by omega)] at hr
      refine ih (i + 1) _ (by omega) (fun j => ?_) (fun j hj => ?_) hr
      · unfold am_set
        by_cases e : j = i
        · rw [if_pos e, if_pos (by omega), e9, e]
        · rw [if_neg e, hg j]
          by_cases e2 : j < i
          · rw [if_pos e2, if_pos (by omega)]
          · rw [if_neg e2, if_neg (by omega)]
      · unfold am_set
        by_cases e : j = i
        · rw [if_pos e]; omega
        · rw [if_neg e]; exact hr5 j hj
  have := loop 5 0 (M 56) rfl (fun j => by rw [if_neg (by omega)]) hh rfl
  rw [ob_id] at this
  exact this
theorem lc_read {M : am_M} {v1 : Int} (hJ : J M) : S11_read [aR 0, aI v1] M (fun r1 M1 => S12_read [aR 44, aI v1] M1 (fun r2 M2 => eqI r1 r2 ∧ J M2)) := by
  have hE := hJ.2.2.2.2.2.2.1
  have hH := hJ.2.2.2.1
  refine e11_read ⟨fun h1 => ?_, fun h1 => e12_read ⟨fun hc => absurd hc (by omega), fun _ => ⟨⟨_, rfl, rfl⟩, hJ⟩⟩⟩
  obtain ⟨s, hs⟩ : ∃ s : Nat, v1 = s := ⟨v1.toNat, by omega⟩
  subst hs
  have es : (s : Int).toNat = s := rfl
  rw [es]
  have hs4 : s < 4 := by omega
  obtain ⟨g1, g2, g3, g4, g5, g6⟩ := hE s hs4
  refine ⟨fun h2 => ?_, fun h2 => ?_⟩
  · refine e11_found ⟨by omega, _, rfl, e12_read ⟨fun _ => ⟨by omega, ?_⟩, fun hc => absurd hc (by omega)⟩⟩
    rw [es, up_ne (by decide)]
    exact ⟨fun hc => absurd hc (by omega), fun _ => met_bad (by omega) ⟨_, rfl, ⟨_, rfl, rfl⟩, hJ.fd⟩⟩
  · obtain ⟨g7, g8⟩ := g6 (by omega)
    refine lp_read11 (by unfold sx; omega) (by omega) (fun g hg => ?_)
    have er : rdN (M (35 + s + 4)) (M (35 + s) 2) 5 0 = rdN (fun i => M 47 (64 * s + i)) (M 46 s) 5 0 := by
      rw [g7]; exact rdN_congr g8 5 0
    refine e12_read ⟨fun _ => ⟨by omega, ?_⟩, fun hc => absurd hc (by omega)⟩
    rw [es, ob_ne (by decide)]
    refine ⟨fun _ => ?_, fun hc => absurd hc (by omega)⟩
    refine lp_read12 hs4 (by rw [ob_ne (by decide)]; omega) (fun j hj => by rw [ob_ne (by decide)]; exact (hH j hj).2) (fun g2 hg2 => ?_)
    rw [ob_ne (by decide), ob_ne (by decide), ob_ne (by decide), ← er] at hg2
    rw [ob_ne (by decide), ob_ne (by decide), ← er]
    have hle := rdN_le (M (35 + s + 4)) (M (35 + s) 2) 5 0
    have hin := rdN_in (M (35 + s + 4)) (M (35 + s) 2) 5 0
    refine ⟨⟨_, rfl, rfl⟩, hJ.per (fun k hk => ?_)⟩
    rw [hg k, hg2 k]
    by_cases e : k < rdN (M (35 + s + 4)) (M (35 + s) 2) 5 0
    · rw [if_pos e, if_pos e]
      have hsz : (k : Int) < M (35 + s) 2 := by
        have : ∀ kk i j, i ≤ j → j < rdN (M (35 + s + 4)) (M (35 + s) 2) kk i → (j : Int) < M (35 + s) 2 := by
          intro kk
          induction kk with
          | zero => intro i j a b; unfold rdN at b; omega
          | succ kk ih =>
            intro i j a b
            unfold rdN at b
            by_cases e : (i : Int) < M (35 + s) 2 ∧ 0 ≤ M (35 + s + 4) i ∧ M (35 + s + 4) i ≤ 16
            · rw [if_pos e] at b
              by_cases e2 : j = i
              · subst e2; exact e.1
              · exact ih (i + 1) j (by omega) b
            · rw [if_neg e] at b; omega
        exact this 5 0 k (by omega) e
      have h8 := g8 k (by omega)
      have := hin k (by omega) e
      rw [← h8]
      exact ⟨rfl, this⟩
    · rw [if_neg e, if_neg e]; exact hH k hk
