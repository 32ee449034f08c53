/-! order, way, walk -/
theorem up_up {M : am_M} {o j : Nat} {x y : Int} : am_up (am_up M o j x) o j y = am_up M o j y := by
  funext p; unfold am_up
  by_cases h : p = o
  · simp [h]; funext i; unfold am_set; by_cases hi : i = j <;> simp [hi]
  · simp [h]
theorem set_set {f : Nat → Int} {j : Nat} {x y : Int} : am_set (am_set f j x) j y = am_set f j y := by
  funext i; unfold am_set; by_cases hi : i = j <;> simp [hi]
/-- the place of the fault of an order, or -1; t: who is there already -/
def oF (b : Nat → Int) (n : Nat) : Nat → Int → Int
  | 0, _ => -1
  | k + 1, t => if 0 ≤ b (n - (k + 1)) - 97 ∧ b (n - (k + 1)) - 97 < 5 ∧ am_and (am_shr t (b (n - (k + 1)) - 97)) 1 = 0 then oF b n k (am_or t (am_shl 1 (b (n - (k + 1)) - 97))) else ((n - (k + 1) : Nat) : Int)
theorem byteAt_in5 {m0 m1 : Nat → Int} {i n : Nat} (h : m0 2 = n) (hi : i < n) (hn : n ≤ 71) : f_9_byteAt m0 m1 (i : Int) = m1 i := byteAt_in h hi hn
theorem ct_takeOrder {q : am_Q} {M : am_M} {n : Nat} (hn : M 3 2 = n) (hn5 : n ≤ 5) (hb : ∀ i, i < n → 0 ≤ M 4 i ∧ M 4 i < 256)
    (h : ∀ g : Nat → Int, (oF (M 4) n n 0 = -1 → ∀ i, i < n → g i = M 4 i - 97) → q (aI (oF (M 4) n n 0)) (am_ob (am_up M 15 4 (if oF (M 4) n n 0 = -1 then n else 0)) 19 g)) : S3_takeText [aR 15, aR 3] M q := by
  refine e3_takeText ?_
  have loop : ∀ (k : Nat) (t : Int) (g : Nat → Int), k ≤ n → oF (M 4) n k t = oF (M 4) n n 0 → (∀ i, i < n - k → g i = M 4 i - 97) → am_R K3_takeText q 9 [aR 15, aR 3, aI t, aI ((n - k : Nat) : Int), aJ] [] (am_ob (am_up M 15 4 0) 19 g) := by
    intro k
    induction k with
    | zero =>
      intro t g hk ho hg
      have ho' : oF (M 4) n n 0 = -1 := by rw [← ho]; rfl
      refine g3_takeText_9 ⟨fun _ => ?_, fun hx => ?_⟩
      · intro x2 hx2
        rw [ob_ne (by decide), up_ne (by decide), hn] at hx2
        rw [up_ob_ne (by decide), up_up, hx2]
        have := h g (fun _ i hi => hg i (by omega))
        rw [ho', if_pos rfl] at this
        exact this
      · exfalso
        rw [ob_ne (by decide), up_ne (by decide), hn] at hx
        apply hx
        simp
    | succ k ih =>
      intro t g hk ho hg
      have hi : n - (k + 1) < n := by omega
      have hi2 : ((n - (k + 1) : Nat) : Int) + 1 = ((n - k : Nat) : Int) := by omega
      have hbi := hb (n - (k + 1)) hi
      rw [oF] at ho
      have bad : ∀ (_ : oF (M 4) n n 0 = ((n - (k + 1) : Nat) : Int)), q (aI ((n - (k + 1) : Nat) : Int)) (am_ob (am_up M 15 4 0) 19 g) := by
        intro e
        have := h g (fun e2 => by rw [e] at e2; omega)
        rw [e, if_neg (by omega)] at this
        exact this
      refine g3_takeText_9 ⟨fun hx => ?_, fun _ => ?_⟩
      · exfalso
        rw [ob_ne (by decide), up_ne (by decide), hn] at hx
        omega
      · rw [ob_ne (by decide), ob_ne (by decide), up_ne (by decide), up_ne (by decide), byteAt_in hn hi (by omega)]
        refine ⟨by omega, fun x3 hx3 => ?_⟩
        rw [← hx3] at ho
        refine ⟨fun hp => ⟨by omega, fun hz => ⟨fun h5 => ?_, fun h5 => absurd h5 (by omega)⟩, fun hz => ?_⟩, fun hp => ?_⟩
        · rw [if_pos ⟨by omega, by omega, hz⟩] at ho
          intro x7 hx7
          refine ⟨by omega, by omega, ?_⟩
          rw [up_ob_eq, hi2, hx7]
          refine ih _ _ (by omega) ho ?_
          intro i hi3
          rw [Int.toNat_natCast]
          by_cases e : i = n - (k + 1)
          · subst e; rw [set_eq]; exact hx3
          · rw [set_ne e]; exact hg i (by omega)
        · rw [if_neg (fun h9 => hz h9.2.2)] at ho
          exact bad ho.symm
        · rw [if_neg (fun h9 => hp ⟨by omega, by omega⟩)] at ho
          exact bad ho.symm
  have := loop n 0 (M 19) (Nat.le_refl _) rfl (fun i hi => by omega)
  rw [Nat.sub_self] at this
  have e : am_ob (am_up M 15 4 0) 19 (M 19) = am_up M 15 4 0 := ob_id' (by rw [up_ne (by decide)])
  rw [e] at this
  exact this
/-- the place of the fault of a way, or -1 -/
def wF (b : Nat → Int) (n : Nat) : Nat → Int
  | 0 => -1
  | k + 1 => if f_10_directionOf (b (n - (k + 1))) = -1 then ((n - (k + 1) : Nat) : Int) else wF b n k
theorem dir_rng (b : Int) : -1 ≤ f_10_directionOf b ∧ f_10_directionOf b < 4 := by unfold f_10_directionOf; split <;> (try split) <;> (try split) <;> (try split) <;> omega
theorem ct_takeWay {q : am_Q} {M : am_M} {n : Nat} (hn : M 5 2 = n) (hn5 : n ≤ 40)
    (h : ∀ g : Nat → Int, (wF (M 6) n n = -1 → ∀ i, i < n → g i = f_10_directionOf (M 6 i)) → q (aI (wF (M 6) n n)) (am_ob (am_up M 20 3 (if wF (M 6) n n = -1 then n else 0)) 21 g)) : S10_takeText [aR 20, aR 5] M q := by
  refine e10_takeText ?_
  have loop : ∀ (k : Nat) (g : Nat → Int), k ≤ n → wF (M 6) n k = wF (M 6) n n → (∀ i, i < n - k → g i = f_10_directionOf (M 6 i)) → am_R K10_takeText q 7 [aR 20, aR 5, aI ((n - k : Nat) : Int), aJ] [] (am_ob (am_up M 20 3 0) 21 g) := by
    intro k
    induction k with
    | zero =>
      intro g hk ho hg
      have ho' : wF (M 6) n n = -1 := by rw [← ho]; rfl
      refine g10_takeText_7 ⟨fun _ => ?_, fun hx => ?_⟩
      · intro x2 hx2
        rw [ob_ne (by decide), up_ne (by decide), hn] at hx2
        rw [up_ob_ne (by decide), up_up, hx2]
        have := h g (fun _ i hi => hg i (by omega))
        rw [ho', if_pos rfl] at this
        exact this
      · exfalso
        rw [ob_ne (by decide), up_ne (by decide), hn] at hx
        apply hx
        simp
    | succ k ih =>
      intro g hk ho hg
      have hi : n - (k + 1) < n := by omega
      have hi2 : ((n - (k + 1) : Nat) : Int) + 1 = ((n - k : Nat) : Int) := by omega
      rw [wF] at ho
      refine g10_takeText_7 ⟨fun hx => ?_, fun _ => ?_⟩
      · exfalso
        rw [ob_ne (by decide), up_ne (by decide), hn] at hx
        omega
      · intro x3 hx3
        rw [ob_ne (by decide), ob_ne (by decide), up_ne (by decide), up_ne (by decide), byteAt_in hn hi (by omega)] at hx3
        rw [← hx3] at ho
        refine ⟨fun hz => ?_, fun hz => ⟨fun h4 => ⟨by omega, by omega, ?_⟩, fun h4 => absurd h4 (by omega)⟩⟩
        · rw [if_pos hz] at ho
          have := h g (fun e2 => by rw [← ho] at e2; omega)
          rw [← ho, if_neg (by omega)] at this
          exact this
        · rw [if_neg hz] at ho
          rw [up_ob_eq, hi2]
          refine ih _ (by omega) ho ?_
          intro i hi3
          rw [Int.toNat_natCast]
          by_cases e : i = n - (k + 1)
          · subst e; rw [set_eq]; exact hx3
          · rw [set_ne e]; exact hg i (by omega)
  have := loop n (M 21) (Nat.le_refl _) rfl (fun i hi => by omega)
  rw [Nat.sub_self] at this
  have e : am_ob (am_up M 20 3 0) 21 (M 21) = am_up M 20 3 0 := ob_id' (by rw [up_ne (by decide)])
  rw [e] at this
  exact this
/-- beside: by the class's own table -/
def bs (d : Nat → Int) (p l : Int) : Int := f_2_beside (nbT d) p l
theorem pon_rng (d : Nat → Int) (p : Int) : f_2_placeOrNone d p = -1 ∨ (f_2_placeOrNone d p = p ∧ 0 ≤ p ∧ p < 64 ∧ ¬ d p.toNat = -1) := by
  unfold f_2_placeOrNone
  by_cases h : ¬ (p < 0) ∧ (¬ (64 ≤ p) ∧ ¬ ((d) (p.toNat) = (-1)))
  · rw [if_pos h]; exact Or.inr ⟨rfl, by omega, by omega, h.2.2⟩
  · rw [if_neg h]; exact Or.inl rfl
theorem nb_rng (d : Nat → Int) (p l : Int) : nb d p l = -1 ∨ (0 ≤ nb d p l ∧ nb d p l < 64 ∧ ¬ d (nb d p l).toNat = -1) := by
  unfold nb
  have k : ∀ x, f_2_placeOrNone d x = -1 ∨ (0 ≤ f_2_placeOrNone d x ∧ f_2_placeOrNone d x < 64 ∧ ¬ d (f_2_placeOrNone d x).toNat = -1) := by
    intro x
    rcases pon_rng d x with h | ⟨h1, h2, h3, h4⟩
    · exact Or.inl h
    · rw [h1]; exact Or.inr ⟨h2, h3, h4⟩
  split
  · exact k _
  split
  · split
    · exact Or.inl rfl
    · exact k _
  split
  · exact k _
  · split
    · exact Or.inl rfl
    · exact k _
theorem bs_in {d : Nat → Int} {p l : Int} (h0 : 0 ≤ p) (h1 : p < 64) (h2 : 0 ≤ l) (h3 : l < 4) : bs d p l = if d p.toNat = -1 then -1 else nb d p l := by
  unfold bs f_2_beside nbT
  rw [if_neg (by omega), if_neg (by omega)]
  have e1 : (p * 4 + l).toNat / 4 = p.toNat := by omega
  have e2 : (((p * 4 + l).toNat % 4 : Nat) : Int) = l := by omega
  have e3 : ((p.toNat : Nat) : Int) = p := by omega
  rw [e1, e2, e3]
  by_cases h : d p.toNat = -1
  · rw [if_pos h, if_neg (by simp [h])]
  · rw [if_neg h, if_pos ⟨by omega, h⟩]
theorem bs_rng (d : Nat → Int) (p l : Int) : bs d p l = -1 ∨ (0 ≤ bs d p l ∧ bs d p l < 64 ∧ ¬ d (bs d p l).toNat = -1) := by
  unfold bs f_2_beside
  split
  · exact Or.inl rfl
  split
  · exact Or.inl rfl
  unfold nbT
  split
  · exact nb_rng d _ _
  · exact Or.inl rfl
theorem ob_bs {m : Nat → Int} {p l : Int} (h0 : -1 ≤ p) (h1 : p < 64) (h2 : 0 ≤ l) (h3 : l < 4) : ob_2_beside m p l := by
  unfold ob_2_beside
  omega
/-- where one is behind j steps; how many are done -/
def wpos (d : Nat → Int) (lt : Nat → Int) (s : Int) : Nat → Int
  | 0 => s
  | j + 1 => bs d (wpos d lt s j) (lt j)
def wdn (d : Nat → Int) (lt : Nat → Int) (s : Int) : Nat → Nat → Nat
  | 0, i => i
  | k + 1, i => if wpos d lt s (i + 1) = -1 then i else wdn d lt s k (i + 1)
theorem ct_retrace {q : am_Q} {M : am_M} {d : Nat → Int} {n : Nat} (h9 : M 9 = nbT d) (hs : 0 ≤ M 20 2 ∧ M 20 2 < 64) (hn : M 20 3 = n) (hn40 : n ≤ 40) (hl : ∀ i, i < n → 0 ≤ M 21 i ∧ M 21 i < 4)
    (h : ∀ g : Nat → Int, (∀ j, j ≤ wdn d (M 21) (M 20 2) n 0 → g j = wpos d (M 21) (M 20 2) j) → q aJ (am_ob (am_up M 20 4 (wdn d (M 21) (M 20 2) n 0)) 22 g)) : S10_retrace [aR 20, aR 7] M q := by
  refine e10_retrace (fun x1 hx1 => ?_)
  generalize hgs : M 20 2 = s at *
  generalize hgl : M 21 = lt at *
  have loop : ∀ (k i : Nat) (g : Nat → Int), i + k = n → wdn d lt s k i = wdn d lt s n 0 → (∀ j, j ≤ i → g j = wpos d lt s j ∧ 0 ≤ g j ∧ g j < 64) → am_R K10_retrace q 17 [aR 20, aR 7, aI (i : Int), aJ] [] (am_ob (am_up M 20 4 i) 22 g) := by
    intro k
    induction k with
    | zero =>
      intro i g hi hw hg
      have : i = n := by omega
      subst this
      refine g10_retrace_17 ⟨fun _ => ?_, fun hx => ?_⟩
      · have e : wdn d lt s i 0 = i := by rw [← hw]; rfl
        have := h g (fun j hj => (hg j (by omega)).1)
        rw [e] at this
        exact this
      · exfalso
        rw [ob_ne (by decide), up_eq, set_ne (by decide), hn] at hx
        omega
    | succ k ih =>
      intro i g hi hw hg
      have hgi := hg i (Nat.le_refl _)
      have hli := hl i (by omega)
      refine g10_retrace_17 ⟨fun hx => ?_, fun _ => ⟨fun hx => absurd hx (by omega), fun _ => ⟨by omega, by omega, ?_⟩⟩⟩
      · exfalso
        rw [ob_ne (by decide), up_eq, set_ne (by decide), hn] at hx
        omega
      · have e22 : (am_ob (am_up M 20 4 (i : Int)) 22 g) 22 ((i : Int).toNat) = g i := by rw [ob_eq, Int.toNat_natCast]
        have e21 : (am_ob (am_up M 20 4 (i : Int)) 22 g) 21 ((i : Int).toNat) = lt i := by rw [ob_ne (by decide), up_ne (by decide), hgl, Int.toNat_natCast]
        have e9 : (am_ob (am_up M 20 4 (i : Int)) 22 g) 9 = nbT d := by rw [ob_ne (by decide), up_ne (by decide), h9]
        rw [e22, e21, e9]
        refine ⟨ob_bs (by omega) (by omega) hli.1 hli.2, fun x3 hx3 => ?_⟩
        have ex : x3 = wpos d lt s (i + 1) := by rw [hx3, hgi.1]; rfl
        rw [wdn] at hw
        refine ⟨fun hz => ?_, fun hz => ⟨by omega, by omega, fun x5 hx5 => ?_⟩⟩
        · rw [← ex, if_pos hz] at hw
          have := h g (fun j hj => (hg j (by omega)).1)
          rw [← hw] at this
          exact this
        · rw [← ex, if_neg hz] at hw
          rw [up_ob_eq, up_ob_ne (by decide), up_up, hx5]
          have hc : (i : Int) + 1 = ((i + 1 : Nat) : Int) := by omega
          rw [hc]
          refine ih (i + 1) _ (by omega) hw ?_
          intro j hj
          rw [Int.toNat_natCast]
          by_cases e : j = i + 1
          · subst e
            rw [set_eq]
            refine ⟨ex, ?_⟩
            have := bs_rng d (g i) (lt i)
            have e2 : x3 = bs d (g i) (lt i) := hx3
            rw [← e2] at this
            rcases this with h1 | h1
            · exact absurd h1 hz
            · exact ⟨h1.1, h1.2.1⟩
          · rw [set_ne e]
            exact hg j (by omega)
  have := loop n 0 (am_set (M 22) 0 x1) (by omega) rfl (fun j hj => by
    have : j = 0 := by omega
    subst this
    rw [set_eq, hx1]
    exact ⟨rfl, hs.1, hs.2⟩)
  have e : am_ob (am_up M 20 4 ((0 : Nat) : Int)) 22 (am_set (M 22) 0 x1) = am_up (am_up M 20 4 0) 22 0 x1 := by
    rw [up_ob (am_up M 20 4 0) 22 0 x1, up_ne (by decide)]
    rfl
  rw [e] at this
  exact this
