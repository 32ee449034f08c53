/-! order, way, walk: the reference -/
theorem and1 (x : Int) : am_and x 1 = 0 ∨ am_and x 1 = 1 := by
  unfold am_and
  have e : BitVec.ofInt 32 1 = 1#32 := by decide
  rw [e, BitVec.and_one_eq_setWidth_ofBool_getLsbD]
  cases (BitVec.ofInt 32 x).getLsbD 0
  · left; decide
  · right; decide
theorem ob_isIn {a b : Int} (h : 0 ≤ b ∧ b < 32) : ob_12_isIn a b := by unfold ob_12_isIn; exact h
theorem ct_readsOrder {q : am_Q} {M : am_M} {n : Nat} (hn : M 50 1 = n) (hn5 : n ≤ 5) (hb : ∀ i, i < n → 0 ≤ M 49 (80 + i) ∧ M 49 (80 + i) < 256)
    (h : ∀ g : Nat → Int, (oF (fun j => M 49 (80 + j)) n n 0 = -1 → ∀ i, i < n → g i = M 49 (80 + i) - 97) → q (aI (oF (fun j => M 49 (80 + j)) n n 0)) (am_ob (am_up M 44 9 (if oF (fun j => M 49 (80 + j)) n n 0 = -1 then n else 0)) 52 g)) : S12_readsOrder [aR 44] M q := by
  refine e12_readsOrder ?_
  generalize hO : oF (fun j => M 49 (80 + j)) n n 0 = O at h
  have loop : ∀ (k : Nat) (t : Int) (g : Nat → Int), k ≤ n → oF (fun j => M 49 (80 + j)) n k t = O → (∀ i, i < n - k → g i = M 49 (80 + i) - 97) → am_R K12_readsOrder q 9 [aR 44, aI t, aI ((n - k : Nat) : Int), aJ] [] (am_ob (am_up M 44 9 ((n - k : Nat) : Int)) 52 g) := by
    intro k
    induction k with
    | zero =>
      intro t g hk ho hg
      have ho' : O = -1 := by rw [← ho]; rfl
      refine g12_readsOrder_9 ⟨fun _ => ?_, fun hx => ?_⟩
      · have := h g (fun _ i hi => hg i (by omega))
        rw [ho', if_pos rfl] at this
        exact this
      · exfalso
        rw [ob_ne (by decide), up_ne (by decide), hn] at hx
        omega
    | succ k ih =>
      intro t g hk ho hg
      have hi : n - (k + 1) < n := by omega
      have hi2 : ((n - (k + 1) : Nat) : Int) + 1 = ((n - k : Nat) : Int) := by omega
      have hbi := hb (n - (k + 1)) hi
      have e44 : (am_ob (am_up M 44 9 ((n - (k + 1) : Nat) : Int)) 52 g) 44 9 = ((n - (k + 1) : Nat) : Int) := by rw [ob_ne (by decide), up_eq, set_eq]
      have e49 : (am_ob (am_up M 44 9 ((n - (k + 1) : Nat) : Int)) 52 g) 49 ((80 + ((n - (k + 1) : Nat) : Int)).toNat) = M 49 (80 + (n - (k + 1))) := by
        rw [ob_ne (by decide), up_ne (by decide)]
        congr 1
      rw [oF] at ho
      have bad : O = ((n - (k + 1) : Nat) : Int) → q (aI ((n - (k + 1) : Nat) : Int)) (am_up (am_ob (am_up M 44 9 ((n - (k + 1) : Nat) : Int)) 52 g) 44 9 0) := by
        intro e
        have := h g (fun e2 => by rw [e] at e2; omega)
        rw [e, if_neg (by omega)] at this
        rw [up_ob_ne (by decide), up_up]
        exact this
      refine g12_readsOrder_9 ⟨fun hx => ?_, fun _ => ?_⟩
      · exfalso
        rw [ob_ne (by decide), up_ne (by decide), hn] at hx
        omega
      · rw [e49, e44]
        refine ⟨by omega, by omega, by omega, fun x2 hx2 => ?_⟩
        rw [← hx2] at ho
        refine ⟨fun hp => ⟨ob_isIn (by omega), fun hz => ?_, fun hz => ⟨by omega, fun x5 hx5 => ⟨by omega, by omega, fun x6 hx6 => ⟨by omega, ?_⟩⟩⟩⟩, fun hp => ?_⟩
        · rw [if_neg (fun h9 => by rw [hz] at h9; omega)] at ho
          exact bad ho.symm
        · have hz0 : am_and (am_shr t x2) 1 = 0 := by rcases and1 (am_shr t x2) with h1 | h1; exact h1; exact absurd h1 hz
          rw [if_pos ⟨by omega, by omega, hz0⟩] at ho
          rw [up_ob_eq, up_ob_ne (by decide), up_up, hx6, hi2, hx5]
          refine ih _ _ (by omega) ho ?_
          intro i hi3
          rw [Int.toNat_natCast]
          by_cases e : i = n - (k + 1)
          · subst e; rw [set_eq]; exact hx2
          · rw [set_ne e]; exact hg i (by omega)
        · rw [if_neg (fun h9 => hp ⟨by omega, by omega⟩)] at ho
          exact bad ho.symm
  have := loop n 0 (M 52) (Nat.le_refl _) hO (fun i hi => by omega)
  rw [Nat.sub_self] at this
  have e : am_ob (am_up M 44 9 ((0 : Nat) : Int)) 52 (M 52) = am_up M 44 9 0 := ob_id' (by rw [up_ne (by decide)])
  rw [e] at this
  exact this
theorem lo_eq (b : Int) : f_12_letterOf b = f_10_directionOf b := by unfold f_12_letterOf f_10_directionOf; split <;> (try split) <;> (try split) <;> (try split) <;> (try split) <;> omega
theorem ct_readsWay {q : am_Q} {M : am_M} {n : Nat} (hn : M 50 2 = n) (hn5 : n ≤ 40)
    (h : ∀ g : Nat → Int, (wF (fun j => M 49 (160 + j)) n n = -1 → ∀ i, i < n → g i = f_10_directionOf (M 49 (160 + i))) → q (aI (wF (fun j => M 49 (160 + j)) n n)) (am_ob (am_up M 44 11 (if wF (fun j => M 49 (160 + j)) n n = -1 then n else 0)) 53 g)) : S12_readsWay [aR 44] M q := by
  refine e12_readsWay ?_
  generalize hO : wF (fun j => M 49 (160 + j)) n n = O at h
  have loop : ∀ (k : Nat) (g : Nat → Int), k ≤ n → wF (fun j => M 49 (160 + j)) n k = O → (∀ i, i < n - k → g i = f_10_directionOf (M 49 (160 + i))) → am_R K12_readsWay q 7 [aR 44, aI ((n - k : Nat) : Int), aJ] [] (am_ob (am_up M 44 11 ((n - k : Nat) : Int)) 53 g) := by
    intro k
    induction k with
    | zero =>
      intro g hk ho hg
      have ho' : O = -1 := by rw [← ho]; rfl
      refine g12_readsWay_7 ⟨fun _ => ?_, fun hx => ?_⟩
      · have := h g (fun _ i hi => hg i (by omega))
        rw [ho', if_pos rfl] at this
        exact this
      · exfalso
        rw [ob_ne (by decide), up_ne (by decide), hn] at hx
        omega
    | succ k ih =>
      intro g hk ho hg
      have hi : n - (k + 1) < n := by omega
      have hi2 : ((n - (k + 1) : Nat) : Int) + 1 = ((n - k : Nat) : Int) := by omega
      have e44 : (am_ob (am_up M 44 11 ((n - (k + 1) : Nat) : Int)) 53 g) 44 11 = ((n - (k + 1) : Nat) : Int) := by rw [ob_ne (by decide), up_eq, set_eq]
      have e49 : (am_ob (am_up M 44 11 ((n - (k + 1) : Nat) : Int)) 53 g) 49 ((160 + ((n - (k + 1) : Nat) : Int)).toNat) = M 49 (160 + (n - (k + 1))) := by
        rw [ob_ne (by decide), up_ne (by decide)]
        congr 1
      rw [wF] at ho
      refine g12_readsWay_7 ⟨fun hx => ?_, fun _ => ?_⟩
      · exfalso
        rw [ob_ne (by decide), up_ne (by decide), hn] at hx
        omega
      · rw [e49, e44]
        refine ⟨by omega, by omega, fun x2 hx2 => ?_⟩
        rw [lo_eq] at hx2
        rw [← hx2] at ho
        refine ⟨fun hz => ?_, fun hz => ⟨by omega, by omega, fun x4 hx4 => ⟨by omega, ?_⟩⟩⟩
        · rw [if_pos hz] at ho
          have := h g (fun e2 => by rw [← ho] at e2; omega)
          rw [← ho, if_neg (by omega)] at this
          rw [up_ob_ne (by decide), up_up]
          exact this
        · rw [if_neg hz] at ho
          rw [up_ob_eq, up_ob_ne (by decide), up_up, hx4, hi2]
          refine ih _ (by omega) ho ?_
          intro i hi3
          rw [Int.toNat_natCast]
          by_cases e : i = n - (k + 1)
          · subst e; rw [set_eq]; exact hx2
          · rw [set_ne e]; exact hg i (by omega)
  have := loop n (M 53) (Nat.le_refl _) hO (fun i hi => by omega)
  rw [Nat.sub_self] at this
  have e : am_ob (am_up M 44 11 ((0 : Nat) : Int)) 53 (M 53) = am_up M 44 11 0 := ob_id' (by rw [up_ne (by decide)])
  rw [e] at this
  exact this
/-- how dense: -1 (none) to 9 -/
theorem fp_rng (b : Nat → Int) (n : Nat) : ∀ (k : Nat) (r c w : Int) (d : Nat → Int), (∀ j, -1 ≤ d j ∧ d j ≤ 9) → ∀ j, -1 ≤ (fp b n k r c w d).2 j ∧ (fp b n k r c w d).2 j ≤ 9 := by
  intro k
  induction k with
  | zero => intro r c w d hd j; exact hd j
  | succ k ih =>
    intro r c w d hd j
    have hs : ∀ (i : Nat) (x : Int), -1 ≤ x ∧ x ≤ 9 → ∀ j, -1 ≤ am_set d i x j ∧ am_set d i x j ≤ 9 := by
      intro i x hx j
      unfold am_set
      split
      · exact hx
      · exact hd j
    rw [fp]
    split
    · exact hd j
    split
    · split
      · exact hd j
      · exact ih _ _ _ _ hd j
    split
    · exact hd j
    split
    · exact ih _ _ _ _ (hs _ _ (by omega)) j
    split
    · exact ih _ _ _ _ (hs _ _ (by omega)) j
    · exact hd j
theorem dn_rng (b : Nat → Int) (n j : Nat) : -1 ≤ dn b n j ∧ dn b n j ≤ 9 := by
  unfold dn
  split
  · exact fp_rng b n n 0 0 8 _ (fun _ => by omega) j
  · exact ⟨Int.le_refl (-1), show (-1 : Int) ≤ 9 by decide⟩
def bes (m : Nat → Int) (r c : Int) : Int := if ¬ (r < 0) ∧ ¬ (7 < r) then (if ¬ (c < 0) ∧ ¬ (7 < c) then (if m ((8 * r) + c).toNat = 99 then (-1) else (8 * r) + c) else (-1)) else (-1)
theorem bes_eq {m d : Nat → Int} (hm : ∀ p, p < 64 → m p = fm (d p)) (hd : ∀ p, d p ≤ 9) (r c : Int) : bes m r c = if (0 ≤ r ∧ r ≤ 7) ∧ (0 ≤ c ∧ c ≤ 7) then f_2_placeOrNone d (8 * r + c) else -1 := by
  unfold bes
  by_cases h1 : 0 ≤ r ∧ r ≤ 7
  · by_cases h2 : 0 ≤ c ∧ c ≤ 7
    · rw [if_pos (show ¬ (r < 0) ∧ ¬ (7 < r) by omega), if_pos (show ¬ (c < 0) ∧ ¬ (7 < c) by omega), if_pos (show (0 ≤ r ∧ r ≤ 7) ∧ (0 ≤ c ∧ c ≤ 7) from ⟨h1, h2⟩)]
      unfold f_2_placeOrNone
      rw [hm ((8 * r) + c).toNat (by omega)]
      have := hd (8 * r + c).toNat
      unfold fm
      by_cases h3 : d (8 * r + c).toNat = -1
      · simp [h3]
      · rw [if_neg h3, if_neg (by omega), if_pos ⟨by omega, by omega, h3⟩]
    · rw [if_pos (show ¬ (r < 0) ∧ ¬ (7 < r) by omega), if_neg (show ¬ (¬ (c < 0) ∧ ¬ (7 < c)) by omega), if_neg (show ¬ ((0 ≤ r ∧ r ≤ 7) ∧ (0 ≤ c ∧ c ≤ 7)) by omega)]
  · rw [if_neg (show ¬ (¬ (r < 0) ∧ ¬ (7 < r)) by omega), if_neg (show ¬ ((0 ≤ r ∧ r ≤ 7) ∧ (0 ≤ c ∧ c ≤ 7)) by omega)]
theorem mb_0 (m : Nat → Int) (p : Int) : f_12_beside m p 0 = bes m (p / 8 + (-1)) (p % 8 + 0) := by unfold f_12_beside; simp only [if_pos, bes]; rfl
theorem mb_1 (m : Nat → Int) (p : Int) : f_12_beside m p 1 = bes m (p / 8 + 0) (p % 8 + 1) := by unfold f_12_beside bes; rfl
theorem mb_2 (m : Nat → Int) (p : Int) : f_12_beside m p 2 = bes m (p / 8 + 1) (p % 8 + 0) := by unfold f_12_beside bes; rfl
theorem mb_3 (m : Nat → Int) (p : Int) : f_12_beside m p 3 = bes m (p / 8 + 0) (p % 8 + (-1)) := by unfold f_12_beside bes; rfl
theorem mb_eq {m d : Nat → Int} (hm : ∀ p, p < 64 → m p = fm (d p)) (hd : ∀ p, d p ≤ 9) {p l : Int} (hp0 : 0 ≤ p) (hp : p < 64) (hl0 : 0 ≤ l) (hl : l < 4) (hpl : ¬ d p.toNat = -1) : f_12_beside m p l = bs d p l := by
  rw [bs_in hp0 hp hl0 hl, if_neg hpl]
  rcases (show l = 0 ∨ l = 1 ∨ l = 2 ∨ l = 3 by omega) with rfl | rfl | rfl | rfl
  · rw [mb_0, bes_eq hm hd]
    have e : 8 * (p / 8 + (-1)) + (p % 8 + 0) = p - 8 := by omega
    rw [e]
    show _ = f_2_placeOrNone d (p - 8)
    by_cases h : 8 ≤ p
    · rw [if_pos (by omega)]
    · rw [if_neg (by omega)]
      unfold f_2_placeOrNone
      rw [if_neg (by omega)]
  · rw [mb_1, bes_eq hm hd]
    have e : 8 * (p / 8 + 0) + (p % 8 + 1) = p + 1 := by omega
    rw [e]
    show _ = if p % 8 = 7 then -1 else f_2_placeOrNone d (p + 1)
    by_cases h : p % 8 = 7
    · rw [if_neg (show ¬ ((0 ≤ p / 8 + 0 ∧ p / 8 + 0 ≤ 7) ∧ (0 ≤ p % 8 + 1 ∧ p % 8 + 1 ≤ 7)) by omega), if_pos h]
    · rw [if_pos (show (0 ≤ p / 8 + 0 ∧ p / 8 + 0 ≤ 7) ∧ (0 ≤ p % 8 + 1 ∧ p % 8 + 1 ≤ 7) by omega), if_neg h]
  · rw [mb_2, bes_eq hm hd]
    have e : 8 * (p / 8 + 1) + (p % 8 + 0) = p + 8 := by omega
    rw [e]
    show _ = f_2_placeOrNone d (p + 8)
    by_cases h : p < 56
    · rw [if_pos (by omega)]
    · rw [if_neg (by omega)]
      unfold f_2_placeOrNone
      rw [if_neg (by omega)]
  · rw [mb_3, bes_eq hm hd]
    have e : 8 * (p / 8 + 0) + (p % 8 + (-1)) = p - 1 := by omega
    rw [e]
    show _ = if p % 8 = 0 then -1 else f_2_placeOrNone d (p - 1)
    by_cases h : p % 8 = 0
    · rw [if_neg (show ¬ ((0 ≤ p / 8 + 0 ∧ p / 8 + 0 ≤ 7) ∧ (0 ≤ p % 8 + (-1) ∧ p % 8 + (-1) ≤ 7)) by omega), if_pos h]
    · rw [if_pos (show (0 ≤ p / 8 + 0 ∧ p / 8 + 0 ≤ 7) ∧ (0 ≤ p % 8 + (-1) ∧ p % 8 + (-1) ≤ 7) by omega), if_neg h]
theorem mb_ob {m : Nat → Int} {p l : Int} (hp0 : 0 ≤ p) (hp : p < 64) : ob_12_beside m p l := by
  unfold ob_12_beside
  have h1 : 0 ≤ p / 8 ∧ p / 8 ≤ 7 := by omega
  have h2 : 0 ≤ p % 8 ∧ p % 8 ≤ 7 := by omega
  generalize p / 8 = a at *
  generalize p % 8 = b at *
  omega
theorem ct_walks {q : am_Q} {M : am_M} {D lt : Nat → Int} {n : Nat} (hm : ∀ p, p < 64 → M 51 p = fm (D p)) (hD : ∀ p, D p ≤ 9) (hs : 0 ≤ M 54 0 ∧ M 54 0 < 64) (hn : M 44 11 = n) (hn40 : n ≤ 40) (hl : ∀ i, i < n → M 53 i = lt i ∧ 0 ≤ lt i ∧ lt i < 4)
    (h : ∀ g : Nat → Int, (∀ j, j ≤ wdn D lt (M 54 0) n 0 → g j = wpos D lt (M 54 0) j) → q aJ (am_ob (am_up M 44 17 (wdn D lt (M 54 0) n 0)) 58 g)) : S12_walks [aR 44] M q := by
  refine e12_walks (fun x1 hx1 x2 hx2 => ?_)
  generalize hgs : M 54 0 = s at *
  have start : am_up (am_up M 44 17 0) 58 0 x1 = am_ob (am_up M 44 17 ((0 : Nat) : Int)) 58 (am_set (M 58) 0 x1) := by
    rw [up_ob (am_up M 44 17 0) 58 0 x1, up_ne (by decide)]
    rfl
  rw [start]
  have loop : ∀ (k i : Nat) (v : Int) (g : Nat → Int), i + k = n → ¬ v = 0 → wdn D lt s k i = wdn D lt s n 0 → (∀ j, j ≤ i → g j = wpos D lt s j ∧ 0 ≤ g j ∧ g j < 64 ∧ ¬ D (g j).toNat = -1) → am_R K12_walks q 28 [aR 44, aI v, aJ] [] (am_ob (am_up M 44 17 i) 58 g) := by
    intro k
    induction k with
    | zero =>
      intro i v g hi hv hw hg
      have : i = n := by omega
      subst this
      refine g12_walks_28 ⟨fun hz => absurd hz hv, fun _ => ⟨fun _ => ?_, fun hx => ?_⟩⟩
      · have e : wdn D lt s i 0 = i := by rw [← hw]; rfl
        have := h g (fun j hj => (hg j (by omega)).1)
        rw [e] at this
        exact this
      · exfalso
        rw [ob_ne (by decide), up_eq, set_ne (by decide), set_eq, hn] at hx
        omega
    | succ k ih =>
      intro i v g hi hv hw hg
      have hgi := hg i (Nat.le_refl _)
      have hli := hl i (by omega)
      have e17 : (am_ob (am_up M 44 17 (i : Int)) 58 g) 44 17 = i := by rw [ob_ne (by decide), up_eq, set_eq]
      have e11 : (am_ob (am_up M 44 17 (i : Int)) 58 g) 44 11 = n := by rw [ob_ne (by decide), up_eq, set_ne (by decide), hn]
      have e51 : (am_ob (am_up M 44 17 (i : Int)) 58 g) 51 = M 51 := by rw [ob_ne (by decide), up_ne (by decide)]
      have e58 : (am_ob (am_up M 44 17 (i : Int)) 58 g) 58 ((i : Int).toNat) = g i := by rw [ob_eq, Int.toNat_natCast]
      have e53 : (am_ob (am_up M 44 17 (i : Int)) 58 g) 53 ((i : Int).toNat) = lt i := by rw [ob_ne (by decide), up_ne (by decide), Int.toNat_natCast, hli.1]
      refine g12_walks_28 ⟨fun hz => absurd hz hv, fun _ => ?_⟩
      rw [e17, e11, e51, e58, e53]
      refine ⟨fun hx => absurd hx (by omega), fun _ => ⟨by omega, by omega, mb_ob hgi.2.1 hgi.2.2.1, fun x3 hx3 x5 hx5 => ?_⟩⟩
      rw [mb_eq hm hD hgi.2.1 hgi.2.2.1 hli.2.1 hli.2.2 hgi.2.2.2] at hx3
      have ex : x3 = wpos D lt s (i + 1) := by rw [hx3, hgi.1]; rfl
      rw [wdn] at hw
      refine ⟨fun hz => ⟨by omega, fun x7 hx7 => ⟨by omega, ?_⟩⟩, fun hz => ?_⟩
      · rw [← ex, if_neg hz] at hw
        rw [if_pos hz] at hx5
        have hc : x7 = ((i + 1 : Nat) : Int) := by omega
        rw [hc, up_ob_ne (by decide), up_up, up_ob_eq]
        refine ih (i + 1) x5 _ (by omega) (by omega) hw ?_
        intro j hj
        rw [Int.toNat_natCast]
        by_cases e : j = i + 1
        · subst e
          rw [set_eq]
          refine ⟨ex, ?_⟩
          have := bs_rng D (g i) (lt i)
          rw [← hx3] at this
          rcases this with h1 | h1
          · exact absurd h1 hz
          · exact h1
        · rw [set_ne e]
          exact hg j (by omega)
      · have hz' : x3 = -1 := Classical.not_not.mp hz
        rw [← ex, if_pos hz'] at hw
        rw [if_neg hz] at hx5
        refine g12_walks_28 ⟨fun _ => ?_, fun hc => absurd hx5 hc⟩
        have := h g (fun j hj => (hg j (by omega)).1)
        rw [← hw] at this
        exact this
  have g0 : ∀ j, j ≤ 0 → am_set (M 58) 0 x1 j = wpos D lt s j := by
    intro j hj
    have : j = 0 := by omega
    subst this
    rw [set_eq, hx1]
    rfl
  by_cases hp : (¬ (s < 0) ∧ ¬ (63 < s)) ∧ ¬ ((M 51) (s.toNat) = 99)
  · rw [if_pos hp] at hx2
    have hDs : ¬ D s.toNat = -1 := by
      intro e
      apply hp.2
      rw [hm _ (by omega), e]
      rfl
    refine loop n 0 x2 _ (by omega) (by omega) rfl ?_
    intro j hj
    have : j = 0 := by omega
    subst this
    refine ⟨g0 0 (Nat.le_refl _), ?_⟩
    rw [set_eq, hx1]
    exact ⟨hs.1, hs.2, hDs⟩
  · rw [if_neg hp] at hx2
    have hDs : D s.toNat = -1 := by
      have h51 : M 51 s.toNat = 99 := by
        apply Classical.byContradiction
        intro hc
        exact hp ⟨by omega, hc⟩
      rw [hm _ (by omega)] at h51
      unfold fm at h51
      have := hD s.toNat
      by_cases e : D s.toNat = -1
      · exact e
      · rw [if_neg e] at h51; omega
    have hw : wdn D lt s n 0 = 0 := by
      cases n with
      | zero => rfl
      | succ n =>
        rw [wdn, if_pos]
        show bs D s (lt 0) = -1
        have := hl 0 (by omega)
        rw [bs_in hs.1 hs.2 this.2.1 this.2.2, if_pos hDs]
    refine g12_walks_28 ⟨fun _ => ?_, fun hc => absurd hx2 hc⟩
    have := h (am_set (M 58) 0 x1) (fun j hj => g0 j (by omega))
    rw [hw] at this
    exact this
