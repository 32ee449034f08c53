/-! the views: what the texts say, for both -/
def vP (b : Nat → Int) (n : Nat) : Nat := if oF b n n 0 = -1 then n else 0
def vO (b : Nat → Int) (n : Nat) : Nat → Int := fun i => if i < vP b n then b i - 97 else 0
def vW (b : Nat → Int) (n : Nat) : Nat := if wF b n n = -1 then n else 0
def vL (b : Nat → Int) (n : Nat) : Nat → Int := fun i => if i < vW b n then f_10_directionOf (b i) else 0
theorem fp_congr {b b' : Nat → Int} {n : Nat} (hb : ∀ j, j < n → b j = b' j) : ∀ (k : Nat) (r c w : Int) (d : Nat → Int), k ≤ n → fp b n k r c w d = fp b' n k r c w d := by
  intro k
  induction k with
  | zero => intro r c w d _; rfl
  | succ k ih =>
    intro r c w d hk
    rw [fp, fp, hb (n - (k + 1)) (by omega)]
    rw [ih _ _ _ _ (by omega), ih _ _ _ _ (by omega), ih _ _ _ _ (by omega)]
theorem fpAll_congr {b b' : Nat → Int} {n : Nat} (hb : ∀ j, j < n → b j = b' j) : fpAll b n = fpAll b' n := fp_congr hb n 0 0 8 _ (Nat.le_refl _)
theorem dn_congr {b b' : Nat → Int} {n : Nat} (hb : ∀ j, j < n → b j = b' j) : dn b n = dn b' n := by unfold dn; rw [fpAll_congr hb]
theorem oF_congr {b b' : Nat → Int} {n : Nat} (hb : ∀ j, j < n → b j = b' j) : ∀ (k : Nat) (t : Int), k ≤ n → oF b n k t = oF b' n k t := by
  intro k
  induction k with
  | zero => intro t _; rfl
  | succ k ih =>
    intro t hk
    rw [oF, oF, hb (n - (k + 1)) (by omega), ih _ (by omega)]
theorem wF_congr {b b' : Nat → Int} {n : Nat} (hb : ∀ j, j < n → b j = b' j) : ∀ (k : Nat), k ≤ n → wF b n k = wF b' n k := by
  intro k
  induction k with
  | zero => intro _; rfl
  | succ k ih =>
    intro hk
    rw [wF, wF, hb (n - (k + 1)) (by omega), ih (by omega)]
theorem vP_congr {b b' : Nat → Int} {n : Nat} (hb : ∀ j, j < n → b j = b' j) : vP b n = vP b' n := by unfold vP; rw [oF_congr hb n 0 (Nat.le_refl _)]
theorem vW_congr {b b' : Nat → Int} {n : Nat} (hb : ∀ j, j < n → b j = b' j) : vW b n = vW b' n := by unfold vW; rw [wF_congr hb n (Nat.le_refl _)]
theorem vP_le (b : Nat → Int) (n : Nat) : vP b n ≤ n := by unfold vP; split <;> omega
theorem vW_le (b : Nat → Int) (n : Nat) : vW b n ≤ n := by unfold vW; split <;> omega
theorem vO_congr {b b' : Nat → Int} {n : Nat} (hb : ∀ j, j < n → b j = b' j) : vO b n = vO b' n := by
  funext i
  unfold vO
  rw [vP_congr hb]
  by_cases h : i < vP b' n
  · rw [if_pos h, if_pos h, hb i (by have := vP_le b' n; omega)]
  · rw [if_neg h, if_neg h]
theorem vL_congr {b b' : Nat → Int} {n : Nat} (hb : ∀ j, j < n → b j = b' j) : vL b n = vL b' n := by
  funext i
  unfold vL
  rw [vW_congr hb]
  by_cases h : i < vW b' n
  · rw [if_pos h, if_pos h, hb i (by have := vW_le b' n; omega)]
  · rw [if_neg h, if_neg h]
/-- who is in order is a person, and none twice -/
theorem oF_rng {b : Nat → Int} {n : Nat} : ∀ (k : Nat) (t : Int), k ≤ n → oF b n k t = -1 → ∀ i, n - k ≤ i → i < n → 0 ≤ b i - 97 ∧ b i - 97 < 5 := by
  intro k
  induction k with
  | zero => intro t _ _ i h1 h2; omega
  | succ k ih =>
    intro t hk ho i h1 h2
    rw [oF] at ho
    by_cases hc : 0 ≤ b (n - (k + 1)) - 97 ∧ b (n - (k + 1)) - 97 < 5 ∧ am_and (am_shr t (b (n - (k + 1)) - 97)) 1 = 0
    · rw [if_pos hc] at ho
      by_cases e : i = n - (k + 1)
      · subst e; exact ⟨hc.1, hc.2.1⟩
      · exact ih _ (by omega) ho i (by omega) h2
    · rw [if_neg hc] at ho; omega
theorem vO_rng (b : Nat → Int) (n : Nat) (i : Nat) : 0 ≤ vO b n i ∧ vO b n i < 5 := by
  unfold vO
  by_cases h : i < vP b n
  · rw [if_pos h]
    unfold vP at h
    by_cases ho : oF b n n 0 = -1
    · rw [if_pos ho] at h
      exact oF_rng n 0 (Nat.le_refl _) ho i (by omega) h
    · rw [if_neg ho] at h; omega
  · rw [if_neg h]; omega
theorem wF_rng {b : Nat → Int} {n : Nat} : ∀ (k : Nat), k ≤ n → wF b n k = -1 → ∀ i, n - k ≤ i → i < n → ¬ f_10_directionOf (b i) = -1 := by
  intro k
  induction k with
  | zero => intro _ _ i h1 h2; omega
  | succ k ih =>
    intro hk ho i h1 h2
    rw [wF] at ho
    by_cases hc : f_10_directionOf (b (n - (k + 1))) = -1
    · rw [if_pos hc] at ho; omega
    · rw [if_neg hc] at ho
      by_cases e : i = n - (k + 1)
      · subst e; exact hc
      · exact ih (by omega) ho i (by omega) h2
theorem vL_rng (b : Nat → Int) (n : Nat) (i : Nat) : 0 ≤ vL b n i ∧ vL b n i < 4 := by
  unfold vL
  by_cases h : i < vW b n
  · rw [if_pos h]
    unfold vW at h
    by_cases ho : wF b n n = -1
    · rw [if_pos ho] at h
      have h1 := wF_rng n (Nat.le_refl _) ho i (by omega) h
      have h2 := dir_rng (b i)
      omega
    · rw [if_neg ho] at h; omega
  · rw [if_neg h]; omega
theorem wpos_congr {d : Nat → Int} {l l' : Nat → Int} {s : Int} {n : Nat} (hl : ∀ i, i < n → l i = l' i) : ∀ j, j ≤ n → wpos d l s j = wpos d l' s j := by
  intro j
  induction j with
  | zero => intro _; rfl
  | succ j ih => intro hj; rw [wpos, wpos, ih (by omega), hl j (by omega)]
theorem wdn_congr {d : Nat → Int} {l l' : Nat → Int} {s : Int} {n : Nat} (hl : ∀ i, i < n → l i = l' i) : ∀ k i, i + k ≤ n → wdn d l s k i = wdn d l' s k i := by
  intro k
  induction k with
  | zero => intro i _; rfl
  | succ k ih => intro i hi; rw [wdn, wdn, wpos_congr hl (i + 1) (by omega), ih (i + 1) (by omega)]
theorem wdn_le {d : Nat → Int} {l : Nat → Int} {s : Int} : ∀ k i, i ≤ wdn d l s k i ∧ wdn d l s k i ≤ i + k := by
  intro k
  induction k with
  | zero => intro i; exact ⟨Nat.le_refl _, Nat.le_refl _⟩
  | succ k ih =>
    intro i
    rw [wdn]
    split
    · omega
    · have := ih (i + 1); omega
/-- the steps that are done lead over places -/
theorem wdn_pos {d : Nat → Int} {l : Nat → Int} {s : Int} : ∀ k i j, i < j → j ≤ wdn d l s k i → ¬ wpos d l s j = -1 := by
  intro k
  induction k with
  | zero => intro i j h1 h2; rw [wdn] at h2; omega
  | succ k ih =>
    intro i j h1 h2
    rw [wdn] at h2
    by_cases hc : wpos d l s (i + 1) = -1
    · rw [if_pos hc] at h2; omega
    · rw [if_neg hc] at h2
      by_cases e : j = i + 1
      · subst e; exact hc
      · exact ih (i + 1) j (by omega) h2
theorem wpos_rng {d : Nat → Int} {l : Nat → Int} {s : Int} {k j : Nat} (hj0 : 0 < j) (hj : j ≤ wdn d l s k 0) : 0 ≤ wpos d l s j ∧ wpos d l s j < 64 ∧ ¬ d (wpos d l s j).toNat = -1 := by
  have h := wdn_pos k 0 j hj0 hj
  cases j with
  | zero => omega
  | succ j =>
    rw [wpos] at h ⊢
    rcases bs_rng d (wpos d l s j) (l j) with h1 | h1
    · exact absurd h1 h
    · exact h1
/-! the class's caches -/
def xn0 (M : am_M) : Nat := (M 1 2).toNat
def xn1 (M : am_M) : Nat := (M 3 2).toNat
def xn2 (M : am_M) : Nat := (M 5 2).toNat
def xD (M : am_M) : Nat → Int := dn (M 2) (xn0 M)
def xP (M : am_M) : Nat := vP (M 4) (xn1 M)
def xO (M : am_M) : Nat → Int := vO (M 4) (xn1 M)
def xW (M : am_M) : Nat := vW (M 6) (xn2 M)
def xL (M : am_M) : Nat → Int := vL (M 6) (xn2 M)
def xN (M : am_M) : Nat := wdn (xD M) (xL M) (M 20 2) (xW M) 0
def xQ (M : am_M) : Nat → Int := wpos (xD M) (xL M) (M 20 2)
/-- ranges of the class's base -/
def XB (M : am_M) : Prop := (M 1 0 = 71 ∧ M 3 0 = 5 ∧ M 5 0 = 40) ∧ (0 ≤ M 1 2 ∧ M 1 2 ≤ 71) ∧ (0 ≤ M 3 2 ∧ M 3 2 ≤ 5) ∧ (0 ≤ M 5 2 ∧ M 5 2 ≤ 40) ∧ (∀ j, j < xn0 M → 0 ≤ M 2 j ∧ M 2 j < 256) ∧ (∀ j, j < xn1 M → 0 ≤ M 4 j ∧ M 4 j < 256) ∧ (∀ j, j < xn2 M → 0 ≤ M 6 j ∧ M 6 j < 256) ∧ (0 ≤ M 20 2 ∧ M 20 2 < 64)
def XF (M : am_M) : Prop := M 1 3 = (fpAll (M 2) (xn0 M)).1 ∧ M 8 = xD M ∧ M 7 2 = cntP (xD M) 64 ∧ M 9 = nbT (xD M)
def XO (M : am_M) : Prop := M 3 3 = oF (M 4) (xn1 M) (xn1 M) 0 ∧ M 15 4 = xP M ∧ ∀ i, i < xP M → M 19 i = xO M i
def XWy (M : am_M) : Prop := M 5 3 = wF (M 6) (xn2 M) (xn2 M) ∧ M 20 3 = xW M ∧ ∀ i, i < xW M → M 21 i = xL M i
def XN (M : am_M) : Prop := M 20 4 = xN M ∧ ∀ j, j ≤ xN M → M 22 j = xQ M j
def XC (M : am_M) : Prop := XB M ∧ XF M ∧ XO M ∧ XWy M ∧ XN M
theorem ct_retraceX {q : am_Q} {M : am_M} (hB : XB M) (h9 : M 9 = nbT (xD M)) (hW : M 20 3 = xW M ∧ ∀ i, i < xW M → M 21 i = xL M i)
    (h : ∀ g : Nat → Int, (∀ j, j ≤ xN M → g j = xQ M j) → q aJ (am_ob (am_up M 20 4 (xN M)) 22 g)) : S10_retrace [aR 20, aR 7] M q := by
  have hw : xW M ≤ 40 := by
    have := vW_le (M 6) (xn2 M)
    have h2 := hB.2.2.2.1
    unfold xW
    unfold xn2 at *
    omega
  have e1 : wdn (xD M) (M 21) (M 20 2) (xW M) 0 = xN M := wdn_congr (fun i hi => hW.2 i hi) _ _ (by omega)
  refine ct_retrace h9 hB.2.2.2.2.2.2.2 hW.1 hw (fun i hi => by rw [hW.2 i hi]; exact vL_rng _ _ _) ?_
  rw [e1]
  intro g hg
  refine h g (fun j hj => ?_)
  rw [hg j hj]
  have := wdn_le (d := xD M) (l := xL M) (s := M 20 2) (xW M) 0
  exact wpos_congr (n := xW M) (fun i hi => hW.2 i hi) j (by unfold xN at hj; omega)
