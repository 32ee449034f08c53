/-! the memory; Arrays.fill -/
theorem up_ob_eq {M : am_M} {o j : Nat} {f : Nat → Int} {x : Int} : am_up (am_ob M o f) o j x = am_ob M o (am_set f j x) := by
  funext p; unfold am_up am_ob; by_cases h : p = o <;> simp [h]
theorem up_ob_ne {M : am_M} {o p j : Nat} {f : Nat → Int} {x : Int} (h : o ≠ p) : am_up (am_ob M p f) o j x = am_ob (am_up M o j x) p f := by
  funext r; unfold am_up am_ob
  by_cases h1 : r = o
  · subst h1; simp [h]
  · by_cases h2 : r = p <;> simp [h1, h2, Ne.symm h]
theorem ob_ob {M : am_M} {o : Nat} {f g : Nat → Int} : am_ob (am_ob M o f) o g = am_ob M o g := by
  funext p; unfold am_ob; by_cases h : p = o <;> simp [h]
theorem ob_comm {M : am_M} {o p : Nat} {f g : Nat → Int} (h : o ≠ p) : am_ob (am_ob M o f) p g = am_ob (am_ob M p g) o f := by
  funext r; unfold am_ob
  by_cases h1 : r = o
  · subst h1; simp [h]
  · by_cases h2 : r = p <;> simp [h1, h2, Ne.symm h]
theorem ob_id {M : am_M} {o : Nat} : am_ob M o (M o) = M := by
  funext p; unfold am_ob; by_cases h : p = o <;> simp [h]
theorem ob_id' {M : am_M} {o : Nat} {f : Nat → Int} (h : f = M o) : am_ob M o f = M := by rw [h]; exact ob_id
def am_fl (f : Nat → Int) (N : Nat) (v : Int) : Nat → Int := fun j => if j < N then v else f j
theorem ct_fillI {q : am_Q} {M : am_M} {o N : Nat} {v : Int} (hN : am_al o 0 = some N) (hp : 0 < N) (h : q aJ (am_ob M o (am_fl (M o) N v))) : SJ_fillI [aR o, aI v] M q := by
  refine eJ_fillI hN hp (fun x1 hx => ?_)
  subst hx
  have hle : N ≤ 256 := kd_le (al_spec hN)
  have loop : ∀ (k i : Nat), i + k = N → am_R KJ_fillI q 5 [aR o, aI v, aI (i : Int), aI (N : Int)] [] (am_ob M o (am_fl (M o) i v)) := by
    intro k
    induction k with
    | zero =>
      intro i hi
      have : i = N := by omega
      subst this
      exact gJ_fillI_5 hN hp ⟨fun _ => h, fun hc => absurd (Int.le_refl _) hc⟩
    | succ k ih =>
      intro i hi
      refine gJ_fillI_5 hN hp ⟨fun hc => absurd hc (by omega), fun hc => ⟨by omega, by omega, ?_⟩⟩
      have e := ih (i + 1) (by omega)
      rw [up_ob_eq]
      have e1 : am_set (am_fl (M o) i v) ((i : Int).toNat) v = am_fl (M o) (i + 1) v := by
        funext j
        unfold am_set am_fl
        rw [Int.toNat_natCast]
        by_cases h1 : j = i
        · subst h1; simp
        · rw [if_neg h1]
          by_cases h2 : j < i
          · rw [if_pos h2, if_pos (by omega)]
          · rw [if_neg h2, if_neg (by omega)]
      rw [e1]
      exact e
  have e0 : am_ob M o (am_fl (M o) 0 v) = M := ob_id' (by funext j; simp [am_fl])
  have := loop N 0 (by omega)
  rw [e0] at this
  exact this
theorem ct_fillL {q : am_Q} {M : am_M} {o N : Nat} {v : Int} (hN : am_al o 1 = some N) (hp : 0 < N) (h : q aJ (am_ob M o (am_fl (M o) N v))) : SJ_fillL [aR o, aL v] M q := by
  refine eJ_fillL hN hp (fun x1 hx => ?_)
  subst hx
  have hle : N ≤ 256 := kd_le (al_spec hN)
  have loop : ∀ (k i : Nat), i + k = N → am_R KJ_fillL q 6 [aR o, aL v, aJ, aI (i : Int), aI (N : Int)] [] (am_ob M o (am_fl (M o) i v)) := by
    intro k
    induction k with
    | zero =>
      intro i hi
      have : i = N := by omega
      subst this
      exact gJ_fillL_6 hN hp ⟨fun _ => h, fun hc => absurd (Int.le_refl _) hc⟩
    | succ k ih =>
      intro i hi
      refine gJ_fillL_6 hN hp ⟨fun hc => absurd hc (by omega), fun hc => ⟨by omega, by omega, ?_⟩⟩
      have e := ih (i + 1) (by omega)
      rw [up_ob_eq]
      have e1 : am_set (am_fl (M o) i v) ((i : Int).toNat) v = am_fl (M o) (i + 1) v := by
        funext j
        unfold am_set am_fl
        rw [Int.toNat_natCast]
        by_cases h1 : j = i
        · subst h1; simp
        · rw [if_neg h1]
          by_cases h2 : j < i
          · rw [if_pos h2, if_pos (by omega)]
          · rw [if_neg h2, if_neg (by omega)]
      rw [e1]
      exact e
  have e0 : am_ob M o (am_fl (M o) 0 v) = M := ob_id' (by funext j; simp [am_fl])
  have := loop N 0 (by omega)
  rw [e0] at this
  exact this
/-! the fair as a text: how it is read, byte by byte (i = n - k): place of the fault or -1; how dense each place is (-1: none) -/
def fp (b : Nat → Int) (n : Nat) : Nat → Int → Int → Int → (Nat → Int) → Int × (Nat → Int)
  | 0, r, c, w, d => (if 0 < r ∧ c < w then (n : Int) else -1, d)
  | k + 1, r, c, w, d =>
    if 8 ≤ r then ((n - (k + 1) : Nat), d)
    else if b (n - (k + 1)) = 59 then (if c = 0 ∨ (0 < r ∧ c < w) then ((n - (k + 1) : Nat), d) else fp b n k (r + 1) 0 c d)
    else if w ≤ c then ((n - (k + 1) : Nat), d)
    else if 48 ≤ b (n - (k + 1)) ∧ b (n - (k + 1)) ≤ 57 then fp b n k r (c + 1) w (am_set d (8 * r + c).toNat (b (n - (k + 1)) - 48))
    else if b (n - (k + 1)) = 35 then fp b n k r (c + 1) w (am_set d (8 * r + c).toNat (-1))
    else ((n - (k + 1) : Nat), d)
def fpAll (b : Nat → Int) (n : Nat) : Int × (Nat → Int) := fp b n n 0 0 8 (fun _ => -1)
theorem byteAt_in {m0 m1 : Nat → Int} {i : Nat} {n : Nat} (h : m0 2 = n) (hi : i < n) (hn : n ≤ 71) : f_9_byteAt m0 m1 (i : Int) = m1 i := by
  unfold f_9_byteAt
  rw [h]
  rw [if_neg (by omega), if_neg (by omega), if_neg (by omega), Int.toNat_natCast]
theorem ct_layRows {q : am_Q} {M : am_M} {n : Nat} (hn : M 1 2 = n) (hn71 : n ≤ 71) (hd : M 8 = fun _ => -1) (h : q (aI (fpAll (M 2) n).1) (am_ob M 8 (fpAll (M 2) n).2)) : S2_layRows [aR 7, aR 1] M q := by
  refine e2_layRows ?_
  have loop : ∀ (k : Nat) (r c w : Int) (d : Nat → Int), k ≤ n → 0 ≤ r → r ≤ 8 → 0 ≤ c → c ≤ w → 1 ≤ w → w ≤ 8 → q (aI (fp (M 2) n k r c w d).1) (am_ob M 8 (fp (M 2) n k r c w d).2) → am_R K2_layRows q 11 [aR 7, aR 1, aI r, aI c, aI w, aI ((n - k : Nat) : Int), aJ, aJ] [] (am_ob M 8 d) := by
    intro k
    induction k with
    | zero =>
      intro r c w d hk hr0 hr hc0 hc hw1 hw h
      rw [fp] at h
      refine g2_layRows_11 ⟨fun _ => ?_, fun hx => ?_⟩
      · intro x4 hx4
        rw [ob_ne (by decide), hn] at hx4
        have : x4 = (if 0 < r ∧ c < w then (n : Int) else -1) := by
          rw [hx4]
          by_cases h1 : r ≤ 0
          · rw [if_pos h1, if_neg (by omega)]
          · rw [if_neg h1]
            by_cases h2 : w ≤ c
            · rw [if_pos h2, if_neg (by omega)]
            · rw [if_neg h2, if_pos (by omega)]
        rw [this]
        exact h
      · exfalso
        rw [ob_ne (by decide), hn] at hx
        apply hx
        simp
    | succ k ih =>
      intro r c w d hk hr0 hr hc0 hc hw1 hw h
      have hi : n - (k + 1) < n := by omega
      have hi2 : ((n - (k + 1) : Nat) : Int) + 1 = ((n - k : Nat) : Int) := by omega
      rw [fp] at h
      refine g2_layRows_11 ⟨fun hx => ?_, fun _ => ?_⟩
      · exfalso
        rw [ob_ne (by decide), hn] at hx
        omega
      · intro x5 hx5
        rw [ob_ne (by decide), ob_ne (by decide), byteAt_in hn hi hn71] at hx5
        rw [← hx5] at h
        refine ⟨fun h8 => ?_, fun h8 => ?_⟩
        · rw [if_neg (by omega)] at h
          refine ⟨fun h59 => ?_, fun h59 => ?_⟩
          · rw [if_pos h59] at h
            refine ⟨fun hc1 => ?_, fun hc1 => ?_⟩
            · rw [if_pos (Or.inl hc1)] at h
              exact h
            · have go : am_R K2_layRows q 11 [aR 7, aR 1, aI (r + 1), aI 0, aI c, aI (((n - (k + 1) : Nat) : Int) + 1), aJ, aJ] [] (am_ob M 8 d) ∨ (0 < r ∧ c < w) := by
                by_cases h1 : 0 < r ∧ c < w
                · exact Or.inr h1
                · rw [if_neg (by omega)] at h
                  rw [hi2]
                  exact Or.inl (ih (r + 1) 0 c d (by omega) (by omega) (by omega) (by omega) (by omega) (by omega) (by omega) h)
              refine ⟨fun h1 => ⟨by omega, by omega, ?_⟩, fun h1 => ⟨fun h2 => ⟨by omega, by omega, ?_⟩, fun h2 => ?_⟩⟩
              · rcases go with go | go
                · exact go
                · omega
              · rcases go with go | go
                · exact go
                · omega
              · rw [if_pos (by omega)] at h
                exact h
          · rw [if_neg h59] at h
            intro x10 hx10
            refine ⟨fun h1 => ?_, fun h1 => ?_⟩
            · rw [if_pos h1] at h
              exact h
            · rw [if_neg h1] at h
              refine ⟨fun h2 => ?_, fun h2 => ?_⟩
              · rw [if_pos (by omega)] at h
                refine ⟨by omega, by omega, by omega, ?_⟩
                intro x14 hx14
                rw [if_pos h2] at hx14
                refine ⟨by omega, by omega, by omega, ?_⟩
                rw [hi2, up_ob_eq, hx14]
                exact ih r (c + 1) w _ (by omega) (by omega) (by omega) (by omega) (by omega) (by omega) (by omega) h
              · rw [if_neg (by omega)] at h
                refine ⟨fun h35 => ?_, fun h35 => ?_⟩
                · rw [if_pos h35] at h
                  refine ⟨by omega, by omega, by omega, ?_⟩
                  intro x17 hx17
                  rw [if_neg h2] at hx17
                  refine ⟨by omega, by omega, by omega, ?_⟩
                  rw [hi2, up_ob_eq, hx17]
                  exact ih r (c + 1) w _ (by omega) (by omega) (by omega) (by omega) (by omega) (by omega) (by omega) h
                · rw [if_neg h35] at h
                  exact h
        · rw [if_pos (by omega)] at h
          exact h
  have := loop n 0 0 8 (fun _ => -1) (Nat.le_refl _) (by omega) (by omega) (by omega) (by omega) (by omega) (by omega) h
  rw [Nat.sub_self, ob_id' hd.symm] at this
  exact this
