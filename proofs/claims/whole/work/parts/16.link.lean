/-! neighbours, places -/
def nb (d : Nat → Int) (p l : Int) : Int := if l = 0 then f_2_placeOrNone d (p - 8) else if l = 1 then (if p % 8 = 7 then -1 else f_2_placeOrNone d (p + 1)) else if l = 2 then f_2_placeOrNone d (p + 8) else (if p % 8 = 0 then -1 else f_2_placeOrNone d (p - 1))
def nbT (d : Nat → Int) : Nat → Int := fun j => if j < 256 ∧ ¬ d (j / 4) = -1 then nb d ((j / 4 : Nat) : Int) ((j % 4 : Nat) : Int) else -1
def cntP (d : Nat → Int) : Nat → Int
  | 0 => 0
  | k + 1 => cntP d k + if d k = -1 then 0 else 1
theorem cntP_le (d : Nat → Int) : ∀ k, 0 ≤ cntP d k ∧ cntP d k ≤ k
  | 0 => by simp [cntP]
  | k + 1 => by
    have := cntP_le d k
    unfold cntP
    split <;> omega
theorem ct_link {q : am_Q} {M : am_M} (h9 : M 9 = fun _ => -1) (h7 : M 7 2 = 0) (h : q aJ (am_ob (am_ob M 7 (am_set (M 7) 2 (cntP (M 8) 64))) 9 (nbT (M 8)))) : S2_link [aR 7] M q := by
  refine e2_link ?_
  have loop : ∀ (k v : Nat), v + k = 64 → am_R K2_link q 2 [aR 7, aI (v : Int), aJ] [] (am_ob (am_ob M 7 (am_set (M 7) 2 (cntP (M 8) v))) 9 (fun j => if j < 4 * v then nbT (M 8) j else -1)) := by
    intro k
    induction k with
    | zero =>
      intro v hv
      have : v = 64 := by omega
      subst this
      refine g2_link_2 ⟨fun _ => ?_, fun hx => absurd (Int.le_refl _) hx⟩
      have e : (fun j => if j < 4 * 64 then nbT (M 8) j else -1) = nbT (M 8) := by
        funext j
        by_cases h1 : j < 256
        · rw [if_pos h1]
        · rw [if_neg h1]; unfold nbT; rw [if_neg (by omega)]
      rw [e]
      exact h
    | succ k ih =>
      intro v hv
      have e8 : (am_ob (am_ob M 7 (am_set (M 7) 2 (cntP (M 8) v))) 9 (fun j => if j < 4 * v then nbT (M 8) j else -1)) 8 = M 8 := by rw [ob_ne (by decide), ob_ne (by decide)]
      have e7 : (am_ob (am_ob M 7 (am_set (M 7) 2 (cntP (M 8) v))) 9 (fun j => if j < 4 * v then nbT (M 8) j else -1)) 7 2 = cntP (M 8) v := by rw [ob_ne (by decide), ob_eq, set_eq]
      have hcl := cntP_le (M 8) v
      have hcast : ((v : Int) + 1) = ((v + 1 : Nat) : Int) := by omega
      refine g2_link_2 ⟨fun hx => absurd hx (by omega), fun _ => ⟨fun hp => ?_, fun hp => ?_⟩⟩
      · rw [e8] at hp
        rw [e7]
        refine ⟨by omega, fun x3 h3 => ⟨by omega, fun x4 h4 => ⟨by omega, fun x5 h5 => ⟨by omega, by omega, by omega, fun _ => by omega, fun x7 h7' => ⟨by omega, by omega, by omega, fun x8 h8 => ⟨by omega, by omega, fun _ => by omega, fun x10 h10 => ⟨by omega, by omega, ?_⟩⟩⟩⟩⟩⟩⟩
        rw [e8] at h5 h7' h8 h10
        have hv4 : x4.toNat = 4 * v := by omega
        have hv5 : (x4 + 1).toNat = 4 * v + 1 := by omega
        have hv6 : (x4 + 2).toNat = 4 * v + 2 := by omega
        have hv7 : (x4 + 3).toNat = 4 * v + 3 := by omega
        rw [hv4, hv5, hv6, hv7, up_ob_ne (by decide), up_ob_eq, up_ob_eq, up_ob_eq, up_ob_eq, up_ob_eq]
        have a1 : am_set (am_set (M 7) 2 (cntP (M 8) v)) 2 x3 = am_set (M 7) 2 (cntP (M 8) (v + 1)) := by
          funext j
          unfold am_set
          by_cases hj : j = 2
          · rw [if_pos hj, if_pos hj, h3]
            have hpv : ¬ M 8 v = -1 := by have := hp.2.2; rwa [Int.toNat_natCast] at this
            show _ = cntP (M 8) v + if M 8 v = -1 then 0 else 1
            rw [if_neg hpv]
          · rw [if_neg hj, if_neg hj, if_neg hj]
        have a2 : am_set (am_set (am_set (am_set (fun j => if j < 4 * v then nbT (M 8) j else -1) (4 * v) x5) (4 * v + 1) x7) (4 * v + 2) x8) (4 * v + 3) x10 = (fun j => if j < 4 * (v + 1) then nbT (M 8) j else -1) := by
          have hpv : ¬ M 8 v = -1 := by have := hp.2.2; rwa [Int.toNat_natCast] at this
          have key : ∀ l : Nat, l < 4 → nbT (M 8) (4 * v + l) = nb (M 8) (v : Int) (l : Int) := by
            intro l hl
            unfold nbT
            have d1 : (4 * v + l) / 4 = v := by omega
            have d2 : (4 * v + l) % 4 = l := by omega
            rw [d1, d2, if_pos ⟨by omega, hpv⟩]
          have k0 : nbT (M 8) (4 * v) = x5 := by rw [h5]; have := key 0 (by omega); rw [Nat.add_zero] at this; rw [this]; simp [nb]
          have k1 : nbT (M 8) (4 * v + 1) = x7 := by rw [h7', key 1 (by omega)]; simp [nb]
          have k2 : nbT (M 8) (4 * v + 2) = x8 := by rw [h8, key 2 (by omega)]; simp [nb]
          have k3 : nbT (M 8) (4 * v + 3) = x10 := by rw [h10, key 3 (by omega)]; simp [nb]
          funext j
          unfold am_set
          by_cases j3 : j = 4 * v + 3
          · rw [if_pos j3, if_pos (by omega), j3, k3]
          rw [if_neg j3]
          by_cases j2 : j = 4 * v + 2
          · rw [if_pos j2, if_pos (by omega), j2, k2]
          rw [if_neg j2]
          by_cases j1 : j = 4 * v + 1
          · rw [if_pos j1, if_pos (by omega), j1, k1]
          rw [if_neg j1]
          by_cases j0 : j = 4 * v
          · rw [if_pos j0, if_pos (by omega), j0, k0]
          rw [if_neg j0]
          show (if j < 4 * v then nbT (M 8) j else -1) = _
          by_cases jl : j < 4 * v
          · rw [if_pos jl, if_pos (by omega)]
          · rw [if_neg jl, if_neg (by omega)]
        rw [a1, a2, hcast]
        exact ih (v + 1) (by omega)
      · rw [e8] at hp
        have hpv : M 8 v = -1 := by
          rw [Int.toNat_natCast] at hp
          omega
        refine ⟨by omega, ?_⟩
        have := ih (v + 1) (by omega)
        have a1 : cntP (M 8) (v + 1) = cntP (M 8) v := by
          show cntP (M 8) v + (if M 8 v = -1 then 0 else 1) = _
          rw [if_pos hpv]; omega
        have a2 : (fun j => if j < 4 * (v + 1) then nbT (M 8) j else -1) = (fun j => if j < 4 * v then nbT (M 8) j else -1) := by
          funext j
          by_cases jl : j < 4 * v
          · rw [if_pos jl, if_pos (by omega)]
          · rw [if_neg jl]
            by_cases j2 : j < 4 * (v + 1)
            · rw [if_pos j2]
              unfold nbT
              rw [if_neg]
              rintro ⟨-, hx⟩
              apply hx
              rw [show j / 4 = v by omega]
              exact hpv
            · rw [if_neg j2]
        rw [a1, a2] at this
        rw [hcast]
        exact this
  have := loop 64 0 (by omega)
  have e7 : am_set (M 7) 2 (cntP (M 8) 0) = M 7 := by
    funext j
    unfold am_set
    by_cases hj : j = 2
    · rw [if_pos hj, hj, h7]; rfl
    · rw [if_neg hj]
  rw [e7, ob_id, ob_id' (by rw [h9]; funext j; simp)] at this
  exact this
theorem fp_hi (b : Nat → Int) (n : Nat) : ∀ (k : Nat) (r c w : Int) (d : Nat → Int), 0 ≤ r → 0 ≤ c → c ≤ w → w ≤ 8 → ∀ j, 64 ≤ j → (fp b n k r c w d).2 j = d j := by
  intro k
  induction k with
  | zero => intro r c w d _ _ _ _ j _; rfl
  | succ k ih =>
    intro r c w d hr hc hcw hw j hj
    rw [fp]
    by_cases h1 : 8 ≤ r
    · rw [if_pos h1]
    rw [if_neg h1]
    by_cases h2 : b (n - (k + 1)) = 59
    · rw [if_pos h2]
      by_cases h3 : c = 0 ∨ (0 < r ∧ c < w)
      · rw [if_pos h3]
      · rw [if_neg h3]; exact ih (r + 1) 0 c d (by omega) (by omega) (by omega) (by omega) j hj
    rw [if_neg h2]
    by_cases h3 : w ≤ c
    · rw [if_pos h3]
    rw [if_neg h3]
    by_cases h4 : 48 ≤ b (n - (k + 1)) ∧ b (n - (k + 1)) ≤ 57
    · rw [if_pos h4, ih r (c + 1) w _ (by omega) (by omega) (by omega) (by omega) j hj, set_ne (by omega)]
    rw [if_neg h4]
    by_cases h5 : b (n - (k + 1)) = 35
    · rw [if_pos h5, ih r (c + 1) w _ (by omega) (by omega) (by omega) (by omega) j hj, set_ne (by omega)]
    rw [if_neg h5]
theorem fpAll_hi (b : Nat → Int) (n : Nat) {j : Nat} (hj : 64 ≤ j) : (fpAll b n).2 j = -1 := fp_hi b n n 0 0 8 _ (by omega) (by omega) (by omega) (by omega) j hj
/-- how dense the places are, by the text -/
def dn (b : Nat → Int) (n : Nat) : Nat → Int := if (fpAll b n).1 = -1 then (fpAll b n).2 else fun _ => -1
theorem ct_takeFair {q : am_Q} {M : am_M} {n : Nat} (hn : M 1 2 = n) (hn71 : n ≤ 71) (h8 : ∀ j, 64 ≤ j → M 8 j = -1) (h9 : ∀ j, 256 ≤ j → M 9 j = -1)
    (h : ∀ M', M' = am_ob (am_ob (am_ob M 8 (dn (M 2) n)) 7 (am_set (M 7) 2 (cntP (dn (M 2) n) 64))) 9 (nbT (dn (M 2) n)) → q (aI (fpAll (M 2) n).1) M') : S2_takeText [aR 7, aR 1] M q := by
  have f8 : am_fl (M 8) 64 (-1) = fun _ => -1 := by funext j; unfold am_fl; by_cases hj : j < 64 <;> simp [hj]; exact h8 j (by omega)
  have f9 : am_fl (M 9) 256 (-1) = fun _ => -1 := by funext j; unfold am_fl; by_cases hj : j < 256 <;> simp [hj]; exact h9 j (by omega)
  refine e2_takeText (ct_fillI (N := 64) rfl (by decide) (ct_fillI (N := 256) rfl (by decide) ?_))
  rw [f8, ob_ne (by decide), f9, up_ob_ne (by decide), up_ob_ne (by decide)]
  refine ct_layRows (n := n) (by rw [ob_ne (by decide), ob_ne (by decide), up_ne (by decide)]; exact hn) hn71 (by rw [ob_ne (by decide), ob_eq]) ?_
  have e2 : (am_ob (am_ob (am_up M 7 2 0) 8 (fun _ => -1)) 9 (fun _ => -1)) 2 = M 2 := by rw [ob_ne (by decide), ob_ne (by decide), up_ne (by decide)]
  rw [e2]
  refine ⟨_, rfl, fun hf => ?_, fun hf => ?_⟩
  · refine ct_link (by rw [ob_ne (by decide), ob_eq]) (by rw [ob_ne (by decide), ob_ne (by decide), ob_ne (by decide), up_eq, set_eq]) (h _ ?_)
    have hd : (fpAll (M 2) n).2 = dn (M 2) n := by unfold dn; rw [if_pos hf]
    rw [hd, ob_eq]
    funext r
    simp only [am_ob, am_up]
    by_cases r9 : r = 9
    · simp [r9]
    by_cases r8 : r = 8
    · simp [r8]
    by_cases r7 : r = 7
    · subst r7
      simp
      funext j
      unfold am_set
      by_cases hj : j = 2 <;> simp [hj]
    · simp [r9, r8, r7]
  · refine ct_fillI (N := 64) rfl (by decide) (h _ ?_)
    have hd : dn (M 2) n = fun _ => -1 := by unfold dn; rw [if_neg hf]
    rw [hd]
    have ec : ∀ k, cntP (fun _ => -1) k = 0 := by
      intro k
      induction k with
      | zero => rfl
      | succ k ih => show cntP _ k + _ = 0; rw [ih]; rfl
    have en : nbT (fun _ => -1) = fun _ => -1 := by funext j; simp [nbT]
    rw [ec, en]
    have ef : am_fl ((am_ob (am_ob (am_ob (am_up M 7 2 0) 8 fun _ => -1) 9 fun _ => -1) 8 (fpAll (M 2) n).2) 8) 64 (-1) = fun _ => -1 := by
      funext j
      unfold am_fl
      rw [ob_eq]
      by_cases hj : j < 64
      · rw [if_pos hj]
      · rw [if_neg hj]; exact fpAll_hi _ _ (by omega)
    rw [ef]
    funext r
    simp only [am_ob, am_up]
    by_cases r9 : r = 9
    · simp [r9]
    by_cases r8 : r = 8
    · simp [r8]
    by_cases r7 : r = 7
    · subst r7; simp
    · simp [r9, r8, r7]
