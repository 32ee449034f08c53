/-! the reference reads its texts -/
def fm (x : Int) : Int := if x = -1 then 99 else x
theorem ct_clears {q : am_Q} {M : am_M} (h : q aJ (am_ob M 51 (am_fl (M 51) 64 99))) : S12_clears [aR 44] M q := by
  refine e12_clears ?_
  have loop : ∀ (k i : Nat), i + k = 64 → am_R K12_clears q 2 [aR 44, aI (i : Int)] [] (am_ob M 51 (am_fl (M 51) i 99)) := by
    intro k
    induction k with
    | zero =>
      intro i hi
      have : i = 64 := by omega
      subst this
      exact g12_clears_2 ⟨fun _ => h, fun hx => absurd (Int.le_refl _) hx⟩
    | succ k ih =>
      intro i hi
      refine g12_clears_2 ⟨fun hx => absurd hx (by omega), fun _ => ⟨by omega, by omega, ?_⟩⟩
      have e1 : am_set (am_fl (M 51) i 99) ((i : Int).toNat) 99 = am_fl (M 51) (i + 1) 99 := by
        funext j
        unfold am_set am_fl
        rw [Int.toNat_natCast]
        by_cases h1 : j = i
        · subst h1; simp
        · rw [if_neg h1]
          by_cases h2 : j < i
          · rw [if_pos h2, if_pos (by omega)]
          · rw [if_neg h2, if_neg (by omega)]
      have hc : (i : Int) + 1 = ((i + 1 : Nat) : Int) := by omega
      rw [up_ob_eq, e1, hc]
      exact ih (i + 1) (by omega)
  have := loop 64 0 (by omega)
  rw [ob_id' (by funext j; simp [am_fl])] at this
  exact this
theorem here_in {m50 m44 m49 : Nat → Int} {n i : Nat} (h1 : m50 0 = n) (h2 : m44 7 = i) (hi : i < n) : f_12_here m50 m44 m49 0 = m49 i := by
  unfold f_12_here
  rw [show ((0 : Int).toNat) = 0 from rfl, h1, h2, if_neg (by omega)]
  congr 1
  omega
theorem here_ob {m50 m44 m49 : Nat → Int} {n i : Nat} (h1 : m50 0 = n) (h2 : m44 7 = i) (hn : n ≤ 71) : ob_12_here m50 m44 m49 0 := by
  unfold ob_12_here
  rw [show ((0 : Int).toNat) = 0 from rfl, h1, h2]
  omega
/-- what the reading of a row comes to: a fault, the text's end, or the next row -/
def rowEnd (b : Nat → Int) (n : Nat) (F : Int × (Nat → Int)) (r w : Int) (x : Int) (i : Nat) (d : Nat → Int) : Prop :=
  i ≤ n ∧ ((x = -1 ∧ F.1 = i) ∨ (1 ≤ x ∧ x ≤ w ∧ ((i = n ∧ F = (-1, d)) ∨ (i < n ∧ F = fp b n (n - (i + 1)) (r + 1) 0 x d))))
theorem ct_readsRow {q : am_Q} {M : am_M} {n i0 : Nat} {r wd w : Int} {d0 : Nat → Int} (hn : M 50 0 = n) (hn71 : n ≤ 71) (hi0 : i0 ≤ n) (hat : M 44 7 = i0) (hr0 : 0 ≤ r) (hr8 : r < 8)
    (hw : (r = 0 ∧ wd = 0 ∧ w = 8 ∧ i0 < n) ∨ (0 < r ∧ wd = w ∧ 1 ≤ w ∧ w ≤ 8)) (hby : ∀ j, j < n → 0 ≤ M 49 j ∧ M 49 j < 256) (hg0 : ∀ p, p < 64 → M 51 p = fm (d0 p))
    (h : ∀ (x : Int) (i : Nat) (d g : Nat → Int), rowEnd (M 49) n (fp (M 49) n (n - i0) r 0 w d0) r w x i d → (∀ p, p < 64 → g p = fm (d p)) → q (aI x) (am_ob (am_up M 44 7 i) 51 g)) : S12_readsRow [aR 44, aI r, aI wd] M q := by
  refine e12_readsRow ?_
  generalize hF : fp (M 49) n (n - i0) r 0 w d0 = F at h
  have loop : ∀ (k : Nat) (c : Int) (d g : Nat → Int), k + i0 ≤ n → c = ((n - k : Nat) : Int) - i0 → c ≤ w → fp (M 49) n k r c w d = F → (∀ p, p < 64 → g p = fm (d p)) →
      am_R K12_readsRow q 2 [aR 44, aI r, aI wd, aI c, aJ, aJ] [] (am_ob (am_up M 44 7 ((n - k : Nat) : Int)) 51 g) := by
    intro k
    induction k with
    | zero =>
      intro c d g hk hc hcw hfp hg
      rw [fp] at hfp
      refine g12_readsRow_2 ⟨fun _ => ?_, fun hx => ?_⟩
      · intro x5 hx5
        refine h x5 (n - 0) d g ⟨by omega, ?_⟩ hg
        by_cases hf : 0 < r ∧ c < w
        · left
          rw [if_pos hf] at hfp
          refine ⟨?_, by rw [← hfp]; rfl⟩
          rw [hx5]
          by_cases h1 : c = 0
          · rw [if_pos h1]
          · rw [if_neg h1, if_neg (by omega), if_neg (by omega)]
        · right
          rw [if_neg hf] at hfp
          have hc1 : ¬ c = 0 := by omega
          rw [if_neg hc1] at hx5
          have hx : x5 = c := by
            rw [hx5]
            by_cases h1 : wd ≤ 0
            · rw [if_pos h1]
            · rw [if_neg h1, if_pos (by omega)]
          exact ⟨by omega, by omega, Or.inl ⟨by omega, hfp.symm⟩⟩
      · exfalso
        rw [ob_ne (by decide), ob_ne (by decide), up_ne (by decide), up_eq, set_eq, hn] at hx
        omega
    | succ k ih =>
      intro c d g hk hc hcw hfp hg
      have hi : n - (k + 1) < n := by omega
      have hi2 : ((n - (k + 1) : Nat) : Int) + 1 = ((n - k : Nat) : Int) := by omega
      have hbi := hby (n - (k + 1)) hi
      have e50 : (am_ob (am_up M 44 7 ((n - (k + 1) : Nat) : Int)) 51 g) 50 = M 50 := by rw [ob_ne (by decide), up_ne (by decide)]
      have e44 : (am_ob (am_up M 44 7 ((n - (k + 1) : Nat) : Int)) 51 g) 44 7 = ((n - (k + 1) : Nat) : Int) := by rw [ob_ne (by decide), up_eq, set_eq]
      have e49 : (am_ob (am_up M 44 7 ((n - (k + 1) : Nat) : Int)) 51 g) 49 = M 49 := by rw [ob_ne (by decide), up_ne (by decide)]
      rw [fp, if_neg (by omega)] at hfp
      refine g12_readsRow_2 ⟨fun hx => ?_, fun _ => ⟨?_, ?_⟩⟩
      · exfalso
        rw [e50, e44, hn] at hx
        omega
      · exact here_ob (by rw [e50]; exact hn) e44 hn71
      · rw [here_in (by rw [e50]; exact hn) e44 hi, e49]
        refine ⟨fun h59 => ?_, fun h59 => ?_⟩
        · rw [if_pos h59] at hfp
          intro x10 hx10
          refine h x10 (n - (k + 1)) d g ⟨by omega, ?_⟩ hg
          by_cases hf : c = 0 ∨ (0 < r ∧ c < w)
          · left
            rw [if_pos hf] at hfp
            refine ⟨?_, by rw [← hfp]⟩
            rw [hx10]
            by_cases h1 : c = 0
            · rw [if_pos h1]
            · rw [if_neg h1, if_neg (by omega), if_neg (by omega)]
          · right
            rw [if_neg hf] at hfp
            have hc1 : ¬ c = 0 := by omega
            rw [if_neg hc1] at hx10
            have hx : x10 = c := by
              rw [hx10]
              by_cases h1 : wd ≤ 0
              · rw [if_pos h1]
              · rw [if_neg h1, if_pos (by omega)]
            refine ⟨by omega, by omega, Or.inr ⟨by omega, ?_⟩⟩
            rw [hx, ← hfp]
            congr 1
            omega
        · rw [if_neg h59] at hfp
          intro x11 hx11 x13 hx13
          have hx13' : x13 = w := by
            rw [hx13]
            by_cases h1 : wd = 0
            · rw [if_pos h1]; omega
            · rw [if_neg h1]; omega
          rw [← hx11] at hfp hbi
          refine ⟨fun hcw2 => ?_, fun hcw2 => ?_⟩
          · rw [if_pos (by omega)] at hfp
            exact h (-1) (n - (k + 1)) d g ⟨by omega, Or.inl ⟨rfl, by rw [← hfp]⟩⟩ hg
          · rw [if_neg (by omega)] at hfp
            have hidx : (8 * r + c).toNat < 64 := by omega
            have next : ∀ (y v : Int), v = fm y → fp (M 49) n k r (c + 1) w (am_set d (8 * r + c).toNat y) = F → am_R K12_readsRow q 2 [aR 44, aI r, aI wd, aI (c + 1), aJ, aJ] [] (am_up (am_up (am_ob (am_up M 44 7 ((n - (k + 1) : Nat) : Int)) 51 g) 51 (8 * r + c).toNat v) 44 7 (((n - (k + 1) : Nat) : Int) + 1)) := by
              intro y v hv hfp2
              rw [up_ob_eq, up_ob_ne (by decide), up_up, hi2]
              refine ih (c + 1) _ _ (by omega) (by omega) (by omega) hfp2 ?_
              intro p hp
              unfold am_set
              by_cases e : p = (8 * r + c).toNat
              · rw [if_pos e, if_pos e]; exact hv
              · rw [if_neg e, if_neg e]; exact hg p hp
            rw [e44]
            refine ⟨fun h35 => ?_, fun h35 => ⟨fun hfig => ?_, fun hfig => ?_⟩⟩
            · rw [if_neg (by omega), if_pos h35] at hfp
              refine ⟨by omega, by omega, by omega, fun x17 hx17 => ⟨by omega, by omega, by omega, fun x18 hx18 => ?_⟩⟩
              rw [hx18]
              exact next (-1) x17 (by rw [hx17, if_pos h35]; rfl) hfp
            · rw [if_pos (by omega)] at hfp
              refine ⟨by omega, by omega, by omega, fun x21 hx21 => ⟨by omega, by omega, by omega, fun x22 hx22 => ?_⟩⟩
              rw [hx22]
              refine next (x11 - 48) x21 ?_ hfp
              rw [hx21, if_neg h35]
              unfold fm
              rw [if_neg (by omega)]
            · rw [if_neg (by omega), if_neg h35] at hfp
              exact h (-1) (n - (k + 1)) d g ⟨by omega, Or.inl ⟨rfl, by rw [← hfp]⟩⟩ hg
  have := loop (n - i0) 0 d0 (M 51) (by omega) (by omega) (by omega) hF hg0
  have e : am_ob (am_up M 44 7 ((n - (n - i0) : Nat) : Int)) 51 (M 51) = M := by
    rw [show n - (n - i0) = i0 by omega, ← hat]
    funext r
    simp only [am_ob, am_up]
    by_cases h1 : r = 51
    · simp [h1]
    · by_cases h2 : r = 44
      · subst h2; simp; funext j; unfold am_set; by_cases hj : j = 7 <;> simp [hj]
      · simp [h1, h2]
  rw [e] at this
  exact this
theorem ct_readsFair {q : am_Q} {M : am_M} {n : Nat} (hn : M 50 0 = n) (hn71 : n ≤ 71) (hby : ∀ j, j < n → 0 ≤ M 49 j ∧ M 49 j < 256)
    (h : ∀ (a : Int) (g : Nat → Int), (∀ p, p < 64 → g p = fm (dn (M 49) n p)) → q (aI (fpAll (M 49) n).1) (am_ob (am_up M 44 7 a) 51 g)) : S12_readsFair [aR 44] M q := by
  refine e12_readsFair (ct_clears ?_)
  intro x6 hx6
  rw [ob_ne (by decide), hn] at hx6
  have fault : ∀ (i : Nat) (g : Nat → Int), (fpAll (M 49) n).1 = i → S12_clears [aR 44] (am_ob (am_up M 44 7 i) 51 g) (fun _ M17 => q (aI (M17 44 7)) M17) := by
    intro i g hF
    refine ct_clears ?_
    rw [ob_ob, ob_ne (by decide), up_eq, set_eq]
    have := h i (am_fl ((am_ob (am_up M 44 7 i) 51 g) 51) 64 99) (fun p hp => by
      unfold am_fl dn
      rw [if_pos hp, hF, if_neg (by omega)]
      rfl)
    rw [hF] at this
    exact this
  have loop : ∀ (j i : Nat) (r wd w v3 : Int) (d g : Nat → Int), r + j = 8 → 0 ≤ r → i ≤ n → ((r = 0 ∧ wd = 0 ∧ w = 8 ∧ (¬ v3 = 0 → i < n)) ∨ (0 < r ∧ wd = w ∧ 1 ≤ w ∧ w ≤ 8)) → (∀ p, p < 64 → g p = fm (d p)) →
      (v3 = 0 → fpAll (M 49) n = (-1, d)) → (¬ v3 = 0 → fpAll (M 49) n = fp (M 49) n (n - i) r 0 w d) → am_R K12_readsFair q 28 [aR 44, aI r, aI wd, aI v3, aJ] [] (am_ob (am_up M 44 7 i) 51 g) := by
    intro j
    have fin : ∀ (i : Nat) (d g : Nat → Int), (∀ p, p < 64 → g p = fm (d p)) → fpAll (M 49) n = (-1, d) → q (aI (-1)) (am_ob (am_up M 44 7 i) 51 g) := by
      intro i d g hg hF
      have := h i g (fun p hp => by rw [hg p hp]; unfold dn; rw [hF, if_pos rfl])
      rw [hF] at this
      exact this
    induction j with
    | zero =>
      intro i r wd w v3 d g hr hr0 hi hw hg h0 h1
      have hr8 : r = 8 := by omega
      subst hr8
      refine g12_readsFair_28 ⟨fun hz => fin i d g hg (h0 hz), fun hz => ⟨fun _ => ?_, fun hx => absurd rfl hx⟩⟩
      refine fault i g ?_
      rw [h1 hz]
      cases hk : n - i with
      | zero => rw [fp, if_pos (by omega)]; show (n : Int) = i; omega
      | succ k => rw [fp, if_pos (by omega)]; show ((n - (k + 1) : Nat) : Int) = i; omega
    | succ j ih =>
      intro i r wd w v3 d g hr hr0 hi hw hg h0 h1
      refine g12_readsFair_28 ⟨fun hz => fin i d g hg (h0 hz), fun hz => ⟨fun hx => absurd hx (by omega), fun _ => ?_⟩⟩
      have hF := h1 hz
      have e49 : (am_ob (am_up M 44 7 (i : Int)) 51 g) 49 = M 49 := by rw [ob_ne (by decide), up_ne (by decide)]
      refine ct_readsRow (n := n) (i0 := i) (w := w) (d0 := d) (by rw [ob_ne (by decide), up_ne (by decide)]; exact hn) hn71 hi (by rw [ob_ne (by decide), up_eq, set_eq]) hr0 (by omega) (by rcases hw with hw | hw; exact Or.inl ⟨hw.1, hw.2.1, hw.2.2.1, hw.2.2.2 hz⟩; exact Or.inr hw) (by rw [e49]; exact hby) (by rw [ob_eq]; exact hg) ?_
      intro x i' d' g' hend hg'
      rw [e49, ← hF] at hend
      obtain ⟨hi', hend⟩ := hend
      have e : am_ob (am_up (am_ob (am_up M 44 7 (i : Int)) 51 g) 44 7 (i' : Int)) 51 g' = am_ob (am_up M 44 7 i') 51 g' := by
        rw [up_ob_ne (by decide), up_up, ob_ob]
      rw [e]
      refine ⟨x, rfl, fun hx => ?_, fun hx => ⟨by omega, ?_⟩⟩
      · rcases hend with hend | hend
        · exact fault i' g' hend.2
        · omega
      · intro x9 hx9 x11 hx11
        rw [ob_ne (by decide), ob_ne (by decide), up_ne (by decide), up_eq, set_eq, hn] at hx9 hx11
        rw [ob_ne (by decide), up_eq, set_eq]
        have hx11r : x11 = 0 ∨ x11 = 1 := by rw [hx11]; exact b01 _
        refine ⟨by omega, fun x12 hx12 => ?_⟩
        rcases hend with hend | ⟨a1, a2, hend⟩
        · omega
        · rw [up_ob_ne (by decide), up_up]
          rcases hend with ⟨b1, b2⟩ | ⟨b1, b2⟩
          · rw [if_neg (by omega)] at hx9 hx11
            have : x12 = ((i' : Nat) : Int) := by omega
            rw [this]
            exact ih i' (r + 1) x x x9 d' g' (by omega) (by omega) hi' (Or.inr ⟨by omega, rfl, by omega, by omega⟩) hg' (fun _ => b2) (fun hc => absurd hx9 hc)
          · rw [if_pos (by omega)] at hx9 hx11
            have : x12 = ((i' + 1 : Nat) : Int) := by omega
            rw [this]
            exact ih (i' + 1) (r + 1) x x x9 d' g' (by omega) (by omega) (by omega) (Or.inr ⟨by omega, rfl, by omega, by omega⟩) hg' (fun hc => by omega) (fun _ => b2)
  have := loop 8 0 0 0 8 x6 (fun _ => -1) (am_fl (M 51) 64 99) (by omega) (by omega) (by omega) (Or.inl ⟨rfl, rfl, rfl, fun hz => by
    by_cases hc : ¬ ((n : Int) ≤ 0)
    · omega
    · rw [if_neg hc] at hx6; exact absurd hx6 hz⟩) (fun p hp => by unfold am_fl; rw [if_pos hp]; rfl) (fun hz => by
    have hn0 : n = 0 := by
      by_cases hc : ¬ ((n : Int) ≤ 0)
      · rw [if_pos hc] at hx6; omega
      · omega
    subst hn0
    unfold fpAll
    rw [fp, if_neg (by omega)]) (fun _ => rfl)
  rw [up_ob_ne (by decide)]
  exact this
