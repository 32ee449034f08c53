/-! seek: the class -/
def lkN (M : am_M) : Nat := (M 44 28).toNat
def lkP (M : am_M) (k : Nat) : Int := M 64 (2 * k)
def lkW (M : am_M) (k : Nat) : Int := M 64 (2 * k + 1)
theorem lkN_le {M : am_M} (hL : JL M) : lkN M ≤ 5 ∧ M 44 28 = (lkN M : Int) ∧ M 27 2 = (lkN M : Int) := by
  obtain ⟨h1, h2, h3, h4⟩ := hL
  unfold lkN
  omega
theorem lk_f {M : am_M} (hL : JL M) {k : Nat} (hk : k < lkN M) : M 28 k = lkP M k ∧ M 29 k = lkW M k ∧ 0 ≤ lkP M k ∧ lkP M k < 64 ∧ 1 ≤ lkW M k ∧ lkW M k ≤ 9 := by
  have h := lkN_le hL
  exact hL.2.2.2 k (by omega)
def wS (w : Nat → Int) (b : Nat) : Nat → Int
  | 0 => 0
  | k + 1 => wS w b k + am_and (am_shr (b : Int) (k : Int)) 1 * w k
theorem wS_s (w : Nat → Int) (b k : Nat) : wS w b (k + 1) = wS w b k + am_and (am_shr (b : Int) (k : Int)) 1 * w k := rfl
theorem bitk {b k : Nat} (hb : b < 32) (hk : k < 5) : am_and (am_shr (b : Int) (k : Int)) 1 = 0 ∨ am_and (am_shr (b : Int) (k : Int)) 1 = 1 := bit5_fin ⟨b, hb⟩ ⟨k, hk⟩
theorem wS_rng {w : Nat → Int} {b n : Nat} (hb : b < 32) (hn : n ≤ 5) (hw : ∀ k, k < n → 1 ≤ w k ∧ w k ≤ 9) : ∀ k, k ≤ n → 0 ≤ wS w b k ∧ wS w b k ≤ 9 * k := by
  intro k
  induction k with
  | zero => intro _; unfold wS; omega
  | succ k ih =>
    intro hk
    have h1 := ih (by omega)
    have h2 := hw k (by omega)
    rw [wS_s]
    rcases bitk hb (show k < 5 by omega) with e | e <;> rw [e] <;> omega
theorem ct_weightOf {q : am_Q} {M : am_M} (hL : JL M) {b : Nat} (hb : b < 32) (h : q (aI (wS (lkW M) b (lkN M))) M) : S4_weightOf [aR 27, aI (b : Int)] M q := by
  have hn := lkN_le hL
  have hw : ∀ k, k < lkN M → 1 ≤ lkW M k ∧ lkW M k ≤ 9 := fun k hk => (lk_f hL hk).2.2.2.2
  have loop : ∀ (a k : Nat), k + a = lkN M → am_R K4_weightOf q 4 [aR 27, aI (b : Int), aI (wS (lkW M) b k), aI (k : Int)] [] M := by
    intro a
    induction a with
    | zero =>
      intro k hk
      have e : k = lkN M := by omega
      rw [← e] at h
      refine g4_weightOf_4 ?_
      rw [hn.2.2]
      exact ⟨fun _ => h, fun hc => absurd hc (by omega)⟩
    | succ a ih =>
      intro k hk
      have ek : ((k : Int)).toNat = k := rfl
      have hk' := lk_f hL (show k < lkN M by omega)
      have r1 := wS_rng hb hn.1 hw k (by omega)
      have r2 := wS_rng hb hn.1 hw (k + 1) (by omega)
      refine g4_weightOf_4 ?_
      rw [hn.2.2, ek, hk'.2.1, ← wS_s]
      refine ⟨fun hc => absurd hc (by omega), fun _ => ⟨fun hc => absurd hc (by omega), fun _ => ⟨by omega, by omega, ?_, by omega, fun x3 hx3 => ⟨by omega, ?_⟩⟩⟩⟩
      · rcases bitk hb (show k < 5 by omega) with e | e <;> rw [e] <;> omega
      · rw [hx3]; exact ih (k + 1) (by omega)
  exact e4_weightOf (loop (lkN M) 0 (by omega))
theorem JL.co {M M' : am_M} (h : JL M) (e27 : M' 27 = M 27) (e28 : M' 28 = M 28) (e29 : M' 29 = M 29) (e64 : M' 64 = M 64) (e44 : M' 44 28 = M 44 28) : JL M' ∧ lkN M' = lkN M ∧ lkP M' = lkP M ∧ lkW M' = lkW M := by
  refine ⟨?_, ?_, ?_, ?_⟩
  · unfold JL at *; rw [e27, e28, e29, e64, e44]; exact h
  · unfold lkN; rw [e44]
  · funext k; unfold lkP; rw [e64]
  · funext k; unfold lkW; rw [e64]
theorem ct_layWeights {q : am_Q} {M : am_M} (hL : JL M) (h : ∀ W : Nat → Int, (∀ s, s < 32 → W s = wS (lkW M) s (lkN M)) → q aJ (am_ob M 32 W)) : S6_layWeights [aR 30, aR 27] M q := by
  have loop : ∀ (a b : Nat) (W : Nat → Int), b + a = 32 → (∀ s, s < b → W s = wS (lkW M) s (lkN M)) → am_R K6_layWeights q 2 [aR 30, aR 27, aI (b : Int)] [] (am_ob M 32 W) := by
    intro a
    induction a with
    | zero =>
      intro b W hb hW
      exact g6_layWeights_2 ⟨fun _ => h W (fun s hs => hW s (by omega)), fun hc => absurd hc (by omega)⟩
    | succ a ih =>
      intro b W hb hW
      have eb : ((b : Int)).toNat = b := rfl
      obtain ⟨c1, c2, c3, c4⟩ := hL.co (M' := am_ob M 32 W) (ob_ne (by decide)) (ob_ne (by decide)) (ob_ne (by decide)) (ob_ne (by decide)) (by rw [ob_ne (by decide)])
      refine g6_layWeights_2 ⟨fun hc => absurd hc (by omega), fun _ => ct_weightOf c1 (by omega) ⟨_, rfl, by omega, by omega, ?_⟩⟩
      rw [c2, c4, eb, up_ob_eq]
      refine ih (b + 1) _ (by omega) (fun s hs => ?_)
      by_cases e : s = b
      · subst e; rw [set_eq]
      · rw [set_ne e]; exact hW s (by omega)
  have := loop 32 0 (M 32) (by omega) (fun s hs => by omega)
  rw [ob_id] at this
  exact e6_layWeights this
/-- all looks are reached from p -/
def okS (M : am_M) (p : Int) : Prop := ∀ d, d < lkN M → ¬ nr (xD M) p (lkP M d) = -1
theorem ct_layLegs {q : am_Q} {M : am_M} {f : Nat} {p : Int} (hC : XC M) (hL : JL M) (hf : f < 7)
    (h : ∀ (g r L : Nat → Int) (ok : Int), (∀ d, d < lkN M → L (f * 5 + d) = nr (xD M) p (lkP M d)) → (∀ j, (j < f * 5 ∨ f * 5 + lkN M ≤ j) → L j = M 31 j) → (ok = 0 ∨ ok = 1) → (ok = 1 ↔ okS M p) → q (aI ok) (am_ob (am_ob (am_ob M 11 g) 12 r) 31 L)) : S11_layLegs [aR 0, aI (f : Int), aI p] M q := by
  have hn := lkN_le hL
  refine e11_layLegs (ct_measureJ hC (fun g r hg => ?_))
  have loop : ∀ (a k : Nat) (L : Nat → Int) (ok : Int), k + a = lkN M → (∀ d, d < k → L (f * 5 + d) = nr (xD M) p (lkP M d)) → (∀ j, (j < f * 5 ∨ f * 5 + k ≤ j) → L j = M 31 j) → (ok = 0 ∨ ok = 1) → (ok = 1 ↔ ∀ d, d < k → ¬ nr (xD M) p (lkP M d) = -1) → am_R K11_layLegs q 13 [aR 0, aI (f : Int), aJ, aI ok, aI (k : Int), aJ] [] (am_ob (am_ob (am_ob M 11 g) 12 r) 31 L) := by
    intro a
    induction a with
    | zero =>
      intro k L ok hk h1 h2 h3 h4
      have e : k = lkN M := by omega
      refine g11_layLegs_13 ?_
      rw [ob_ne (by decide : (27 : Nat) ≠ 31), ob_ne (by decide : (27 : Nat) ≠ 12), ob_ne (by decide : (27 : Nat) ≠ 11), hn.2.2]
      rw [e] at h1 h2 h4
      exact ⟨fun _ => ⟨h3, h g r L ok h1 h2 h3 h4⟩, fun hc => absurd hc (by omega)⟩
    | succ a ih =>
      intro k L ok hk h1 h2 h3 h4
      have hk' := lk_f hL (show k < lkN M by omega)
      have ek : ((k : Int)).toNat = k := rfl
      refine g11_layLegs_13 ?_
      rw [ob_ne (by decide : (27 : Nat) ≠ 31), ob_ne (by decide : (27 : Nat) ≠ 12), ob_ne (by decide : (27 : Nat) ≠ 11), ob_ne (by decide : (28 : Nat) ≠ 31), ob_ne (by decide : (28 : Nat) ≠ 12), ob_ne (by decide : (28 : Nat) ≠ 11), ob_ne (by decide : (11 : Nat) ≠ 31), ob_ne (by decide : (11 : Nat) ≠ 12), ob_eq]
      have ep : f_4_placeOf (M 27) (M 28) (k : Int) = lkP M k := by
        unfold f_4_placeOf
        rw [hn.2.2, if_neg (by omega), if_neg (by omega), if_neg (by omega), ek]
        exact hk'.1
      rw [ep, hn.2.2, st_in (by omega), hg _ (by omega), show (((lkP M k).toNat : Nat) : Int) = lkP M k by omega]
      refine ⟨fun hc => absurd hc (by omega), fun _ x2 hx2 => ct_putLeg hf (by omega) (fun x9 hx9 => ⟨by omega, ?_⟩)⟩
      rw [up_ob_eq]
      refine ih (k + 1) _ x9 (by omega) (fun d hd => ?_) (fun j hj => ?_) ?_ ?_
      · by_cases e : d = k
        · subst e; rw [set_eq]; exact hx2
        · rw [set_ne (by omega)]; exact h1 d (by omega)
      · rw [set_ne (by omega)]; exact h2 j (by omega)
      · rw [hx9]; split <;> omega
      · rw [hx9]
        constructor
        · intro hx d hd
          by_cases c : ¬ (ok = 0) ∧ ¬ (x2 = (-1))
          · by_cases e : d = k
            · subst e; rw [← hx2]; exact c.2
            · exact h4.mp (by omega) d (by omega)
          · rw [if_neg c] at hx; omega
        · intro hx
          have a1 := h4.mpr (fun d hd => hx d (by omega))
          have a2 := hx k (by omega)
          rw [if_pos ⟨by omega, by rw [hx2]; exact a2⟩]
  have e0 : am_ob (am_ob M 11 g) 12 r = am_ob (am_ob (am_ob M 11 g) 12 r) 31 (M 31) := by
    rw [ob_id' (M := am_ob (am_ob M 11 g) 12 r) (by rw [ob_ne (by decide), ob_ne (by decide)])]
  rw [e0]
  exact loop (lkN M) 0 (M 31) 1 (by omega) (fun d hd => by omega) (fun j _ => rfl) (Or.inr rfl) ⟨fun _ d hd => by omega, fun _ => rfl⟩
/-- only what a search works with has changed -/
def sc1 (M N : am_M) : Prop := sc M (am_ob N 31 (M 31))
theorem sc1.k {M N : am_M} (h : sc1 M N) {o : Nat} (ho : keep o) (h31 : o ≠ 31) : N o = M o := by
  have := h.1 o ho
  rw [ob_ne h31] at this
  exact this
theorem sc1.f {M N : am_M} (h : sc1 M N) : N 44 4 = M 44 4 ∧ N 44 28 = M 44 28 := by
  have a := h.2.1
  have b := h.2.2
  rw [ob_ne (by decide)] at a b
  exact ⟨a, b⟩
theorem sc1.be {M N : am_M} (h : sc1 M N) : xbe M N := by
  refine ⟨h.k (by unfold keep; decide) (by decide), h.k (by unfold keep; decide) (by decide), h.k (by unfold keep; decide) (by decide), ?_, ?_, ?_, ?_, ?_, ?_, ?_⟩
  all_goals (rw [h.k (by unfold keep; decide) (by decide)])
theorem J.sc1 {M N : am_M} (hJ : J M) (h : sc1 M N) (hL : ∀ j, j < 35 → -1 ≤ N 31 j ∧ N 31 j ≤ 63) : J N := by
  have h1 := (hJ.sc h).leg (L := N 31) hL
  have e : am_ob (am_ob N 31 (M 31)) 31 (N 31) = N := by rw [ob_ob, ob_id]
  rw [e] at h1
  exact h1
theorem sc1.rf (M : am_M) : sc1 M M := by unfold sc1; rw [ob_id]; exact sc.rf M
theorem sc1.step {M N : am_M} {o : Nat} {f : Nat → Int} (h : sc1 M N) (ho : ¬ keep o ∨ o = 31) (h44 : o ≠ 44) : sc1 M (am_ob N o f) := by
  unfold sc1 at *
  by_cases e : o = 31
  · subst e; rw [ob_ob]; exact h
  · rw [ob_comm e]
    rcases ho with ho | ho
    · exact h.tr (sc_ob ho h44)
    · exact absurd ho e
theorem ct_canSeek {q : am_Q} {M : am_M} (hJ : J M) {a b : Nat} (ha : a < 5) (hb : b < 5)
    (h0 : ¬ (0 < lkN M ∧ okS M (M 57 a) ∧ okS M (M 57 b)) → ∀ N, J N → sc1 M N → q (aI 0) N)
    (h1 : 0 < lkN M → okS M (M 57 a) → okS M (M 57 b) → ∀ N, J N → sc1 M N → (∀ k d, k < lkN M → d < lkN M → N 31 (k * 5 + d) = nr (xD M) (lkP M k) (lkP M d)) → (∀ d, d < lkN M → N 31 (5 * 5 + d) = nr (xD M) (M 57 a) (lkP M d)) → (∀ d, d < lkN M → N 31 (6 * 5 + d) = nr (xD M) (M 57 b) (lkP M d)) → (∀ s, s < 32 → N 32 s = wS (lkW M) s (lkN M)) → q (aI 1) N) : S11_canSeek [aR 0, aI (a : Int), aI (b : Int)] M q := by
  have hL := hJ.2.2.2.2.2.1
  have hP := hJ.2.2.2.2.1
  have hn := lkN_le hL
  have hF31 := hJ.2.2.2.2.2.2.2.2
  have hd := hdx M
  have vw : ∀ N, sc1 M N → JL N ∧ lkN N = lkN M ∧ lkP N = lkP M ∧ lkW N = lkW M := by
    intro N s1
    exact hL.co (s1.k (by unfold keep; decide) (by decide)) (s1.k (by unfold keep; decide) (by decide)) (s1.k (by unfold keep; decide) (by decide)) (s1.k (by unfold keep; decide) (by decide)) s1.f.2
  have so : ∀ N (c : Nat), sc1 M N → c < 5 → f_3_standOf (N 18) (c : Int) = M 57 c := by
    intro N c s1 hc
    unfold f_3_standOf
    rw [if_pos (by omega), s1.k (o := 18) (by unfold keep; decide) (by decide)]
    exact (hP c hc).1
  have okN : ∀ N p, sc1 M N → (okS N p ↔ okS M p) := by
    intro N p s1
    unfold okS
    rw [(vw N s1).2.1, (vw N s1).2.2.1, s1.be.D]
  -- the range of what a row of legs puts
  have rng : ∀ (N : am_M) (L : Nat → Int) (f : Nat) (p : Int), (∀ j, j < 35 → -1 ≤ N 31 j ∧ N 31 j ≤ 63) → f < 7 → (∀ d, d < lkN M → L (f * 5 + d) = nr (xD M) p (lkP M d)) → (∀ j, (j < f * 5 ∨ f * 5 + lkN M ≤ j) → L j = N 31 j) → ∀ j, j < 35 → -1 ≤ L j ∧ L j ≤ 63 := by
    intro N L f p hN hf h1 h2 j hj
    by_cases c : j < f * 5 ∨ f * 5 + lkN M ≤ j
    · rw [h2 j c]; exact hN j hj
    · have e := h1 (j - f * 5) (by omega)
      rw [show f * 5 + (j - f * 5) = j by omega] at e
      rw [e]; exact nr_rng hd _ _
  refine e11_canSeek ⟨fun hz => ?_, fun hz => ct_layWeights hL (fun W hW => ?_)⟩
  · exact h0 (fun hx => by omega) M hJ (sc1.rf M)
  have hn0 : 0 < lkN M := by omega
  have loop : ∀ (c k : Nat) (N : am_M), k + c = lkN M → sc1 M N → (∀ j, j < 35 → -1 ≤ N 31 j ∧ N 31 j ≤ 63) → (∀ k' d, k' < k → d < lkN M → N 31 (k' * 5 + d) = nr (xD M) (lkP M k') (lkP M d)) → (∀ s, s < 32 → N 32 s = wS (lkW M) s (lkN M)) → am_R K11_canSeek q 25 [aR 0, aI (a : Int), aI (b : Int), aI (k : Int)] [] N := by
    intro c
    induction c with
    | zero =>
      intro k N hk s1 hN hrow hWN
      have hJN := hJ.sc1 s1 hN
      obtain ⟨v1, v2, v3, v4⟩ := vw N s1
      have e27 : N 27 2 = (lkN M : Int) := by rw [s1.k (o := 27) (by unfold keep; decide) (by decide)]; exact hn.2.2
      refine g11_canSeek_25 ?_
      rw [e27, so N a s1 ha]
      refine ⟨fun _ => ct_layLegs (f := 5) hJN.1.1 v1 (by omega) (fun g r L ok hL1 hL2 hok hok2 => ?_), fun hc => absurd hc (by omega)⟩
      rw [v2, v3, s1.be.D] at hL1
      rw [v2] at hL2
      have s2 : sc1 M (am_ob (am_ob (am_ob N 11 g) 12 r) 31 L) := ((s1.step (Or.inl (by unfold keep; decide)) (by decide)).step (Or.inl (by unfold keep; decide)) (by decide)).step (Or.inr rfl) (by decide)
      have hN2 : ∀ j, j < 35 → -1 ≤ (am_ob (am_ob (am_ob N 11 g) 12 r) 31 L) 31 j ∧ (am_ob (am_ob (am_ob N 11 g) 12 r) 31 L) 31 j ≤ 63 := by rw [ob_eq]; exact rng N L 5 _ hN (by omega) hL1 hL2
      have e31 : (am_ob (am_ob (am_ob N 11 g) 12 r) 31 L) 31 = L := ob_eq
      have e32 : (am_ob (am_ob (am_ob N 11 g) 12 r) 31 L) 32 = N 32 := by rw [ob_ne (by decide), ob_ne (by decide), ob_ne (by decide)]
      generalize am_ob (am_ob (am_ob N 11 g) 12 r) 31 L = N2 at *
      have hJ2 := hJ.sc1 s2 hN2
      obtain ⟨w1, w2, w3, w4⟩ := vw N2 s2
      rw [okN N _ s1] at hok2
      refine ⟨_, rfl, fun e => ?_, fun e => ?_⟩
      · refine h0 (fun hx => ?_) N2 hJ2 s2
        have := hok2.mpr hx.2.1
        omega
      · have hoka := hok2.mp (by omega)
        rw [so N2 b s2 hb]
        refine ct_layLegs (f := 6) hJ2.1.1 w1 (by omega) (fun g2 r2 L2 ok2 hM1 hM2 hok3 hok4 => ?_)
        rw [w2, w3, s2.be.D] at hM1
        rw [w2, e31] at hM2
        rw [okN N2 _ s2] at hok4
        have s3 : sc1 M (am_ob (am_ob (am_ob N2 11 g2) 12 r2) 31 L2) := ((s2.step (Or.inl (by unfold keep; decide)) (by decide)).step (Or.inl (by unfold keep; decide)) (by decide)).step (Or.inr rfl) (by decide)
        have hN3 : ∀ j, j < 35 → -1 ≤ (am_ob (am_ob (am_ob N2 11 g2) 12 r2) 31 L2) 31 j ∧ (am_ob (am_ob (am_ob N2 11 g2) 12 r2) 31 L2) 31 j ≤ 63 := by rw [ob_eq]; exact rng N2 L2 6 _ hN2 (by omega) hM1 (by rw [e31]; exact hM2)
        have f31 : (am_ob (am_ob (am_ob N2 11 g2) 12 r2) 31 L2) 31 = L2 := ob_eq
        have f32 : (am_ob (am_ob (am_ob N2 11 g2) 12 r2) 31 L2) 32 = N2 32 := by rw [ob_ne (by decide), ob_ne (by decide), ob_ne (by decide)]
        generalize am_ob (am_ob (am_ob N2 11 g2) 12 r2) 31 L2 = N3 at *
        have hJ3 := hJ.sc1 s3 hN3
        refine ⟨_, rfl, fun x12 hx12 => ?_⟩
        rcases hok3 with o0 | o1
        · rw [if_neg (fun hx => hx o0)] at hx12
          rw [hx12]
          refine h0 (fun hx => ?_) N3 hJ3 s3
          have := hok4.mpr hx.2.2
          omega
        · rw [if_pos (by omega)] at hx12
          rw [hx12]
          refine h1 hn0 hoka (hok4.mp o1) N3 hJ3 s3 (fun k' d hk' hd' => ?_) (fun d hd' => ?_) (fun d hd' => ?_) (fun s hs => ?_)
          · rw [f31, hM2 _ (by omega), hL2 _ (by omega)]
            exact hrow k' d (by omega) hd'
          · rw [f31, hM2 _ (by omega)]; exact hL1 d hd'
          · rw [f31]; exact hM1 d hd'
          · rw [f32, e32]; exact hWN s hs
    | succ c ih =>
      intro k N hk s1 hN hrow hWN
      have hJN := hJ.sc1 s1 hN
      obtain ⟨v1, v2, v3, v4⟩ := vw N s1
      have e27 : N 27 2 = (lkN M : Int) := by rw [s1.k (o := 27) (by unfold keep; decide) (by decide)]; exact hn.2.2
      have hk' := lk_f hL (show k < lkN M by omega)
      have ek : ((k : Int)).toNat = k := rfl
      refine g11_canSeek_25 ?_
      have ep : f_4_placeOf (N 27) (N 28) (k : Int) = lkP M k := by
        unfold f_4_placeOf
        rw [e27, if_neg (by omega), if_neg (by omega), if_neg (by omega), ek, s1.k (o := 28) (by unfold keep; decide) (by decide)]
        exact hk'.1
      rw [e27, ep]
      refine ⟨fun hc => absurd hc (by omega), fun _ => ct_layLegs (f := k) hJN.1.1 v1 (by omega) (fun g r L ok hL1 hL2 hok hok2 => ⟨_, rfl, by omega, ?_⟩)⟩
      rw [v2, v3, s1.be.D] at hL1
      rw [v2] at hL2
      refine ih (k + 1) _ (by omega) (((s1.step (Or.inl (by unfold keep; decide)) (by decide)).step (Or.inl (by unfold keep; decide)) (by decide)).step (Or.inr rfl) (by decide)) ?_ ?_ ?_
      · rw [ob_eq]; exact rng N L k _ hN (by omega) hL1 hL2
      · intro k' d hk' hd'
        rw [ob_eq]
        by_cases e : k' = k
        · subst e; exact hL1 d hd'
        · rw [hL2 _ (by omega)]; exact hrow k' d (by omega) hd'
      · rw [ob_ne (by decide), ob_ne (by decide), ob_ne (by decide)]; exact hWN
  refine loop (lkN M) 0 _ (by omega) ((sc1.rf M).step (Or.inl (by unfold keep; decide)) (by decide)) ?_ (fun k' d hk' => by omega) ?_
  · rw [ob_ne (by decide)]; exact hF31
  · rw [ob_eq]; exact hW
