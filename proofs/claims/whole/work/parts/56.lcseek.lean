/-! seek: alike -/
theorem wk_trans {d : Nat → Int} {q r : Int} : ∀ n c p n' c', wk d q n c p → wk d r n' c' q → wk d r (n + n') (c + c') p := by
  intro n
  induction n with
  | zero =>
    intro c p n' c' h h'
    obtain ⟨h1, h2⟩ := h
    subst h1; subst h2
    rw [Nat.zero_add, Int.zero_add]; exact h'
  | succ n ih =>
    intro c p n' c' h h'
    obtain ⟨l, hl, hb, hw⟩ := h
    have := ih _ _ _ _ hw h'
    rw [show n + 1 + n' = (n + n') + 1 by omega]
    refine ⟨l, hl, hb, ?_⟩
    rw [show c + c' - d (bs d p (l : Int)).toNat = c - d (bs d p (l : Int)).toNat + c' by omega]
    exact this
theorem nr_conn {d : Nat → Int} (hd : dR d) {st p q : Int} (h1 : ¬ nr d st p = -1) (h2 : ¬ nr d st q = -1) : ¬ nr d p q = -1 := by
  have p1 := nr_pl h1
  have p2 := nr_pl h2
  have e1 : nr d st p = fF d 0 st p := by unfold nr; rw [if_pos ⟨p1.1, p1.2⟩]
  have e2 : nr d st q = fF d 0 st q := by unfold nr; rw [if_pos ⟨p2.1, p2.2⟩]
  have e3 : nr d p q = fF d 0 p q := by unfold nr; rw [if_pos ⟨p1.2, p2.2⟩]
  rw [e1] at h1
  rw [e2] at h2
  obtain ⟨n, c, hw, -⟩ := fF_wk hd (Int.le_refl 0) h1
  obtain ⟨n', c', hw', -⟩ := fF_wk hd (Int.le_refl 0) h2
  obtain ⟨c2, hr⟩ := wk_rev n c p p1.2 hw
  have := fF_le hd (Int.le_refl 0) (wk_trans n' c' q n c2 hw' hr)
  rw [e3]; omega
def al (n : Nat) : Nat := (am_shl 1 (n : Int) - 1).toNat
theorem al_fin : ∀ n : Fin 6, 0 ≤ am_shl 1 (n.val : Int) - 1 ∧ am_shl 1 (n.val : Int) - 1 < 32 ∧ cb (am_shl 1 (n.val : Int) - 1) = (n.val : Int) ∧ ∀ d : Fin 5, am_and (am_shr (am_shl 1 (n.val : Int) - 1) (d.val : Int)) 1 = if d.val < n.val then 1 else 0 := by decide +kernel
theorem al_f {n : Nat} (hn : n ≤ 5) : ((al n : Nat) : Int) = am_shl 1 (n : Int) - 1 ∧ al n < 32 ∧ cb (al n : Nat) = (n : Int) ∧ ∀ d : Nat, d < 5 → am_and (am_shr (al n : Nat) (d : Int)) 1 = if d < n then 1 else 0 := by
  have h := al_fin ⟨n, by omega⟩
  have h1 : 0 ≤ am_shl 1 (n : Int) - 1 ∧ am_shl 1 (n : Int) - 1 < 32 ∧ cb (am_shl 1 (n : Int) - 1) = (n : Int) ∧ ∀ d : Fin 5, am_and (am_shr (am_shl 1 (n : Int) - 1) (d.val : Int)) 1 = if d.val < n then 1 else 0 := h
  have e : ((al n : Nat) : Int) = am_shl 1 (n : Int) - 1 := by unfold al; omega
  rw [e]
  exact ⟨rfl, by omega, h1.2.2.1, fun d hd => h1.2.2.2 ⟨d, hd⟩⟩
theorem sub_refl {a : Nat} (ha : a < 32) : sub_ a a := (sub_self_fin ⟨a, ha⟩).1
theorem lf_in {T : Nat → Int} {f s : Nat} (hf : f < 7) (hs : s < 32) : f_6_leastFrom T (f : Int) (s : Int) = T (s * 7 + f) := by
  unfold f_6_leastFrom
  rw [if_neg (by omega), if_neg (by omega), if_neg (by omega), if_neg (by omega), show ((s : Int) * 7 + (f : Int)).toNat = s * 7 + f by omega]
theorem al_has {n : Nat} (hn : n ≤ 5) {d : Nat} (hd : d < 5) : hasB (al n) d ↔ d < n := by
  unfold hasB
  rw [(al_f hn).2.2.2 d hd]
  by_cases c : d < n
  · rw [if_pos c]; exact ⟨fun _ => c, fun _ => by decide⟩
  · rw [if_neg c]; exact ⟨fun h => absurd rfl h, fun h => absurd h c⟩
theorem wS_al {w : Nat → Int} {n : Nat} (hn : n ≤ 5) : ∀ k, k ≤ n → wS w (al n) k = sm w k := by
  intro k
  induction k with
  | zero => intro _; rfl
  | succ k ih =>
    intro hk
    rw [wS_s, ih (by omega), (al_f hn).2.2.2 k (by omega), if_pos (by omega), Int.one_mul]
    rfl
theorem cst_nn {lg : Nat → Nat → Int} {W : Nat → Int} {P : Nat → Prop} {f0 : Nat} (hl : ∀ g d, (g = f0 ∨ P g) → d < 5 → P d → 0 ≤ lg g d) (hW : ∀ s, s < 32 → 0 ≤ W s) : ∀ m f t k, (f = f0 ∨ P f) → t < 32 → k < 5 ^ m → vl m t k → (∀ d, d < 5 → hasB t d → P d) → 0 ≤ cst lg W m f t k := by
  intro m
  induction m with
  | zero => intro f t k _ _ _ _ _; exact Int.le_refl _
  | succ m ih =>
    intro f t k hf ht hk hv hPt
    have hd := dg_lt hk
    have hPd := hPt _ hd hv.1
    rw [cst_s]
    have h1 := ih _ _ _ (Or.inr hPd) (rm_f ht hd).2.1 dg_mod hv.2 (fun e he hh => hPt e he (rm_sub ht hd he hh))
    have h4 : 0 ≤ lg f (k / 5 ^ m) * W t := Int.mul_nonneg (hl f _ hf hd hPd) (hW t ht)
    omega
theorem sc_lk {M M' : am_M} (hL : JL M) (h : sc M M') : JL M' ∧ lkN M' = lkN M ∧ lkP M' = lkP M ∧ lkW M' = lkW M := hL.co (h.1 27 (by unfold keep; decide)) (h.1 28 (by unfold keep; decide)) (h.1 29 (by unfold keep; decide)) (h.1 64 (by unfold keep; decide)) h.2.2
theorem sc_ok {M M' : am_M} (hL : JL M) (h : sc M M') (p : Int) : okS M' p ↔ okS M p := by
  obtain ⟨a, b, c, d⟩ := sc_lk hL h
  unfold okS
  rw [b, c, h.be.D]
theorem sc_fb {M : am_M} {c : Int} {r : Nat → Int} : sc M (am_ob (am_up M 44 32 c) 61 r) := by
  have h1 : sc M (am_up M 44 32 c) := by rw [up_as]; exact sc_44 (set_ne (by decide)) (set_ne (by decide))
  exact h1.tr (sc_ob (by unfold keep; decide) (by decide))
theorem sc_fw {M : am_M} {F w : Nat → Int} : sc M (am_ob (am_ob M 59 F) 65 w) := (sc_ob (by unfold keep; decide) (by decide)).tr (sc_ob (by unfold keep; decide) (by decide))
theorem sc1_lk {M N : am_M} (hL : JL M) (h : sc1 M N) : JL N ∧ lkN N = lkN M ∧ lkP N = lkP M ∧ lkW N = lkW M := hL.co (h.k (by unfold keep; decide) (by decide)) (h.k (by unfold keep; decide) (by decide)) (h.k (by unfold keep; decide) (by decide)) (h.k (by unfold keep; decide) (by decide)) h.f.2
theorem sc1_ok {M N : am_M} (hL : JL M) (h : sc1 M N) (p : Int) : okS N p ↔ okS M p := by
  obtain ⟨a, b, c, d⟩ := sc1_lk hL h
  unfold okS
  rw [b, c, h.be.D]
/-- a row of the class is a row of the reference -/
theorem row_eq {M N : am_M} {w : Nat → Int} {st : Int} {f0 s m c : Nat} {v : Int} (hd : dR (xD M)) (hL : JL M) (hf0 : 5 ≤ f0) (hok : okS M st) (hs : s < 32) (hP : ∀ d, d < 5 → hasB s d → d < lkN M)
    (h31 : ∀ k d, k < lkN M → d < lkN M → N 31 (k * 5 + d) = nr (xD M) (lkP M k) (lkP M d)) (hf : ∀ d, d < lkN M → N 31 (f0 * 5 + d) = nr (xD M) st (lkP M d)) (h32 : ∀ s, s < 32 → N 32 s = wS (lkW M) s (lkN M))
    (hw : ∀ d, d < lkN M → w (25 + d) = nr (xD M) st (lkP M d) ∧ ∀ a, a < lkN M → w (5 * a + d) = rF (nr (xD M) (lkP M a) (lkP M d)))
    (h : isB (lgM N) (N 32) m f0 s v c) : isB (fun f d => w (5 * f + d)) (fun t => wS (lkW M) t (lkN M)) m 5 s v c ∧ 0 ≤ v := by
  have hn := lkN_le hL
  have hcn : ∀ a d, a < lkN M → d < lkN M → ¬ nr (xD M) (lkP M a) (lkP M d) = -1 := fun a d ha hd' => nr_conn hd (hok a ha) (hok d hd')
  have hB : isB (fun f d => w (5 * f + d)) (fun t => wS (lkW M) t (lkN M)) m 5 s v c := by
    refine isB_congr (P := fun d => d < lkN M) (f0 := f0) (f1 := 5) (fun g d hg hd5 hdn => ?_) (by omega) h32 hs hP h
    by_cases e : g = f0
    · rw [if_pos e, e]
      exact (hf d hdn).trans (hw d hdn).1.symm
    · rw [if_neg e]
      have hgn : g < lkN M := by
        rcases hg with x | x
        · exact absurd x e
        · exact x
      have e2 := (hw d hdn).2 g hgn
      unfold rF at e2
      rw [if_neg (hcn g d hgn hdn)] at e2
      exact (h31 g d hgn hdn).trans e2.symm
  refine ⟨hB, ?_⟩
  have := cst_nn (lg := fun f d => w (5 * f + d)) (W := fun t => wS (lkW M) t (lkN M)) (P := fun d => d < lkN M) (f0 := 5) (fun g d hg hd5 hdn => ?_) (fun t ht => (wS_rng ht hn.1 (fun k hk => (lk_f hL hk).2.2.2.2) (lkN M) (Nat.le_refl _)).1) m 5 s c (Or.inl rfl) hs hB.1 hB.2.1 hP
  · rw [hB.2.2.1] at this; exact this
  · rcases hg with e | e
    · rw [e]
      have h1 := (hw d hdn).1
      have h2 := nr_rng hd st (lkP M d)
      have h3 := hok d hdn
      show 0 ≤ w (25 + d)
      omega
    · have e2 := (hw d hdn).2 g e
      unfold rF at e2
      rw [if_neg (hcn g d e hdn)] at e2
      have h2 := nr_rng hd (lkP M g) (lkP M d)
      have h3 := hcn g d e hdn
      show 0 ≤ w (5 * g + d)
      omega
/-- the ways' range, where all are reached -/
theorem way_rng {M : am_M} {w : Nat → Int} {st : Int} (hd : dR (xD M)) (hok : okS M st) (hw : ∀ d, d < lkN M → w (25 + d) = nr (xD M) st (lkP M d) ∧ ∀ a, a < lkN M → w (5 * a + d) = rF (nr (xD M) (lkP M a) (lkP M d))) : ∀ f d, (f = 5 ∨ f < lkN M) → d < lkN M → 0 ≤ w (5 * f + d) ∧ w (5 * f + d) ≤ 63 := by
  intro f d hf hdn
  rcases hf with e | e
  · subst e
    have h1 := (hw d hdn).1
    have h2 := nr_rng hd st (lkP M d)
    have h3 := hok d hdn
    show 0 ≤ w (25 + d) ∧ w (25 + d) ≤ 63
    omega
  · have e2 := (hw d hdn).2 f e
    have h3 := nr_conn hd (hok f e) (hok d hdn)
    unfold rF at e2
    rw [if_neg h3] at e2
    have h2 := nr_rng hd (lkP M f) (lkP M d)
    omega
theorem LB_of {M N : am_M} (hL : JL M) (hJ : J N) (h32 : ∀ s, s < 32 → N 32 s = wS (lkW M) s (lkN M)) : LB N := by
  have hn := lkN_le hL
  refine ⟨hJ.2.2.2.2.2.2.2.2, fun s hs => ?_⟩
  rw [h32 s hs]
  have := wS_rng hs hn.1 (fun k hk => (lk_f hL hk).2.2.2.2) (lkN M) (Nat.le_refl _)
  omega
/-- the reference: not, where a look is out of reach -/
theorem seekOf_not {q : am_Q} {M : am_M} (hJ : J M) (hR : RD M) {p : Nat} {i : Int} (hp : p < 5) (hb : ¬ (0 < lkN M ∧ okS M (M 57 p))) (h : ∀ F w, q (aL (f_12_no (-3))) (am_ob (am_ob M 59 F) 65 w)) : S12_seekOf [aR 44, aI (p : Int), aI i] M q := by
  refine e12_seekOf (ct_findWays hJ hR hp (fun F w ok hok hok2 hw => ⟨_, rfl, fun _ => h F w, fun hc => ?_⟩))
  exact absurd (hok2.mp (by omega)) hb
theorem seekOf_ok {q : am_Q} {M : am_M} (hJ : J M) (hR : RD M) {p : Nat} {i : Int} (hp : p < 5) (hi : -2 ≤ i ∧ i < 5) (h0 : 0 < lkN M) (hok : okS M (M 57 p)) {v : Int} {c : Nat}
    (hB : ∀ w : Nat → Int, (∀ d, d < lkN M → w (25 + d) = nr (xD M) (M 57 p) (lkP M d) ∧ ∀ a, a < lkN M → w (5 * a + d) = rF (nr (xD M) (lkP M a) (lkP M d))) → isB (fun f d => w (5 * f + d)) (fun t => wS (lkW M) t (lkN M)) (lkN M) 5 (al (lkN M)) v c ∧ 0 ≤ v)
    (h : ∀ N, sc M N → q (aL (if 0 ≤ i then an (lkN M) c i.toNat else lt_ v.toNat (sm (lkW M) (lkN M)).toNat (i + 2))) N) : S12_seekOf [aR 44, aI (p : Int), aI i] M q := by
  have hL := hJ.2.2.2.2.2.1
  have hn := lkN_le hL
  have hd := hdx M
  have ha := al_f hn.1
  refine e12_seekOf (ct_findWays hJ hR hp (fun F w ok hok' hok2 hw => ⟨_, rfl, fun hz => ?_, fun hz => ?_⟩))
  · have := hok2.mpr ⟨h0, hok⟩; omega
  have hw1 := hw (by omega)
  obtain ⟨hB1, hv0⟩ := hB w hw1
  have s1 : sc M (am_ob (am_ob M 59 F) 65 w) := sc_fw
  have e65 : (am_ob (am_ob M 59 F) 65 w) 65 = w := ob_eq
  obtain ⟨k1, k2, k3, k4⟩ := sc_lk hL s1
  generalize am_ob (am_ob M 59 F) 65 w = R at *
  have hnR := lkN_le k1
  rw [hnR.2.1, k2, ← ha.1]
  refine ⟨by omega, by omega, ?_⟩
  refine ct_findBest k1 ha.2.1 ha.2.2.1 (fun d hd' hh => by rw [k2]; exact (al_has hn.1 hd').mp hh) (by rw [k2, e65]; exact way_rng hd hok hw1) (v := v) (c := c) (by unfold lgW; rw [e65, k2, k4]; exact hB1) (fun r => ?_)
  have s2 : sc M (am_ob (am_up R 44 32 (c : Int)) 61 r) := s1.tr sc_fb
  have f32 : (am_ob (am_up R 44 32 (c : Int)) 61 r) 44 32 = (c : Int) := by rw [ob_ne (by decide), up_eq, set_eq]
  obtain ⟨j1, j2, j3, j4⟩ := sc_lk hL s2
  generalize am_ob (am_up R 44 32 (c : Int)) 61 r = N at *
  have hnN := lkN_le j1
  refine ⟨_, rfl, fun hi0 x11 hx11 => ?_, fun hi0 => ?_⟩
  · rw [f32] at hx11
    rw [hnN.2.1, j2]
    refine ⟨by omega, fun x12 hx12 => ?_⟩
    have hq := h N s2
    rw [if_pos hi0] at hq
    obtain ⟨iN, hiN⟩ : ∃ iN : Nat, i = iN := ⟨i.toNat, by omega⟩
    subst hiN
    have eiN : ((iN : Int)).toNat = iN := rfl
    rw [eiN] at hq
    have hc5 := hB1.1
    rw [an_eq _ _ _ hc5] at hq
    have loop : ∀ (b j : Nat), j + b = lkN M - 1 - iN → am_R K12_seekOf q 59 [aR 44, aJ, aI (iN : Int), aJ, aI ((c / 5 ^ j : Nat) : Int), aI ((lkN M : Int) - 1 - (j : Int))] [] N := by
      intro b
      induction b with
      | zero =>
        intro j hj
        refine g12_seekOf_59 ?_
        rw [hnN.2.1, j2]
        refine ⟨fun _ => ⟨fun _ => Int.natCast_nonneg _, fun x3 hx3 => ?_⟩, fun hc => absurd hc (by omega)⟩
        rw [hx3]
        by_cases cc : iN < lkN M
        · rw [if_neg (by omega)]
          rw [if_pos cc, show lkN M - 1 - iN = j by omega] at hq
          exact hq
        · rw [if_pos (by omega)]
          rw [if_neg cc] at hq
          exact hq
      | succ b ih =>
        intro j hj
        refine g12_seekOf_59 ⟨fun hc => absurd hc (by omega), fun _ => ⟨Int.natCast_nonneg _, fun x4 hx4 => ⟨by omega, ?_⟩⟩⟩
        have e4 : x4 = ((c / 5 ^ (j + 1) : Nat) : Int) := by
          rw [hx4, p5_s, ← Nat.div_div_eq_div_mul]; rfl
        rw [e4, show (lkN M : Int) - 1 - (j : Int) + (-1) = (lkN M : Int) - 1 - ((j + 1 : Nat) : Int) by omega]
        exact ih (j + 1) (by omega)
    have := loop (lkN M - 1 - iN) 0 (by omega)
    rw [show ((c / 5 ^ 0 : Nat) : Int) = x11 by rw [hx11, Nat.pow_zero, Nat.div_one], show (lkN M : Int) - 1 - ((0 : Nat) : Int) = x12 by omega] at this
    exact this
  · have hq := h N s2
    rw [if_neg hi0] at hq
    refine ct_weights j1 ⟨_, rfl, by omega, ?_⟩
    rw [j2, j4]
    have hsr : 1 ≤ sm (lkW M) (lkN M) := by
      have hpos : ∀ k, k ≤ lkN M → (k : Int) ≤ sm (lkW M) k := by
        intro k
        induction k with
        | zero => intro _; exact Int.le_refl _
        | succ k ih =>
          intro hk
          have h1 := ih (by omega)
          have h2 := (lk_f hL (show k < lkN M by omega)).2.2.2.2
          have : sm (lkW M) (k + 1) = sm (lkW M) k + lkW M k := rfl
          omega
      have := hpos (lkN M) (Nat.le_refl _)
      omega
    have ev : v = ((v.toNat : Nat) : Int) := by omega
    have es : sm (lkW M) (lkN M) = (((sm (lkW M) (lkN M)).toNat : Nat) : Int) := by omega
    rw [ev, es]
    refine ct_part (by omega) ⟨_, rfl, hq⟩
theorem lc_seek {M : am_M} {v1 v2 : Int} (hJ : J M) : S11_seek [aR 0, aI v1, aI v2] M (fun r1 M1 => S12_seek [aR 44, aI v1, aI v2] M1 (fun r2 M2 => eqL r1 r2 ∧ J M2)) := by
  have hL := hJ.2.2.2.2.2.1
  have hn := lkN_le hL
  have hd := hdx M
  have ha := al_f hn.1
  have bad : ¬ ((0 ≤ v1 ∧ v1 < 5) ∧ -2 ≤ v2 ∧ v2 < 5) → S12_seek [aR 44, aI v1, aI v2] M (fun r2 M2 => eqL (aL (f_11_refused (-2))) r2 ∧ J M2) := by
    intro hb
    exact e12_seek (ct_reads hJ.1 (fun M1 hs hR => ⟨fun h1 => ⟨fun h2 => absurd hb (by omega), fun _ => ⟨⟨_, rfl, rfl⟩, hJ.sc hs⟩⟩, fun _ => ⟨⟨_, rfl, rfl⟩, hJ.sc hs⟩⟩))
  refine e11_seek ⟨fun h1 => ⟨fun h2 => bad (by omega), fun h2 => ⟨fun h3 => ?_, fun h3 => bad (by omega)⟩⟩, fun h1 => bad (by omega)⟩
  obtain ⟨p, hp'⟩ : ∃ p : Nat, v1 = p := ⟨v1.toNat, by omega⟩
  subst hp'
  have hp : p < 5 := by omega
  refine ct_canSeek hJ hp hp (fun hno N hJN s1 => ⟨_, rfl, fun _ => ?_, fun hc => absurd rfl hc⟩) (fun hn0 hok _ N hJN s1 h31 h5 h6 h32 => ⟨_, rfl, fun hc => absurd hc (by decide), fun _ => ?_⟩)
  · have hLN := (sc1_lk hL s1).1
    refine e12_seek (ct_reads hJN.1 (fun M2 hs hR => ⟨fun _ => ⟨fun _ => ?_, fun hc => absurd hc (by omega)⟩, fun hc => absurd hc (by omega)⟩))
    have hJ2 := hJN.sc hs
    refine seekOf_not hJ2 hR hp (fun hx => hno ?_) (fun F w => ⟨_, rfl, ⟨_, rfl, rfl⟩, hJ2.sc sc_fw⟩)
    rw [(sc_lk hLN hs).2.1, (sc1_lk hL s1).2.1, sc_ok hLN hs, sc1_ok hL s1, hs.1 57 (by unfold keep; decide), s1.k (o := 57) (by unfold keep; decide) (by decide)] at hx
    exact ⟨hx.1, hx.2, hx.2⟩
  · have hLN := (sc1_lk hL s1).1
    have e27 : N 27 2 = (lkN M : Int) := by rw [s1.k (o := 27) (by unfold keep; decide) (by decide)]; exact hn.2.2
    have eab : f_4_asBits (N 27) = ((al (lkN M) : Nat) : Int) := by unfold f_4_asBits; rw [e27, ← ha.1]
    have eob : ob_4_asBits (N 27) := by unfold ob_4_asBits; rw [e27, ← ha.1]; omega
    rw [eab]
    refine ⟨eob, fun x9 hx9 => ?_⟩
    rw [hx9]
    have hLB := LB_of hL hJN h32
    refine ct_solve ha.2.1 hLB (fun T hT => ?_)
    obtain ⟨c, hc⟩ := hT (al (lkN M)) ha.2.1 (sub_refl ha.2.1) 5 (by omega)
    rw [ha.2.2.1, show ((lkN M : Int)).toNat = lkN M from rfl] at hc
    have sT : sc N (am_ob N 33 T) := sc_ob (by unfold keep; decide) (by decide)
    have hJT := hJN.sc sT
    -- the reference from here
    have ref : ∀ v : Int, v = (if 0 ≤ v2 then an (lkN M) c v2.toNat else lt_ (T (al (lkN M) * 7 + 5)).toNat (sm (lkW M) (lkN M)).toNat (v2 + 2)) → S12_seek [aR 44, aI (p : Int), aI v2] (am_ob N 33 T) (fun r2 M2 => eqL (aL v) r2 ∧ J M2) := by
      intro v hv
      refine e12_seek (ct_reads hJT.1 (fun M2 hs hR => ⟨fun _ => ⟨fun _ => ?_, fun hc => absurd hc (by omega)⟩, fun hc => absurd hc (by omega)⟩))
      have s2 := sT.tr hs
      have hJ2 := hJT.sc hs
      obtain ⟨k1, k2, k3, k4⟩ := sc_lk hLN s2
      obtain ⟨m1, m2, m3, m4⟩ := sc1_lk hL s1
      have eD : xD M2 = xD M := by rw [s2.be.D, s1.be.D]
      have e57 : M2 57 = M 57 := by rw [s2.1 57 (by unfold keep; decide), s1.k (o := 57) (by unfold keep; decide) (by decide)]
      have eN : lkN M2 = lkN M := k2.trans m2
      have eP : lkP M2 = lkP M := k3.trans m3
      have eW : lkW M2 = lkW M := k4.trans m4
      refine seekOf_ok hJ2 hR hp (by omega) (by omega) (by unfold okS; rw [eN, eP, eD, e57]; exact hok) (v := T (al (lkN M) * 7 + 5)) (c := c) ?_ (fun N2 s3 => ⟨_, rfl, ⟨_, rfl, ?_⟩, hJ2.sc s3⟩)
      · rw [eN, eP, eD, eW, e57]
        intro w hw
        exact row_eq (f0 := 5) hd hL (by omega) hok ha.2.1 (fun d hd' hh => (al_has hn.1 hd').mp hh) h31 h5 h32 hw hc
      · rw [hv, eN, eW]
    refine ⟨fun hneg => ?_, fun hnn => ?_⟩
    · have hLT := (sc_lk hLN sT)
      refine ct_weightOf hLT.1 ha.2.1 ⟨_, rfl, by omega, ?_⟩
      rw [hLT.2.1, hLT.2.2.2, (sc1_lk hL s1).2.1, (sc1_lk hL s1).2.2.2, wS_al hn.1 (lkN M) (Nat.le_refl _), ob_eq]
      have el : f_6_leastFrom T 5 ((al (lkN M) : Nat) : Int) = T (al (lkN M) * 7 + 5) := lf_in (f := 5) (by omega) ha.2.1
      rw [el]
      -- signs
      have hv0 : 0 ≤ T (al (lkN M) * 7 + 5) := by
        have := row_eq (f0 := 5) (w := fun j => if j < 25 then rF (nr (xD M) (lkP M (j / 5)) (lkP M (j % 5))) else nr (xD M) (M 57 p) (lkP M (j - 25))) hd hL (by omega) hok ha.2.1 (fun d hd' hh => (al_has hn.1 hd').mp hh) h31 h5 h32 (fun d hd' => ⟨by
          show (if 25 + d < 25 then _ else nr (xD M) (M 57 p) (lkP M (25 + d - 25))) = _
          rw [if_neg (by omega), show 25 + d - 25 = d by omega], fun a ha' => by
          show (if 5 * a + d < 25 then rF (nr (xD M) (lkP M ((5 * a + d) / 5)) (lkP M ((5 * a + d) % 5))) else _) = _
          rw [if_pos (by omega), show (5 * a + d) / 5 = a by omega, show (5 * a + d) % 5 = d by omega]⟩) hc
        exact this.2
      have hsr : 1 ≤ sm (lkW M) (lkN M) ∧ sm (lkW M) (lkN M) ≤ 45 := by
        have hpos : ∀ k, k ≤ lkN M → (k : Int) ≤ sm (lkW M) k ∧ sm (lkW M) k ≤ 9 * k := by
          intro k
          induction k with
          | zero => intro _; exact ⟨Int.le_refl _, Int.le_refl _⟩
          | succ k ih =>
            intro hk
            have h1 := ih (by omega)
            have h2 := (lk_f hL (show k < lkN M by omega)).2.2.2.2
            have : sm (lkW M) (k + 1) = sm (lkW M) k + lkW M k := rfl
            omega
        have := hpos (lkN M) (Nat.le_refl _)
        omega
      have ev : T (al (lkN M) * 7 + 5) = (((T (al (lkN M) * 7 + 5)).toNat : Nat) : Int) := by omega
      have es : sm (lkW M) (lkN M) = (((sm (lkW M) (lkN M)).toNat : Nat) : Int) := by omega
      have hq := ref _ rfl
      rw [if_neg (by omega)] at hq
      rw [ev, es]
      exact ct_lowest (by omega) (by omega) ⟨_, rfl, hq⟩
    · obtain ⟨i, hi⟩ : ∃ i : Nat, v2 = i := ⟨v2.toNat, by omega⟩
      subst hi
      have hT2 : ∀ t, t < 32 → sub_ t (al (lkN M)) → tO (am_ob N 33 T) ((am_ob N 33 T) 33) t := by
        intro t ht hsub
        unfold tO
        rw [lgM_ob (by decide), ob_ne (by decide), ob_eq]
        exact hT t ht hsub
      have ecn : (cb ((al (lkN M) : Nat) : Int)).toNat = lkN M := by rw [ha.2.2.1]; rfl
      refine ct_stopAt (i := i) (v := T (al (lkN M) * 7 + 5)) (c := c) ha.2.1 (LB_ob (by decide) (by decide) hLB) hT2 (by rw [lgM_ob (by decide), ob_ne (by decide), ecn]; exact hc) ⟨_, rfl, ref _ ?_⟩
      rw [if_pos (by omega), ecn]
      rfl
