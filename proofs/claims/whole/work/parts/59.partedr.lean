/-! parted: the reference -/
theorem sp_lk {M N : am_M} (hL : JL M) (h : sp M N) : JL N ∧ lkN N = lkN M ∧ lkP N = lkP M ∧ lkW N = lkW M := sc_lk hL h.1
theorem rf_parted {M : am_M} {a b : Nat} {w : Int} (hJ : J M) (ha : a < 5) (hb : b < 5) : aD S12_partedOf [aR 44, aI (a : Int), aI (b : Int), aI w] M (aL (pA M a b w)) := by
  refine aD_of (A := fun M => aL (pA M a b w)) (fun N _ s => congrArg aL (pA_co hJ.2.2.2.2.2.1 s a b w)) ?_
  clear hJ M
  intro M q hJ hR k
  have hL := hJ.2.2.2.2.2.1
  have hn := lkN_le hL
  have hd := hdx M
  have hA := aP_of hn.1
  unfold pA at k
  generalize al (lkN M) = A at *
  have hA32 := hA.1
  have ref3 : ∀ N, ¬ (0 < lkN M ∧ okS M (M 57 a) ∧ okS M (M 57 b)) → sp M N → q (aL (f_12_no (-3))) N := by
    intro N hno s
    have := k N s
    unfold pA0 at this
    rw [if_neg hno] at this
    exact this
  refine e12_partedOf (ct_findWays hJ hR hb (fun F w1 ok hok hok2 hw1 => ⟨_, rfl, fun e0 => ref3 _ (fun hx => ?_) sp_fw, fun e0 => ?_⟩))
  · have := hok2.mpr ⟨hx.1, hx.2.2⟩; omega
  have hokb := hok2.mp (by omega)
  have s1 : sp M (am_ob (am_ob M 59 F) 65 w1) := sp_fw
  generalize am_ob (am_ob M 59 F) 65 w1 = R1 at *
  have hJ1 := hJ.sc s1.1
  have hR1 := hR.sp s1
  obtain ⟨k1, k2, k3, k4⟩ := sp_lk hL s1
  have e57 : R1 57 = M 57 := s1.1.1 57 (by unfold keep; decide)
  refine ct_findWays hJ1 hR1 ha (fun F2 w2 okA hokA hokA2 hw2 => ⟨_, rfl, fun e0 => ref3 _ (fun hx => ?_) (s1.tr sp_fw), fun e0 => ?_⟩)
  · have := hokA2.mpr ⟨by rw [k2]; exact hx.1, by rw [sc_ok hL s1.1, e57]; exact hx.2.1⟩
    omega
  have hoka0 := hokA2.mp (by omega)
  have hoka : okS M (M 57 a) := by
    have := hoka0.2
    rw [sc_ok hL s1.1, e57] at this
    exact this
  have hwa := hw2 (by omega)
  rw [k2, s1.1.be.D, e57, k3] at hwa
  have s2 : sp M (am_ob (am_ob R1 59 F2) 65 w2) := s1.tr sp_fw
  have e65 : (am_ob (am_ob R1 59 F2) 65 w2) 65 = w2 := ob_eq
  generalize am_ob (am_ob R1 59 F2) 65 w2 = R2 at *
  have hn0 := hokb.1
  have hk : ∀ N', sp M N' → q (aL (if w = 2 then ((pm (pf M a b A) A : Nat) : Int) else lt_ (pf M a b A (pm (pf M a b A) A)).toNat (sm (lkW M) (lkN M)).toNat w)) N' := by
    intro N' j1
    have := k N' j1
    unfold pA0 at this
    rw [if_pos ⟨hn0, hoka, hokb.2⟩] at this
    exact this
  clear k ref3
  have e28 : R2 44 28 = (lkN M : Int) := by rw [s2.1.2.2]; exact hn.2.1
  rw [e28, ← hA.2.1]
  refine ⟨by omega, by omega, fun x11 hx11 => ?_⟩
  rw [hx11]
  -- one search, from where st stands
  have fb : ∀ (R : am_M) (st : Int) (w : Nat → Int) (t : Nat) (q' : am_Q), sp M R → R 65 = w → okS M st → (∀ d, d < lkN M → w (25 + d) = nr (xD M) st (lkP M d) ∧ ∀ a, a < lkN M → w (5 * a + d) = rF (nr (xD M) (lkP M a) (lkP M d))) → t ≤ A → (∀ R', sp M R' → R' 65 = w → R' 67 = R 67 → q' (aI (vV M st t)) R') → S12_findBest [aR 44, aI (t : Int)] R q' := by
    intro R st w t q' s e65 hok hw ht h
    obtain ⟨j1, j2, j3, j4⟩ := sp_lk hL s
    have hcr := cb_rng (t : Int)
    have hPt : ∀ d, d < 5 → hasB t d → d < lkN M := fun d hd' hh => (hA.2.2.2 t (by omega)).2.2.2 d hd' ht hh
    have hB := isV_ways hd hL hok (by omega) hPt hw (isV_spec M st (s := t) (by omega))
    refine ct_findBest j1 (by omega) (m := (cb (t : Int)).toNat) (by omega) (by rw [j2]; exact hPt) (by rw [j2, e65]; exact way_rng hd hok hw) (v := vV M st t) (c := cV M st t) (by unfold lgW; rw [e65, j2, j4]; exact hB) (fun r => ?_)
    refine h _ (s.tr sp_fb) ?_ ?_
    · rw [ob_ne (by decide), up_ne (by decide)]; exact e65
    · rw [ob_ne (by decide), up_ne (by decide)]
  -- the second round
  have second : ∀ (wb : Nat → Int), (∀ d, d < lkN M → wb (25 + d) = nr (xD M) (M 57 b) (lkP M d) ∧ ∀ a, a < lkN M → wb (5 * a + d) = rF (nr (xD M) (lkP M a) (lkP M d))) → ∀ (c t : Nat) (R : am_M) (v5 v6 : Int), t + c = A + 1 → sp M R → R 65 = wb → (∀ j, j ≤ A → R 67 j = vV M (M 57 a) j) → ((t = 0 ∧ v5 = -1) ∨ (∃ t', t = t' + 1 ∧ v5 = ((pm (pf M a b A) t' : Nat) : Int) ∧ v6 = pf M a b A (pm (pf M a b A) t'))) → am_R K12_partedOf q 76 [aR 44, aJ, aJ, aI w, aI (A : Int), aI v5, aI v6, aI (t : Int), aJ] [] R := by
    intro wb hwb c
    induction c with
    | zero =>
      intro t R v5 v6 ht s e65 h67 hv
      rcases hv with ⟨e1, -⟩ | ⟨t', e1, e5, e6⟩
      · omega
      have et : t' = A := by omega
      rw [et] at e5 e6
      have hpm := pm_le (pf M a b A) A
      refine g12_partedOf_76 ⟨fun _ => ⟨fun e2 => ?_, fun e2 => ?_⟩, fun hc => absurd hc (by omega)⟩
      · have := hk R s
        rw [if_pos e2] at this
        rw [e5]; exact this
      · have hq : ∀ N', sp M N' → q (aL (lt_ (pf M a b A (pm (pf M a b A) A)).toNat (sm (lkW M) (lkN M)).toNat w)) N' := by
          intro N' s'
          have := hk N' s'
          rw [if_neg e2] at this
          exact this
        rw [e6]
        generalize pm (pf M a b A) A = u at *
        obtain ⟨j1, j2, j3, j4⟩ := sp_lk hL s
        refine ct_weights j1 ⟨_, rfl, ?_⟩
        rw [j2, j4]
        have hp := hA.2.2.2 u (by omega)
        have h0a := vV_nn hd hL hoka (s := u) (by omega) (fun d hd' hh => hp.2.2.2 d hd' hpm hh)
        have h0b := vV_nn hd hL hokb.2 (s := df A u) (by omega) (fun d hd' hh => (hA.2.2.2 (df A u) (by omega)).2.2.2 d hd' hp.2.2.1 hh)
        have h0 : 0 ≤ pf M a b A u := by
          have e : pf M a b A u = vV M (M 57 a) u + vV M (M 57 b) (df A u) := rfl
          omega
        have hsw := sm_w hL hn0
        have ev : pf M a b A u = (((pf M a b A u).toNat : Nat) : Int) := by omega
        have es : sm (lkW M) (lkN M) = (((sm (lkW M) (lkN M)).toNat : Nat) : Int) := by omega
        rw [ev, es]
        exact ct_part (by omega) ⟨_, rfl, hq R s⟩
    | succ c ih =>
      intro t R v5 v6 ht s e65 h67 hv
      have etn : ((t : Int)).toNat = t := rfl
      have hp := hA.2.2.2 t (by omega)
      refine g12_partedOf_76 ⟨fun hc => absurd hc (by omega), fun _ => ⟨by omega, ?_⟩⟩
      rw [← hp.2.1, etn, h67 t (by omega)]
      refine fb R (M 57 b) wb (df A t) _ s e65 hokb.2 hwb hp.2.2.1 (fun R' s' e65' e67' => ⟨_, rfl, ?_⟩)
      have epf : vV M (M 57 a) t + vV M (M 57 b) (df A t) = pf M a b A t := rfl
      rw [epf]
      have up1 := vV_up hL (st := M 57 a) (s := t) (by omega)
      have up2 := vV_up hL (st := M 57 b) (s := df A t) (by omega)
      have n1 := vV_nn hd hL hoka (s := t) (by omega) (fun d hd' hh => hp.2.2.2 d hd' (by omega) hh)
      have n2 := vV_nn hd hL hokb.2 (s := df A t) (by omega) (fun d hd' hh => (hA.2.2.2 (df A t) (by omega)).2.2.2 d hd' hp.2.2.1 hh)
      refine ⟨by omega, fun x15 hx15 x18 hx18 x19 hx19 => ⟨by omega, ?_⟩⟩
      refine ih (t + 1) R' x18 x19 (by omega) s' e65' (by rw [e67']; exact h67) (Or.inr ⟨t, rfl, ?_, ?_⟩)
      · rcases hv with ⟨e1, e5⟩ | ⟨t', e1, e5, e6⟩
        · subst e1
          rw [hx18, if_pos e5]; rfl
        · rw [hx18, if_neg (by omega), e6, hx15, e5, e1, pm_s]
          by_cases cc : pf M a b A (pm (pf M a b A) t') ≤ pf M a b A (t' + 1)
          · rw [if_pos cc, if_pos cc]
          · rw [if_neg cc, if_neg cc]
      · rcases hv with ⟨e1, e5⟩ | ⟨t', e1, e5, e6⟩
        · subst e1
          rw [hx19, if_pos e5, hx15]; rfl
        · rw [hx19, if_neg (by omega), e6, hx15, e1, pm_s]
          by_cases cc : pf M a b A (pm (pf M a b A) t') ≤ pf M a b A (t' + 1)
          · rw [if_pos cc, if_pos cc]
          · rw [if_neg cc, if_neg cc]
  -- the first round
  have first : ∀ (c t : Nat) (R : am_M), t + c = A + 1 → sp M R → R 65 = w2 → (∀ j, j < t → R 67 j = vV M (M 57 a) j) → am_R K12_partedOf q 35 [aR 44, aJ, aI (b : Int), aI w, aI (A : Int), aI (t : Int), aJ, aJ, aJ] [] R := by
    intro c
    induction c with
    | zero =>
      intro t R ht s e65 h67
      have hJR := hJ.sc s.1
      have hRR := hR.sp s
      obtain ⟨j1, j2, j3, j4⟩ := sp_lk hL s
      have e57R : R 57 = M 57 := s.1.1 57 (by unfold keep; decide)
      refine g12_partedOf_35 ⟨fun _ => ct_findWays hJR hRR hb (fun F3 w3 ok3 hok3 hok32 hw3 => ⟨_, rfl, ?_⟩), fun hc => absurd hc (by omega)⟩
      have hy := hok32.mpr ⟨by rw [j2]; exact hn0, by rw [sc_ok hL s.1, e57R]; exact hokb.2⟩
      have hwb := hw3 hy
      rw [j2, s.1.be.D, e57R, j3] at hwb
      refine second w3 hwb (A + 1) 0 _ (-1) 0 (by omega) (s.tr sp_fw) ob_eq (fun j hj => ?_) (Or.inl ⟨rfl, rfl⟩)
      rw [ob_ne (by decide), ob_ne (by decide)]; exact h67 j (by omega)
    | succ c ih =>
      intro t R ht s e65 h67
      have etn : ((t : Int)).toNat = t := rfl
      refine g12_partedOf_35 ⟨fun hc => absurd hc (by omega), fun _ => fb R (M 57 a) w2 t _ s e65 hoka hwa (by omega) (fun R' s' e65' e67' => ⟨_, rfl, by omega, by omega, ?_⟩)⟩
      rw [etn, up_as, e67']
      refine ih (t + 1) _ (by omega) (s'.tr (sp_ob (by unfold keep; decide) (by decide))) (by rw [ob_ne (by decide)]; exact e65') (fun j hj => ?_)
      rw [ob_eq]
      by_cases e : j = t
      · subst e; rw [set_eq]
      · rw [set_ne e]; exact h67 j (by omega)
  exact first (A + 1) 0 R2 (by omega) s2 e65 (fun j hj => by omega)
theorem rm_parted {M : am_M} {a b : Nat} {w : Int} (hJ : J M) (ha : a < 5) (hb : b < 5) (hab : a ≠ b) (hw : 0 ≤ w ∧ w ≤ 2) : aM S12_parted [aR 44, aI (a : Int), aI (b : Int), aI w] M (aL (pA M a b w)) := by
  intro N q hN s k
  refine e12_parted (rd_reads hN s (fun N' hN' hR' s' => ⟨fun _ => ⟨fun _ => ⟨fun hc => absurd hc (by omega), fun _ => ⟨fun _ => rf_parted hJ ha hb N' _ hN' hR' s' (fun N2 h1 h2 h3 => ⟨_, rfl, k N2 h1 h2 h3⟩), fun hc => absurd hc (by omega)⟩⟩, fun hc => absurd hc (by omega)⟩, fun hc => absurd hc (by omega)⟩))
theorem lc_parted {M : am_M} {v1 v2 v3 : Int} (hJ : J M) : S11_parted [aR 0, aI v1, aI v2, aI v3] M (fun r1 M1 => S12_parted [aR 44, aI v1, aI v2, aI v3] M1 (fun r2 M2 => eqL r1 r2 ∧ J M2)) := by
  by_cases h : (0 ≤ v1 ∧ v1 < 5) ∧ (0 ≤ v2 ∧ v2 < 5) ∧ ¬ v1 = v2 ∧ 0 ≤ v3 ∧ v3 ≤ 2
  · obtain ⟨a, ha⟩ : ∃ a : Nat, v1 = a := ⟨v1.toNat, by omega⟩
    obtain ⟨b, hb⟩ : ∃ b : Nat, v2 = b := ⟨v2.toNat, by omega⟩
    subst ha; subst hb
    exact lcL hJ (cl_parted hJ (by omega) (by omega) (by omega) (by omega)) (rm_parted hJ (by omega) (by omega) (by omega) (by omega))
  · have bad : S12_parted [aR 44, aI v1, aI v2, aI v3] M (fun r2 M2 => eqL (aL (f_11_refused (-2))) r2 ∧ J M2) := by
      refine e12_parted (ct_reads hJ.1 (fun M1 hs hR => ?_))
      have fin : eqL (aL (f_11_refused (-2))) (aL (f_12_no (-2))) ∧ J M1 := ⟨⟨_, rfl, rfl⟩, hJ.sc hs⟩
      exact ⟨fun h1 => ⟨fun h2 => ⟨fun _ => fin, fun h3 => ⟨fun h4 => absurd h (by omega), fun _ => fin⟩⟩, fun _ => fin⟩, fun _ => fin⟩
    exact e11_parted ⟨fun h1 => ⟨fun h2 => ⟨fun _ => bad, fun h3 => ⟨fun _ => bad, fun h4 => ⟨fun h5 => absurd h (by omega), fun _ => bad⟩⟩⟩, fun _ => bad⟩, fun _ => bad⟩
