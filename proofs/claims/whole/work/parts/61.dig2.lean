/-! the digest's answers, in pairs: seek, near, easiest, best, holds -/
noncomputable def skA0 (M : am_M) (p : Nat) (i : Int) (A : Nat) : Int := @ite Int (0 < lkN M ∧ okS M (M 57 p)) (Classical.propDecidable _) (if 0 ≤ i then an (lkN M) (cV M (M 57 p) A) i.toNat else lt_ (vV M (M 57 p) A).toNat (sm (lkW M) (lkN M)).toNat (i + 2)) (f_11_refused (-3))
noncomputable def skA (M : am_M) (p : Nat) (i : Int) : Int := skA0 M p i (al (lkN M))
theorem skA_co {M N : am_M} (hL : JL M) (s : sc1 M N) (p : Nat) (i : Int) : skA N p i = skA M p i := by
  obtain ⟨l1, l2, l3, l4⟩ := sc1_lk hL s
  have e57 : N 57 = M 57 := s.k (by unfold keep; decide) (by decide)
  have ev := vV_co s.be.D l2 l3 l4
  unfold skA
  rw [l2]
  generalize al (lkN M) = A
  unfold skA0
  rw [ev.1, ev.2, l2, l4, e57]
  by_cases c : 0 < lkN M ∧ okS M (M 57 p)
  · rw [if_pos c, if_pos]
    rw [sc1_ok hL s]; exact c
  · rw [if_neg c, if_neg]
    rw [sc1_ok hL s]; exact c
theorem cl_seek {M : am_M} {p : Nat} {i : Int} (hJ : J M) (hp : p < 5) (hi : -2 ≤ i ∧ i < 5) : aC S11_seek [aR 0, aI (p : Int), aI i] M (aL (skA M p i)) := by
  refine aC_of (A := fun M => aL (skA M p i)) (fun N _ s => congrArg aL (skA_co hJ.2.2.2.2.2.1 s p i)) ?_
  clear hJ M
  intro M q hJ k
  have hL := hJ.2.2.2.2.2.1
  have hn := lkN_le hL
  have hd := hdx M
  have hA := aP_of hn.1
  have hWA : ∀ w : Nat → Int, wS w (al (lkN M)) (lkN M) = sm w (lkN M) := fun w => wS_A rfl hn.1
  have hPA : ∀ d, d < 5 → hasB (al (lkN M)) d → d < lkN M := fun d hd' hh => (al_has hn.1 hd').mp hh
  unfold skA at k
  generalize al (lkN M) = A at *
  have hA32 := hA.1
  refine e11_seek ⟨fun _ => ⟨fun hc => absurd hc (by omega), fun _ => ⟨fun _ => ?_, fun hc => absurd hi.2 hc⟩⟩, fun hc => absurd hc (by omega)⟩
  refine ct_canSeek hJ hp hp (fun hno N hJN s1 => ⟨_, rfl, fun _ => ?_, fun hc => absurd rfl hc⟩) (fun hn0 hok _ N hJN s1 h31 h5 h6 h32 => ⟨_, rfl, fun hc => absurd hc (by decide), fun _ => ?_⟩)
  · have := k N hJN s1
    unfold skA0 at this
    rw [if_neg (fun hx => hno ⟨hx.1, hx.2, hx.2⟩)] at this
    exact this
  · have hk : ∀ N', J N' → sc1 M N' → q (aL (if 0 ≤ i then an (lkN M) (cV M (M 57 p) A) i.toNat else lt_ (vV M (M 57 p) A).toNat (sm (lkW M) (lkN M)).toNat (i + 2))) N' := by
      intro N' j1 j2
      have := k N' j1 j2
      unfold skA0 at this
      rw [if_pos ⟨hn0, hok⟩] at this
      exact this
    clear k
    have e27 : N 27 2 = (lkN M : Int) := by rw [s1.k (o := 27) (by unfold keep; decide) (by decide)]; exact hn.2.2
    have eab : f_4_asBits (N 27) = (A : Int) := by unfold f_4_asBits; rw [e27, ← hA.2.1]
    have eob : ob_4_asBits (N 27) := by unfold ob_4_asBits; rw [e27, ← hA.2.1]; omega
    rw [eab]
    refine ⟨eob, fun x9 hx9 => ?_⟩
    rw [hx9]
    have hLB := LB_of hL hJN h32
    refine ct_solve hA32 hLB (fun T hT => ?_)
    have sT : sc N (am_ob N 33 T) := sc_ob (by unfold keep; decide) (by decide)
    have hJT := hJN.sc sT
    have s2 := s1.tr sT
    obtain ⟨c, hc⟩ := hT A hA32 (sub_refl hA32) 5 (by omega)
    have hV := isV_un hA32 (isV_class hL (by omega) hA32 hPA h31 h5 h32 hc)
    have hq := hk _ hJT s2
    refine ⟨fun hneg => ?_, fun hnn => ?_⟩
    · rw [if_neg (by omega)] at hq
      have hLT := (sc_lk (sc1_lk hL s1).1 sT)
      refine ct_weightOf hLT.1 hA32 ⟨_, rfl, by omega, ?_⟩
      rw [hLT.2.1, hLT.2.2.2, (sc1_lk hL s1).2.1, (sc1_lk hL s1).2.2.2, hWA, ob_eq]
      have el : f_6_leastFrom T 5 (A : Int) = T (A * 7 + 5) := lf_in (f := 5) (by omega) hA32
      rw [el, hV.1]
      have hv0 := vV_nn hd hL hok hA32 hPA
      have hsw := sm_w hL hn0
      have ev : vV M (M 57 p) A = (((vV M (M 57 p) A).toNat : Nat) : Int) := by omega
      have es : sm (lkW M) (lkN M) = (((sm (lkW M) (lkN M)).toNat : Nat) : Int) := by omega
      rw [ev, es]
      exact ct_lowest (by omega) (by omega) ⟨_, rfl, hq⟩
    · rw [if_pos (by omega)] at hq
      obtain ⟨j, hj⟩ : ∃ j : Nat, i = j := ⟨i.toNat, by omega⟩
      subst hj
      have hT2 : ∀ t, t < 32 → sub_ t A → tO (am_ob N 33 T) ((am_ob N 33 T) 33) t := by
        intro t ht hsub
        unfold tO
        rw [lgM_ob (by decide), ob_ne (by decide), ob_eq]
        exact hT t ht hsub
      have ecn : (cb (A : Int)).toNat = lkN M := by rw [hA.2.2.1]; rfl
      refine ct_stopAt (i := j) (v := T (A * 7 + 5)) (c := c) hA32 (LB_ob (by decide) (by decide) hLB) hT2 (by rw [lgM_ob (by decide), ob_ne (by decide)]; exact hc) ⟨_, rfl, ?_⟩
      rw [ecn, hV.2]
      exact hq
theorem rd_seek {M : am_M} {p : Nat} {i : Int} (hJ : J M) (hp : p < 5) (hi : -2 ≤ i ∧ i < 5) : aD S12_seekOf [aR 44, aI (p : Int), aI i] M (aL (skA M p i)) := by
  refine aD_of (A := fun M => aL (skA M p i)) (fun N _ s => congrArg aL (skA_co hJ.2.2.2.2.2.1 s p i)) ?_
  clear hJ M
  intro M q hJ hR k
  have hL := hJ.2.2.2.2.2.1
  have hn := lkN_le hL
  have hd := hdx M
  have hA := aP_of hn.1
  have hPA : ∀ d, d < 5 → hasB (al (lkN M)) d → d < lkN M := fun d hd' hh => (al_has hn.1 hd').mp hh
  unfold skA at k
  generalize al (lkN M) = A at *
  have hA32 := hA.1
  refine e12_seekOf (ct_findWays hJ hR hp (fun F w ok hok' hok2 hw => ⟨_, rfl, fun hz => ?_, fun hz => ?_⟩))
  · have := k _ (sp_fw (M := M) (F := F) (w := w))
    unfold skA0 at this
    rw [if_neg (fun hx => by have := hok2.mpr hx; omega)] at this
    exact this
  have hy := hok2.mp (by omega)
  have hok := hy.2
  have hw1 := hw (by omega)
  have hk : ∀ N', sp M N' → q (aL (if 0 ≤ i then an (lkN M) (cV M (M 57 p) A) i.toNat else lt_ (vV M (M 57 p) A).toNat (sm (lkW M) (lkN M)).toNat (i + 2))) N' := by
    intro N' j1
    have := k N' j1
    unfold skA0 at this
    rw [if_pos hy] at this
    exact this
  clear k
  have hcn : (cb (A : Int)).toNat = lkN M := by rw [hA.2.2.1]; rfl
  have hB1 := isV_ways hd hL hok hA32 hPA hw1 (isV_spec M (M 57 p) hA32)
  have hv0 := vV_nn hd hL hok hA32 hPA
  rw [hcn] at hB1
  have s1 : sp M (am_ob (am_ob M 59 F) 65 w) := sp_fw
  have e65 : (am_ob (am_ob M 59 F) 65 w) 65 = w := ob_eq
  obtain ⟨k1, k2, k3, k4⟩ := sp_lk hL s1
  generalize am_ob (am_ob M 59 F) 65 w = R at *
  have hnR := lkN_le k1
  rw [hnR.2.1, k2, ← hA.2.1]
  refine ⟨by omega, by omega, ?_⟩
  refine ct_findBest k1 hA32 hA.2.2.1 (by rw [k2]; exact hPA) (by rw [k2, e65]; exact way_rng hd hok hw1) (v := vV M (M 57 p) A) (c := cV M (M 57 p) A) (by unfold lgW; rw [e65, k2, k4]; exact hB1) (fun r => ?_)
  generalize cV M (M 57 p) A = c at *
  have s2 : sp M (am_ob (am_up R 44 32 (c : Int)) 61 r) := s1.tr sp_fb
  have f32 : (am_ob (am_up R 44 32 (c : Int)) 61 r) 44 32 = (c : Int) := by rw [ob_ne (by decide), up_eq, set_eq]
  obtain ⟨j1, j2, j3, j4⟩ := sp_lk hL s2
  generalize am_ob (am_up R 44 32 (c : Int)) 61 r = N at *
  have hnN := lkN_le j1
  have hq := hk N s2
  refine ⟨_, rfl, fun hi0 x11 hx11 => ?_, fun hi0 => ?_⟩
  · rw [f32] at hx11
    rw [hnN.2.1, j2]
    refine ⟨by omega, fun x12 hx12 => ?_⟩
    rw [if_pos hi0] at hq
    obtain ⟨iN, hiN⟩ : ∃ iN : Nat, i = iN := ⟨i.toNat, by omega⟩
    subst hiN
    have eiN : ((iN : Int)).toNat = iN := rfl
    rw [eiN, an_eq _ _ _ hB1.1] at hq
    have loop : ∀ (b j : Nat), j + b = lkN M - 1 - iN → am_R K12_seekOf q 59 [aR 44, aJ, aI (iN : Int), aJ, aI ((c / 5 ^ j : Nat) : Int), aI ((lkN M : Int) - 1 - (j : Int))] [] N := by
      intro b
      induction b with
      | zero =>
        intro j hj
        refine g12_seekOf_59 ?_
        rw [hnN.2.1, j2]
        refine ⟨fun _ => ⟨fun _ => Int.natCast_nonneg _, fun x3 hx3 => ?_⟩, fun hc => absurd hc (by omega)⟩
        rw [hx3]
        by_cases cc : iN < lkN M
        · rw [if_neg (by omega)]
          rw [if_pos cc, show lkN M - 1 - iN = j by omega] at hq
          exact hq
        · rw [if_pos (by omega)]
          rw [if_neg cc] at hq
          exact hq
      | succ b ih =>
        intro j hj
        refine g12_seekOf_59 ⟨fun hc => absurd hc (by omega), fun _ => ⟨Int.natCast_nonneg _, fun x4 hx4 => ⟨by omega, ?_⟩⟩⟩
        have e4 : x4 = ((c / 5 ^ (j + 1) : Nat) : Int) := by
          rw [hx4, p5_s, ← Nat.div_div_eq_div_mul]; rfl
        rw [e4, show (lkN M : Int) - 1 - (j : Int) + (-1) = (lkN M : Int) - 1 - ((j + 1 : Nat) : Int) by omega]
        exact ih (j + 1) (by omega)
    have := loop (lkN M - 1 - iN) 0 (by omega)
    rw [show ((c / 5 ^ 0 : Nat) : Int) = x11 by rw [hx11, Nat.pow_zero, Nat.div_one], show (lkN M : Int) - 1 - ((0 : Nat) : Int) = x12 by omega] at this
    exact this
  · rw [if_neg hi0] at hq
    refine ct_weights j1 ⟨_, rfl, by omega, ?_⟩
    rw [j2, j4]
    have hsr := sm_w hL hy.1
    have ev : vV M (M 57 p) A = (((vV M (M 57 p) A).toNat : Nat) : Int) := by omega
    have es : sm (lkW M) (lkN M) = (((sm (lkW M) (lkN M)).toNat : Nat) : Int) := by omega
    rw [ev, es]
    exact ct_part (by omega) ⟨_, rfl, hq⟩
/-! near, easiest -/
noncomputable def nrA (M : am_M) (a b : Int) : Int := @ite Int (isP (xD M) a ∧ isP (xD M) b) (Classical.propDecidable _) (nr (xD M) a b) (-2)
theorem nrA_co {M N : am_M} (s : sc1 M N) (a b : Int) : nrA N a b = nrA M a b := by unfold nrA; rw [s.be.D]
theorem cl_near {M : am_M} {v1 v2 : Int} : aC S11_near [aR 0, aI v1, aI v2] M (aI (nrA M v1 v2)) := by
  refine aC_sc (A := fun M => aI (nrA M v1 v2)) (fun N _ s => congrArg aI (nrA_co s v1 v2)) (fun M q hJ k => ?_)
  have hC := hJ.1.1
  have bad : ¬ (isP (xD M) v1 ∧ isP (xD M) v2) → q (aI (-2)) M := by
    intro hb
    have := k M (sc.rf M)
    unfold nrA at this
    rw [if_neg hb] at this
    exact this
  refine e11_near ⟨fun h1 => ⟨fun h2 => ct_measureJ hC (fun g r hg => ?_), fun h2 => bad (fun hx => h2 ((cpl hC).mpr hx.2))⟩, fun h1 => bad (fun hx => h1 ((cpl hC).mpr hx.1))⟩
  have p1 := (cpl hC).mp h1
  have p2 := (cpl hC).mp h2
  have a1 := p2.1
  have a2 := p2.2.1
  rw [ob_ne (by decide), ob_eq, st_in ⟨a1, a2⟩, hg _ (by omega), show ((v2.toNat : Nat) : Int) = v2 by omega]
  have := k _ (sc_md (M := M) (g := g) (r := r))
  unfold nrA at this
  rw [if_pos ⟨p1, p2⟩] at this
  exact this
theorem sp_59 {M : am_M} {F : Nat → Int} : sp M (am_ob M 59 F) := sp_ob (by unfold keep; decide) (by decide)
theorem rm_near {M : am_M} {v1 v2 : Int} : aM S12_near [aR 44, aI v1, aI v2] M (aI (nrA M v1 v2)) := by
  refine aM_sc (A := fun M => aI (nrA M v1 v2)) (fun N _ s => congrArg aI (nrA_co s v1 v2)) (fun M q hJ k => ?_)
  refine e12_near (ct_reads hJ.1 (fun M1 hs hR => ?_))
  have eA := nrA_co (sc1.of hs) v1 v2
  have bad : ¬ (isP (xD M1) v1 ∧ isP (xD M1) v2) → q (aI (-2)) M1 := by
    intro hb
    have := k M1 hs hR
    rw [← eA] at this
    unfold nrA at this
    rw [if_neg hb] at this
    exact this
  refine ⟨fun h1 => ⟨fun h2 => ?_, fun h2 => bad (fun hx => h2 ((rpl hR).mpr hx.2))⟩, fun h1 => bad (fun hx => h1 ((rpl hR).mpr hx.1))⟩
  have p1 := (rpl hR).mp h1
  have p2 := (rpl hR).mp h2
  have a1 := p1.1
  have a2 := p1.2.1
  refine e12_nearOf (ct_findNearR hR p2 (fun F hF => ⟨⟨a1, a2⟩, fun x6 hx6 => ⟨_, rfl, ?_⟩⟩))
  have := k _ (hs.tr sc_59) (hR.sp (sp_59 (F := F)))
  rw [← eA] at this
  unfold nrA at this
  rw [if_pos ⟨p1, p2⟩, nr_sym (hdx _)] at this
  rw [hx6, ob_eq, hF _ (by omega), rF_back (nr_rng (hdx _) _ _), show ((v1.toNat : Nat) : Int) = v1 by omega]
  exact this
noncomputable def eaA (M : am_M) (a b i : Int) : Int := @ite Int (isP (xD M) a ∧ isP (xD M) b) (Classical.propDecidable _) (if fF (xD M) 64 b a = -1 then -1 else if i = -2 then fF (xD M) 64 b a / 64 else if i = -1 then fF (xD M) 64 b a % 64 else lan (xD M) b i 64 0 a) (-2)
theorem eaA_co {M N : am_M} (s : sc1 M N) (a b i : Int) : eaA N a b i = eaA M a b i := by unfold eaA; rw [s.be.D]
theorem cl_easy {M : am_M} {v1 v2 v3 : Int} (h3 : -2 ≤ v3) : aC S11_easiest [aR 0, aI v1, aI v2, aI v3] M (aI (eaA M v1 v2 v3)) := by
  refine aC_sc (A := fun M => aI (eaA M v1 v2 v3)) (fun N _ s => congrArg aI (eaA_co s v1 v2 v3)) (fun M q hJ k => ?_)
  have hC := hJ.1.1
  have hd := hdx M
  have bad : ¬ (isP (xD M) v1 ∧ isP (xD M) v2) → q (aI (-2)) M := by
    intro hb
    have := k M (sc.rf M)
    unfold eaA at this
    rw [if_neg hb] at this
    exact this
  refine e11_easiest ⟨fun h1 => ⟨fun h2 => ⟨fun _ => ?_, fun hc => absurd h3 hc⟩, fun h2 => bad (fun hx => h2 ((cpl hC).mpr hx.2))⟩, fun h1 => bad (fun hx => h1 ((cpl hC).mpr hx.1))⟩
  have p1 := (cpl hC).mp h1
  have p2 := (cpl hC).mp h2
  refine ct_measureTo hC.2.1.2.1 hC.2.1.2.2.2 hd p2 (fun s T hT hT0 => ?_)
  have s1 : sc M (am_ob (am_ob M 13 s) 14 T) := (sc_ob (by unfold keep; decide) (by decide)).tr (sc_ob (by unfold keep; decide) (by decide))
  have v1a := p1.1
  have v1b := p1.2.1
  have k1 := k _ s1
  unfold eaA at k1
  rw [if_pos ⟨p1, p2⟩] at k1
  have ref : ∀ v : Int, v = (if fF (xD M) 64 v2 v1 = -1 then -1 else if v3 = -2 then fF (xD M) 64 v2 v1 / 64 else if v3 = -1 then fF (xD M) 64 v2 v1 % 64 else lan (xD M) v2 v3 64 0 v1) → q (aI v) (am_ob (am_ob M 13 s) 14 T) := by
    intro v hv; rw [hv]; exact k1
  clear k k1
  have e14 : (am_ob (am_ob M 13 s) 14 T) 14 = T := ob_eq
  have hTv := hT v1 p1
  have hup := fF_up hd (K := 64) (q := v2) (by decide) p1
  have hnn := fF_nn hd (K := 64) (q := v2) (p := v1) (by decide)
  rw [e14]
  refine ⟨fun c => ⟨?_, ref _ ?_⟩, fun c => ⟨fun c2 => ⟨?_, ref _ ?_⟩, fun c2 => ?_⟩⟩
  · unfold ob_1_densityFrom
    rw [hTv]
    intro hx
    refine ⟨by omega, ?_⟩
    split <;> omega
  · unfold f_1_densityFrom
    rw [hTv]
    by_cases e : fF (xD M) 64 v2 v1 = -1
    · rw [if_pos e, if_neg (by omega), if_pos e]
    · rw [if_neg e, if_neg e, if_pos (by omega), if_pos c]
  · unfold ob_1_stepsFrom
    rw [hTv]
    intro hx
    refine ⟨by omega, ?_⟩
    split <;> omega
  · unfold f_1_stepsFrom
    rw [hTv]
    by_cases e : fF (xD M) 64 v2 v1 = -1
    · rw [if_pos e, if_neg (by omega), if_pos e]
    · rw [if_neg e, if_neg e, if_pos (by omega), if_neg c, if_pos c2]
  · have m8 : (am_ob (am_ob M 13 s) 14 T) 8 = xD M := by rw [ob_ne (by decide), ob_ne (by decide)]; exact hC.2.1.2.1
    have m9 : (am_ob (am_ob M 13 s) 14 T) 9 = nbT (xD M) := by rw [ob_ne (by decide), ob_ne (by decide)]; exact hC.2.1.2.2.2
    by_cases e : fF (xD M) 64 v2 v1 = -1
    · refine e1_letterAt (g1_letterAt_5 ⟨fun hc => absurd hc (by omega), fun _ => e1_firstLetter ⟨fun hx => ?_, fun _ => ⟨_, rfl, fun _ => ⟨_, rfl, ref _ (by rw [if_pos e])⟩, fun hc => absurd rfl hc⟩⟩⟩)
      exfalso
      have := hx.2
      rw [e14, hTv, if_pos e] at this
      exact this (Int.le_refl _)
    · refine ct_letterAt m8 m9 e14 hd hT p1 e ⟨_, rfl, ref _ ?_⟩
      rw [if_neg e, if_neg c, if_neg c2]
theorem rm_easy {M : am_M} {v1 v2 v3 : Int} (h3 : -2 ≤ v3) : aM S12_easiest [aR 44, aI v1, aI v2, aI v3] M (aI (eaA M v1 v2 v3)) := by
  refine aM_sc (A := fun M => aI (eaA M v1 v2 v3)) (fun N _ s => congrArg aI (eaA_co s v1 v2 v3)) (fun M q hJ k => ?_)
  refine e12_easiest (ct_reads hJ.1 (fun M1 hs hR => ?_))
  have hd := hdx M1
  have eA := eaA_co (sc1.of hs) v1 v2 v3
  have k2 : ∀ N', sp M1 N' → q (aI (eaA M1 v1 v2 v3)) N' := by
    intro N' s'
    have := k N' (hs.tr s'.1) (hR.sp s')
    rw [← eA] at this
    exact this
  clear k
  have bad : ¬ (isP (xD M1) v1 ∧ isP (xD M1) v2) → q (aI (-2)) M1 := by
    intro hb
    have := k2 M1 (sp.rf M1)
    unfold eaA at this
    rw [if_neg hb] at this
    exact this
  refine ⟨fun h1 => ⟨fun h2 => ⟨fun hc => absurd hc (by omega), fun _ => ?_⟩, fun h2 => bad (fun hx => h2 ((rpl hR).mpr hx.2))⟩, fun h1 => bad (fun hx => h1 ((rpl hR).mpr hx.1))⟩
  have p1 := (rpl hR).mp h1
  have p2 := (rpl hR).mp h2
  have v1a := p1.1
  have v1b := p1.2.1
  refine e12_easiestOf (ct_findFar hR.1 hd p2 (Or.inr rfl) (fun F hF hF0 => ?_))
  have hv := k2 _ (sp_59 (F := F))
  unfold eaA at hv
  rw [if_pos ⟨p1, p2⟩] at hv
  rw [ob_eq]
  have hFv := hF v1 p1
  have hup := fF_up hd (K := 1000) (q := v2) (by decide) p1
  have h51 : ∀ p, p < 64 → (am_ob M1 59 F) 51 p = fm (xD M1 p) := by rw [ob_ne (by decide)]; exact hR.1
  rcases fF_two hd (q := v2) p1 with g1 | ⟨C, N, g1, g2, g3, g4, g5, g6, g7⟩
  · rw [if_pos g1.2] at hFv
    rw [if_pos g1.1] at hv
    rw [hFv]
    refine ⟨by omega, fun _ => ⟨fun hc => absurd hc (by omega), fun x8 hx8 => ⟨_, rfl, ?_⟩⟩, fun hc => absurd hc (by omega)⟩
    rw [hx8, if_neg (by omega)]; exact hv
  · rw [if_neg (by omega)] at hFv hv
    rw [hFv]
    refine ⟨by omega, fun hc => absurd hc (by omega), fun _ => ⟨fun h0 => ?_, fun h0 => ⟨fun _ => ⟨fun _ => by omega, fun _ => by omega⟩, fun x12 hx12 => ⟨_, rfl, ?_⟩⟩⟩⟩
    · rw [if_neg (by omega), if_neg (by omega)] at hv
      exact ct_easyWalk (d := xD M1) h0 h51 hd ob_eq hF 63 64 0 v1 (-1) p1 (by omega) (fun _ n _ h63 _ => h63) (by omega) (by omega) (by omega) ⟨_, rfl, hv⟩
    · have e : x12 = (if v3 = -2 then fF (xD M1) 64 v2 v1 / 64 else if v3 = -1 then fF (xD M1) 64 v2 v1 % 64 else lan (xD M1) v2 v3 64 0 v1) := by
        rw [hx12, if_pos (by omega)]
        by_cases c : v3 = -2
        · rw [if_pos c, if_pos c, g5, g6]; omega
        · rw [if_neg c, if_neg c, if_pos (by omega), g5, g6]; omega
      rw [e]; exact hv
/-! best of all five -/
noncomputable def vO5 (M : am_M) : Int := Classical.epsilon (fun v => ∃ c, isB (lgO M) (fun _ => 1) 5 5 31 v c)
noncomputable def cO5 (M : am_M) : Nat := Classical.epsilon (fun c => isB (lgO M) (fun _ => 1) 5 5 31 (vO5 M) c)
theorem isO5 (M : am_M) : isB (lgO M) (fun _ => 1) 5 5 31 (vO5 M) (cO5 M) := by
  have h1 : ∃ v c, isB (lgO M) (fun _ => 1) 5 5 31 v c := isB_ex _ _ 5 31 5 (by omega) (by decide)
  have h2 : ∃ c, isB (lgO M) (fun _ => 1) 5 5 31 (vO5 M) c := Classical.epsilon_spec (p := fun v => ∃ c, isB (lgO M) (fun _ => 1) 5 5 31 v c) h1
  exact Classical.epsilon_spec (p := fun c => isB (lgO M) (fun _ => 1) 5 5 31 (vO5 M) c) h2
noncomputable def beA (M : am_M) (i : Int) : Int := if i = -1 then vO5 M else an 5 (cO5 M) i.toNat
theorem beA_co {M N : am_M} (e : N 55 = M 55) (i : Int) : beA N i = beA M i := by
  have h : lgO N = lgO M := by unfold lgO; rw [e]
  have h1 : vO5 N = vO5 M := by unfold vO5; rw [h]
  have h2 : cO5 N = cO5 M := by unfold cO5; rw [h, h1]
  unfold beA; rw [h1, h2]
theorem cl_best {M : am_M} {i : Int} (hi : -1 ≤ i ∧ i < 5) : aC S11_best [aR 0, aI 31, aI i] M (aI (beA M i)) := by
  refine aC_of (A := fun M => aI (beA M i)) (fun N _ s => congrArg aI (beA_co (s.k (by unfold keep; decide) (by decide)) i)) (fun M q hJ k => ?_)
  have hG := hJ.2.2.1
  have hb5 : f_J_bits 31 = 5 := by decide +kernel
  have hs : (31 : Nat) < 32 := by omega
  have ecb : (cb ((31 : Nat) : Int)).toNat = 5 := by decide
  refine e11_best ⟨fun h => absurd h (by decide), fun h => ⟨fun h2 => absurd h2 (by decide), fun h2 => ⟨fun h3 => absurd h3 (by rw [hb5]; decide), fun h3 => ⟨fun h4 => absurd h4 (by omega), fun h4 => ⟨fun h5 => ?_, fun h5 => absurd hi.2 h5⟩⟩⟩⟩⟩
  refine ct_layOrders hG (fun L hL => ?_)
  have hLr : ∀ j, j < 35 → -1 ≤ L j ∧ L j ≤ 63 := by
    intro j hj
    have h1 := hL (j / 5) (j % 5) (by omega) (by omega)
    have h2 := lgO_rng hG (j / 5) (j % 5) (by omega) (by omega)
    rw [show j / 5 * 5 + j % 5 = j by omega] at h1
    omega
  have hJ0 : J (am_ob M 32 (am_fl (M 32) 32 1)) := hJ.sc (sc_ob (by unfold keep; decide) (by decide))
  have hJ1 := hJ0.leg hLr
  have s1 : sc1 M (am_ob (am_ob M 32 (am_fl (M 32) 32 1)) 31 L) := ((sc1.rf M).step (Or.inl (by unfold keep; decide)) (by decide)).step (Or.inr rfl) (by decide)
  have hLB : LB (am_ob (am_ob M 32 (am_fl (M 32) 32 1)) 31 L) := by
    refine ⟨?_, fun t ht => ?_⟩
    · rw [ob_eq]; exact hLr
    · rw [ob_ne (by decide), ob_eq]; unfold am_fl; rw [if_pos ht]; decide
  have e31 : lgM (am_ob (am_ob M 32 (am_fl (M 32) 32 1)) 31 L) = fun f d => L (f * 5 + d) := by unfold lgM; rw [ob_eq]
  have e32 : ∀ t, t < 32 → (am_ob (am_ob M 32 (am_fl (M 32) 32 1)) 31 L) 32 t = 1 := by intro t ht; rw [ob_ne (by decide), ob_eq]; unfold am_fl; rw [if_pos ht]
  generalize am_ob (am_ob M 32 (am_fl (M 32) 32 1)) 31 L = N at *
  refine ct_solve (all := 31) hs hLB (fun T hT => ?_)
  have hJ2 : J (am_ob N 33 T) := hJ1.sc (sc_ob (by unfold keep; decide) (by decide))
  have s2 : sc1 M (am_ob N 33 T) := s1.tr (sc_ob (by unfold keep; decide) (by decide))
  obtain ⟨c, hc⟩ := hT 31 hs (sub_refl hs) 5 (by omega)
  have hB : isB (lgO M) (fun _ => 1) 5 5 31 (T (31 * 7 + 5)) c := by
    rw [ecb] at hc
    refine isB_congr (P := fun d => d < 5) (f0 := 5) (f1 := 5) (fun g d hg hd _ => ?_) (by omega) e32 hs (fun d hd _ => hd) hc
    have e1 : (if g = 5 then 5 else g) = g := by split <;> omega
    rw [e1, e31]
    exact hL g d (by omega) hd
  obtain ⟨u1, u2⟩ := isB_un hB (isO5 M)
  have hq := k _ hJ2 s2
  unfold beA at hq
  refine ⟨fun e => ?_, fun e => ?_⟩
  · rw [if_pos e] at hq
    rw [ob_eq]
    have el : f_6_leastFrom T 5 ((31 : Nat) : Int) = T (31 * 7 + 5) := lf_in (f := 5) (s := 31) (by omega) (by omega)
    have el' : f_6_leastFrom T 5 31 = T (31 * 7 + 5) := el
    rw [el', u1]; exact hq
  · rw [if_neg e] at hq
    obtain ⟨j, hj⟩ : ∃ j : Nat, i = j := ⟨i.toNat, by omega⟩
    subst hj
    have hT2 : ∀ t, t < 32 → sub_ t 31 → tO (am_ob N 33 T) ((am_ob N 33 T) 33) t := by
      intro t ht hsub
      unfold tO
      rw [lgM_ob (by decide), ob_ne (by decide), ob_eq]
      exact hT t ht hsub
    refine ct_stopAt (all := 31) (i := j) (v := T (31 * 7 + 5)) (c := c) hs (LB_ob (by decide) (by decide) hLB) hT2 (by rw [lgM_ob (by decide), ob_ne (by decide)]; exact hc) ⟨_, rfl, ?_⟩
    rw [ecb, u2]
    exact hq
theorem rd_best {M : am_M} {i : Int} (hi : -1 ≤ i ∧ i < 5) : aD S12_bestOf [aR 44, aI 31, aI i] M (aI (beA M i)) := by
  refine aD_of (A := fun M => aI (beA M i)) (fun N _ s => congrArg aI (beA_co (s.k (by unfold keep; decide) (by decide)) i)) (fun M q hJ hR k => ?_)
  refine ct_bestOf (s := 31) (n := 5) hJ.2.2.1 (by omega) (by decide) (by omega) hi (isO5 M) (fun g r => ?_)
  exact k _ ((sp_ob (by unfold keep; decide) (by decide)).tr (sp_ob (by unfold keep; decide) (by decide)))
