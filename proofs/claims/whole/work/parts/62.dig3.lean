/-! the digest's answers, in pairs: holds, torn, fairs, is, likeliest, meet, counts -/
theorem ho_co {M N : am_M} (s : sc1 M N) (j f : Nat) : ∀ k, hoA N j f k = hoA M j f k := by
  intro k
  induction k with
  | zero => rfl
  | succ k ih =>
    have a : hoA N j f (k + 1) = hoA N j f k * (256 - sd N (f + k) * (16 - jg N j)).toNat := rfl
    have b : hoA M j f (k + 1) = hoA M j f k * (256 - sd M (f + k) * (16 - jg M j)).toNat := rfl
    rw [a, b, ih, sd_co s, jg_co s]
def hoB (M : am_M) : Int := if 2 ≤ xP M ∧ 2 ≤ xN M then lt_ (hoA M 0 0 2) (p8 2) 0 else f_11_refused (-2)
theorem hoB_co {M N : am_M} (s : sc1 M N) : hoB N = hoB M := by unfold hoB; rw [s.be.P, s.be.N, ho_co s]
theorem cl_holds {M : am_M} : aC S11_holds [aR 0, aI 0, aI 0, aI 2, aI 0] M (aL (hoB M)) := by
  refine aC_sc (A := fun M => aL (hoB M)) (fun N _ s => congrArg aL (hoB_co s)) (fun M q hJ k0 => ?_)
  have k := k0 M (sc.rf M)
  unfold hoB at k
  have hC := hJ.1.1
  have hO := hC.2.2.1.2
  have hp := xP_le hC.1
  have hn := xN_le hC.1
  have hG := hJ.2.2.1
  have h20 := hC.2.2.2.2.1
  have bad : ¬ (2 ≤ xP M ∧ 2 ≤ xN M) → q (aL (f_11_refused (-2))) M := by
    intro hb; rw [if_neg hb] at k; exact k
  have hj : f_3_joints (M 15) = ((xP M - 1 : Nat) : Int) := by
    unfold f_3_joints; rw [hO.1]; split <;> omega
  have ho : ob_3_joints (M 15) := by unfold ob_3_joints; rw [hO.1]; omega
  refine e11_holds ⟨fun h1 => absurd h1 (by decide), fun h1 => ⟨ho, fun h2 => bad (by omega), fun h2 => ⟨fun h3 => absurd h3 (by decide), fun h3 => ⟨fun h4 => absurd h4 (by decide), fun h4 => ⟨fun h5 => absurd h5 (by decide), fun h5 => ⟨by omega, fun h6 => bad (by omega), fun h6 => ⟨fun h7 => ?_, fun h7 => absurd (Or.inl rfl) h7⟩⟩⟩⟩⟩⟩⟩
  have hgr := jg_rng hG 0
  rw [if_pos (by omega)] at k
  have eg : f_3_gripOfJoint (M 16) (M 15) (M 19) 0 = jg M 0 := gripJ_11 hJ (i := 0) (by omega)
  rw [eg]
  refine ⟨by unfold ob_3_gripOfJoint; omega, by omega, fun x8 hx8 => ?_⟩
  subst hx8
  have loop : ∀ (a i : Nat), i + a = 2 → am_R K11_holds q 78 [aR 0, aJ, aI ((0 : Nat) : Int), aI ((2 : Nat) : Int), aI 0, aL (hoA M 0 0 i : Nat), aJ, aL (p8 i : Nat), aJ, aI (16 - jg M 0), aI (i : Int)] [] M := by
    intro a
    induction a with
    | zero =>
      intro i hi
      have ei : i = 2 := by omega
      subst ei
      have p := p8r 2 (by omega)
      exact g11_holds_78 ⟨fun _ => ct_lowest (by omega) (by omega) ⟨_, rfl, k⟩, fun hc => absurd hc (by omega)⟩
    | succ a ih =>
      intro i hi
      have nx := ho_next hG (j := 0) (f := 0) (k := i) (by omega) (by omega)
      have fc := ho_fac hG (j := 0) (i := 0 + i) (by omega)
      have ed : f_11_densityOfStep (M 8) (M 20) (M 22) (((0 : Nat) : Int) + (i : Int)) = sd M (0 + i) := dstep hC (i := 0 + i) (by omega)
      refine g11_holds_78 ⟨fun hc => absurd hc (by omega), fun _ => ?_⟩
      rw [ed, nx.1, nx.2.1]
      refine ⟨by omega, by unfold ob_11_densityOfStep; omega, by omega, by omega, by omega, fun x6 hx6 => ⟨by omega, fun x7 hx7 => ⟨by omega, ?_⟩⟩⟩
      rw [hx6, hx7]
      exact ih (i + 1) (by omega)
  exact loop 2 0 (by omega)
theorem rm_holds {M : am_M} : aM S12_holds [aR 44, aI 0, aI 0, aI 2, aI 0] M (aL (hoB M)) := by
  refine aM_sc (A := fun M => aL (hoB M)) (fun N _ s => congrArg aL (hoB_co s)) (fun M q hJ k0 => ?_)
  refine e12_holds (ct_reads hJ.1 (fun M1 hs hR => ?_))
  have k := k0 M1 hs hR
  rw [← hoB_co (sc1.of hs)] at k
  unfold hoB at k
  have hJ1 := hJ.sc hs
  have hC := hJ1.1.1
  have hp := xP_le hC.1
  have hn := xN_le hC.1
  have hG1 := hJ1.2.2.1
  have bad : ¬ (2 ≤ xP M1 ∧ 2 ≤ xN M1) → q (aL (f_12_no (-2))) M1 := by
    intro hb; rw [if_neg hb] at k; exact k
  rw [hR.2.1, hR.2.2.2.2.2.1]
  refine ⟨by omega, fun _ _ _ => by omega, fun x9 _ => ⟨fun h1 => ⟨fun _ => ?_, fun hc => absurd hc (by omega)⟩, fun h1 => bad (by omega)⟩⟩
  rw [if_pos (by omega)] at k
  have gj := gripJ_12 hR (i := 0) (by omega) (by omega)
  have gj0 : f_12_gripAt (M1 55) (M1 52) 0 = jg M1 0 := gj.1
  have gj1 : ob_12_gripAt (M1 55) (M1 52) 0 := gj.2
  have hgr1 := jg_rng hG1 0
  have loop : ∀ (a i : Nat), i + a = 2 → am_R K12_holdsOf (fun r13 M12 => ∃ x14 : Int, r13 = aL x14 ∧ q (aL x14) M12) 9 [aR 44, aI 0, aI ((0 : Nat) : Int), aI ((2 : Nat) : Int), aI 0, aL (hoA M1 0 0 i : Nat), aJ, aL (p8 i : Nat), aJ, aI ((0 + i : Nat) : Int)] [] M1 := by
    intro a
    induction a with
    | zero =>
      intro i hi
      have ei : i = 2 := by omega
      subst ei
      have p := p8r 2 (by omega)
      exact g12_holdsOf_9 ⟨by omega, fun _ => ct_part (by omega) ⟨_, rfl, _, rfl, k⟩, fun hc => absurd hc (by omega)⟩
    | succ a ih =>
      intro i hi
      have nx := ho_next hG1 (j := 0) (f := 0) (k := i) (by omega) (by omega)
      have fc := ho_fac hG1 (j := 0) (i := 0 + i) (by omega)
      have hr := sd_rng (M := M1) (i := 0 + i) (by omega)
      have e1 : (((0 + i : Nat) : Int) + 1).toNat = 0 + i + 1 := rfl
      have e51 : M1 51 (xQ M1 (0 + i + 1)).toNat = sd M1 (0 + i) := by
        rw [hR.1 _ (by omega)]
        have : xD M1 (xQ M1 (0 + i + 1)).toNat = sd M1 (0 + i) := rfl
        unfold fm
        rw [this, if_neg (by omega)]
      refine g12_holdsOf_9 ⟨by omega, fun hc => absurd hc (by omega), fun _ => ?_⟩
      rw [e1, hR.2.2.2.2.2.2 (0 + i + 1) (by omega), e51, gj0, nx.1, nx.2.1]
      refine ⟨by omega, by omega, by omega, gj1, by omega, by omega, by omega, by omega, fun x6 hx6 => ⟨by omega, fun x7 hx7 => ?_⟩⟩
      rw [hx6, hx7]
      exact ih (i + 1) (by omega)
  exact e12_holdsOf (loop 2 0 (by omega))
/-! torn, fairs: what else stood in the cells is of no weight -/
def tE (g g' : Nat → Int) : Prop := ∀ i, i < 5 → g i = g' i
theorem tE_set {g g' : Nat → Int} {j : Nat} {x y : Int} (h : tE g g') (hx : x = y) : tE (am_set g j x) (am_set g' j y) := by
  intro i hi
  unfold am_set
  by_cases e : i = j
  · rw [if_pos e, if_pos e, hx]
  · rw [if_neg e, if_neg e, h i hi]
theorem tE_A {g g' : Nat → Int} (h : tE g g') : tE (tA g) (tA g') := tE_set h (by rw [h 0 (by omega)])
theorem tE_K {g g' : Nat → Int} {k : Int} {j : Nat} (h : tE g g') : tE (tK k j g) (tK k j g') := by
  unfold tK
  rw [h 2 (by omega), h 1 (by omega), h 4 (by omega)]
  by_cases e : g' 2 = -1
  · rw [if_pos e, if_pos e]; exact tE_set (tE_set (tE_set (tE_set h rfl) rfl) rfl) rfl
  · rw [if_neg e, if_neg e]; exact tE_set (tE_set h rfl) rfl
theorem tE_J {g g' : Nat → Int} {d gr k : Int} {j : Nat} (h : tE g g') : tE (tJ d gr k j g) (tJ d gr k j g') := by
  unfold tJ
  rw [h 1 (by omega), h 0 (by omega)]
  by_cases e : am_and (am_shr (g' 1) (j : Int)) 1 = 0
  · rw [if_pos e, if_pos e]
    by_cases e2 : d ≤ ltv (lt1 (g' 0))
    · rw [if_pos e2, if_pos e2]; exact tE_A h
    · rw [if_neg e2, if_neg e2]
      by_cases e3 : ltv (lt1 (lt1 (g' 0))) < gr
      · rw [if_pos e3, if_pos e3]; exact tE_A (tE_A h)
      · rw [if_neg e3, if_neg e3]; exact tE_K (tE_A (tE_A h))
  · rw [if_neg e, if_neg e]; exact h
theorem tE_Js {D G g g' : Nat → Int} {k : Nat} (h : tE g g') : ∀ j, tE (tJs D G k j g) (tJs D G k j g') := by
  intro j
  induction j with
  | zero => exact h
  | succ j ih => exact tE_J ih
theorem tE_St {D G g g' : Nat → Int} {p : Nat} (h : tE g g') : ∀ k, tE (tSt D G p k g) (tSt D G p k g') := by
  intro k
  induction k with
  | zero => exact h
  | succ k ih => exact tE_Js ih p
theorem tE_Fa {D G g g' : Nat → Int} {p n : Nat} (h : g 0 = g' 0) : tE (tFa D G p n g) (tFa D G p n g') := by
  refine tE_St ?_ n
  intro i hi
  unfold t0 am_set
  by_cases e4 : i = 4
  · rw [if_pos e4, if_pos e4]
  by_cases e3 : i = 3
  · rw [if_neg e4, if_neg e4, if_pos e3, if_pos e3]
  by_cases e2 : i = 2
  · rw [if_neg e4, if_neg e4, if_neg e3, if_neg e3, if_pos e2, if_pos e2]
  by_cases e1 : i = 1
  · rw [if_neg e4, if_neg e4, if_neg e3, if_neg e3, if_neg e2, if_neg e2, if_pos e1, if_pos e1]
  · rw [if_neg e4, if_neg e4, if_neg e3, if_neg e3, if_neg e2, if_neg e2, if_neg e1, if_neg e1]
    have e0 : i = 0 := by omega
    rw [e0]; exact h
theorem tE_ans {O G G' : Nat → Int} {P : Nat} {w : Int} (h : tE G G') : tAns O P G w = tAns O P G' w := by
  unfold tAns
  rw [h 2 (by omega), h 3 (by omega), h 4 (by omega)]
theorem tE_G {D G g g' : Nat → Int} {p n : Nat} (h : g 0 = g' 0) : ∀ k, 0 < k → tE (fG D G p n k g) (fG D G p n k g') := by
  intro k
  induction k with
  | zero => intro h; omega
  | succ k ih =>
    intro _
    cases k with
    | zero => exact tE_Fa h
    | succ k => exact tE_Fa (ih (by omega) 0 (by omega))
theorem tE_S {D G g g' : Nat → Int} {p n : Nat} (h : g 0 = g' 0) : ∀ k, fS D G p n g k = fS D G p n g' k := by
  intro k
  induction k with
  | zero => rfl
  | succ k ih =>
    have a : fS D G p n g (k + 1) = fS D G p n g k + fG D G p n (k + 1) g 4 := rfl
    have b : fS D G p n g' (k + 1) = fS D G p n g' k + fG D G p n (k + 1) g' 4 := rfl
    rw [a, b, ih, tE_G h (k + 1) (by omega) 4 (by omega)]
def toA (M : am_M) (sd0 w : Int) : Int := tAns (xO M) (xP M) (tFa (sd M) (jg M) (xP M - 1) (xN M) (fun _ => sd0)) w
theorem toA_co {M N : am_M} (s : sc1 M N) (a w : Int) : toA N a w = toA M a w := by unfold toA; rw [s.be.O, s.be.P, s.be.N, sd_co s, jg_co s]
theorem cl_torn {M : am_M} {a w : Int} (hw : 0 ≤ w ∧ w ≤ 3) : aC S11_torn [aR 0, aI a, aI w] M (aI (toA M a w)) := by
  refine aC_sc (A := fun M => aI (toA M a w)) (fun N _ s => congrArg aI (toA_co s a w)) (fun M q hJ k => ?_)
  refine e11_torn ⟨fun h => absurd h (by omega), fun h => ⟨fun h3 => ?_, fun h3 => absurd hw.2 h3⟩⟩
  rw [up_as]
  refine ct_goFair hJ ?_
  have hp := xP_le hJ.1.1.1
  have hi : tI (tFa (sd M) (jg M) (xP M - 1) (xN M) (am_set (M 23) 0 a)) := tI_St (by omega) (tI_0 _) _
  have hE : tE (tFa (sd M) (jg M) (xP M - 1) (xN M) (am_set (M 23) 0 a)) (tFa (sd M) (jg M) (xP M - 1) (xN M) (fun _ => a)) := tE_Fa set_eq
  have s1 : sc M (am_ob M 23 (tFa (sd M) (jg M) (xP M - 1) (xN M) (am_set (M 23) 0 a))) := sc_ob (by unfold keep; decide) (by decide)
  have k1 := k _ s1
  unfold toA at k1
  rw [← tE_ans hE] at k1
  have eO := s1.be.O
  have eP := s1.be.P
  have hJ1 := hJ.sc s1
  rw [ob_eq]
  generalize tFa (sd M) (jg M) (xP M - 1) (xN M) (am_set (M 23) 0 a) = G at *
  unfold tAns at k1
  refine ⟨fun e => ?_, fun e => ⟨fun e1 => ?_, fun e1 => ⟨fun e2 => ?_, fun e2 => ct_behind hJ1 hi.2.2 ⟨_, rfl, ?_⟩⟩⟩⟩
  · rw [if_pos e] at k1; exact k1
  · rw [if_neg e, if_pos e1] at k1; exact k1
  · rw [if_neg e, if_neg e1, if_pos e2] at k1; exact k1
  · rw [if_neg e, if_neg e1, if_neg e2] at k1
    rw [eO, eP]; exact k1
theorem tW_sp {M : am_M} {g f : Nat → Int} (h : tW M g f) : sp M (am_ob M 44 f) := sp_44 (fun i hi => h.2 i (by omega) (by omega) (by omega) (by omega))
theorem rd_torn {M : am_M} {a w : Int} : aD S12_tornOf [aR 44, aI a, aI w] M (aI (toA M a w)) := by
  refine aD_of (A := fun M => aI (toA M a w)) (fun N _ s => congrArg aI (toA_co s a w)) (fun M q hJ hR k => ?_)
  exact ct_tornOf (g := fun _ => a) hJ hR rfl (fun f hf => k _ (tW_sp hf))
def faA (M : am_M) (a : Int) (n : Nat) : Int := fS (sd M) (jg M) (xP M - 1) (xN M) (fun _ => a) n
theorem faA_co {M N : am_M} (s : sc1 M N) (a : Int) (n : Nat) : faA N a n = faA M a n := by unfold faA; rw [s.be.P, s.be.N, sd_co s, jg_co s]
theorem cl_fairs {M : am_M} {a : Int} {n : Nat} (hn : 1 ≤ n ∧ n ≤ 60) : aC S11_fairs [aR 0, aI a, aI (n : Int)] M (aI (faA M a n)) := by
  refine aC_sc (A := fun M => aI (faA M a n)) (fun N _ s => congrArg aI (faA_co s a n)) (fun M q hJ k => ?_)
  refine e11_fairs ⟨fun h => absurd h (by omega), fun h => ⟨fun h3 => ?_, fun h3 => absurd h3 (by omega)⟩⟩
  have hp := xP_le hJ.1.1.1
  have loop : ∀ (c i : Nat), i + c = n → am_R K11_fairs q 27 [aR 0, aJ, aI (n : Int), aI (fS (sd M) (jg M) (xP M - 1) (xN M) (am_set (M 23) 0 a) i), aI (i : Int)] [] (am_ob M 23 (fG (sd M) (jg M) (xP M - 1) (xN M) i (am_set (M 23) 0 a))) := by
    intro c
    induction c with
    | zero =>
      intro i hi
      have e : i = n := by omega
      rw [e]
      refine g11_fairs_27 ⟨fun _ => ?_, fun hc => absurd hc (by omega)⟩
      rw [tE_S (g' := fun _ => a) set_eq]
      exact k _ (sc_ob (by unfold keep; decide) (by decide))
    | succ c ih =>
      intro i hi
      refine g11_fairs_27 ⟨fun hc => absurd hc (by omega), fun _ => ct_goFair hJ ?_⟩
      have r2 := fS_rng (D := sd M) (G := jg M) (p := xP M - 1) (n := xN M) (g := am_set (M 23) 0 a) (by omega) (i + 1)
      have e : fS (sd M) (jg M) (xP M - 1) (xN M) (am_set (M 23) 0 a) (i + 1) = fS (sd M) (jg M) (xP M - 1) (xN M) (am_set (M 23) 0 a) i + tFa (sd M) (jg M) (xP M - 1) (xN M) (fG (sd M) (jg M) (xP M - 1) (xN M) i (am_set (M 23) 0 a)) 4 := rfl
      rw [ob_eq, ← e]
      refine ⟨by omega, fun x6 hx6 => ⟨by omega, ?_⟩⟩
      rw [hx6]
      exact ih (i + 1) (by omega)
  rw [up_as]
  exact loop n 0 (by omega)
theorem rd_fairs {M : am_M} {a : Int} {n : Nat} (hn : n ≤ 60) : aD S12_fairsOf [aR 44, aI a, aI (n : Int)] M (aI (faA M a n)) := by
  refine aD_of (A := fun M => aI (faA M a n)) (fun N _ s => congrArg aI (faA_co s a n)) (fun M q hJ hR k => ?_)
  exact ct_fairsOf (g := fun _ => a) hJ hR rfl hn (fun f hf => k _ (tW_sp hf))
/-! is, likeliest -/
noncomputable def chA (M : am_M) (fr : Int) (n : Nat) : Nat → Int := fun j => if M 54 2 = 1 then rI (xD M) 1 (M 54 1) (ind fr) n j else ind (psn (xD M) (M 54 2) (M 54 1) fr n) j
def chB (M : am_M) (n : Nat) : Int := if M 54 2 = 1 then ((p60 n : Nat) : Int) else 1
theorem ch_co {M N : am_M} (s : sc1 M N) (fr : Int) (n : Nat) : chA N fr n = chA M fr n ∧ chB N n = chB M n := by
  have e54 := s.k (o := 54) (by unfold keep; decide) (by decide)
  unfold chA chB
  rw [s.be.D, e54]
  exact ⟨rfl, rfl⟩
noncomputable def isA (M : am_M) (fr : Int) (n : Nat) (pl w : Int) : Int := @ite Int (isP (xD M) fr ∧ isP (xD M) pl) (Classical.propDecidable _) (lt_ (chA M fr n pl.toNat).toNat (chB M n).toNat w) (f_11_refused (-2))
theorem isA_co {M N : am_M} (s : sc1 M N) (fr : Int) (n : Nat) (pl w : Int) : isA N fr n pl w = isA M fr n pl w := by unfold isA; rw [s.be.D, (ch_co s fr n).1, (ch_co s fr n).2]
theorem ch_rng {M : am_M} {fr : Int} {n : Nat} (hp : isP (xD M) fr) (hn : n ≤ 5) : (∀ j, j < 64 → 0 ≤ chA M fr n j) ∧ 1 ≤ chB M n ∧ chB M n ≤ 777600000 := by
  have pr := p60r n hn
  refine ⟨fun j hj => ?_, ?_⟩
  · unfold chA
    split
    · exact (cO_rI (ru := 1) (ck := M 54 1) (cO_ind hp) n).1 j hj
    · unfold ind; split <;> omega
  · unfold chB; split <;> omega
theorem cl_is {M : am_M} {fr pl w : Int} {n : Nat} (hn : n ≤ 5) (hw : w = 0 ∨ w = 1) : aC S11_is [aR 0, aI fr, aI (n : Int), aI pl, aI w] M (aL (isA M fr n pl w)) := by
  refine aC_sc (A := fun M => aL (isA M fr n pl w)) (fun N _ s => congrArg aL (isA_co s fr n pl w)) (fun M q hJ k => ?_)
  have hC := hJ.1.1
  have bad : ¬ (isP (xD M) fr ∧ isP (xD M) pl) → q (aL (f_11_refused (-2))) M := by
    intro hb
    have := k M (sc.rf M)
    unfold isA at this
    rw [if_neg hb] at this
    exact this
  refine e11_is ⟨fun h1 => ⟨fun h2 => ⟨fun h3 => ⟨fun h4 => ?_, fun h4 => absurd hw h4⟩, fun h3 => bad (fun hx => h3 ((cpl hC).mpr hx.2))⟩, fun h2 => absurd h2 (by omega)⟩, fun h1 => bad (fun hx => h1 ((cpl hC).mpr hx.1))⟩
  have p1 := (cpl hC).mp h1
  have p3 := (cpl hC).mp h3
  have a1 := p3.1
  have a2 := p3.2.1
  have r := ch_rng p1 hn
  refine ct_lose hJ p1 hn (fun M1 s1 h25 h24 => ?_)
  have k1 := k M1 s1
  unfold isA at k1
  rw [if_pos ⟨p1, p3⟩] at k1
  have eA : f_5_chanceOf (M1 25) pl = chA M fr n pl.toNat := by
    unfold f_5_chanceOf; rw [if_pos (by omega)]; exact h25 _ (by omega)
  have eB : M1 24 4 = chB M n := h24
  have r1 := r.1 pl.toNat (by omega)
  rw [eA, eB, show chA M fr n pl.toNat = (((chA M fr n pl.toNat).toNat : Nat) : Int) by omega, show chB M n = (((chB M n).toNat : Nat) : Int) by omega]
  exact ct_lowest (by omega) (by omega) ⟨_, rfl, k1⟩
theorem sp_ch {M : am_M} {F c t : Nat → Int} : sp M (am_ob (am_ob (am_ob M 59 F) 62 c) 63 t) := ((sp_ob (by unfold keep; decide) (by decide)).tr (sp_ob (by unfold keep; decide) (by decide))).tr (sp_ob (by unfold keep; decide) (by decide))
theorem rm_is {M : am_M} {fr pl w : Int} {n : Nat} (hn : n ≤ 5) (hw : w = 0 ∨ w = 1) : aM S12_is [aR 44, aI fr, aI (n : Int), aI pl, aI w] M (aL (isA M fr n pl w)) := by
  refine aM_sc (A := fun M => aL (isA M fr n pl w)) (fun N _ s => congrArg aL (isA_co s fr n pl w)) (fun M q hJ k => ?_)
  refine e12_is (ct_reads hJ.1 (fun M1 hs hR => ?_))
  have eA := isA_co (sc1.of hs) fr n pl w
  have k2 : ∀ N', sp M1 N' → q (aL (isA M1 fr n pl w)) N' := by
    intro N' s'
    have := k N' (hs.tr s'.1) (hR.sp s')
    rw [← eA] at this
    exact this
  clear k
  have bad : ¬ (isP (xD M1) fr ∧ isP (xD M1) pl) → q (aL (f_12_no (-2))) M1 := by
    intro hb
    have := k2 M1 (sp.rf M1)
    unfold isA at this
    rw [if_neg hb] at this
    exact this
  refine ⟨fun h1 => ⟨fun h2 => ⟨fun h3 => ⟨fun h4 => ?_, fun h4 => absurd h4 (by omega)⟩, fun h3 => bad (fun hx => h3 ((rpl hR).mpr hx.2))⟩, fun h2 => absurd h2 (by omega)⟩, fun h1 => bad (fun hx => h1 ((rpl hR).mpr hx.1))⟩
  have p1 := (rpl hR).mp h1
  have p3 := (rpl hR).mp h3
  have a1 := p3.1
  have a2 := p3.2.1
  have r := ch_rng p1 hn
  obtain ⟨K, hK1, hK2, hK3⟩ := ch_rel (ru := M1 54 2) (ck := M1 54 1) p1 n
  refine e12_isOf (ct_findChances (hJ.sc hs) hR p1 hn (fun F c t hc => ⟨_, rfl, by omega, ?_⟩))
  have k1 := k2 _ (sp_ch (F := F) (c := c) (t := t))
  unfold isA at k1
  rw [if_pos ⟨p1, p3⟩] at k1
  have r1 := r.1 pl.toNat (by omega)
  have hKA : rI (xD M1) (M1 54 2) (M1 54 1) (ind fr) n pl.toNat = (K : Int) * chA M1 fr n pl.toNat := hK2 _ (by omega)
  have hKB : ((p60 n : Nat) : Int) = (K : Int) * chB M1 n := hK3
  obtain ⟨A, eA2⟩ : ∃ A : Nat, chA M1 fr n pl.toNat = A := ⟨(chA M1 fr n pl.toNat).toNat, by omega⟩
  obtain ⟨B, eB2⟩ : ∃ B : Nat, chB M1 n = B := ⟨(chB M1 n).toNat, by omega⟩
  have ec : c pl.toNat = ((K * A : Nat) : Int) := by rw [hc _ (by omega), hKA, eA2, Int.natCast_mul]
  have eb : ((p60 n : Nat) : Int) = ((K * B : Nat) : Int) := by rw [hKB, eB2, Int.natCast_mul]
  rw [eA2, eB2] at k1
  rw [ob_ne (by decide), ob_eq, ec, eb]
  refine ct_part (Nat.mul_pos (by omega) (by omega)) ⟨_, rfl, _, rfl, ?_⟩
  rw [lt_scale (by omega)]
  exact k1
noncomputable def liA (M : am_M) (fr : Int) (n : Nat) : Int := @ite Int (isP (xD M) fr) (Classical.propDecidable _) (lk (chA M fr n) 63) (-2)
theorem liA_co {M N : am_M} (s : sc1 M N) (fr : Int) (n : Nat) : liA N fr n = liA M fr n := by unfold liA; rw [s.be.D, (ch_co s fr n).1]
theorem cl_li {M : am_M} {fr : Int} {n : Nat} (hn : n ≤ 5) : aC S11_likeliest [aR 0, aI fr, aI (n : Int)] M (aI (liA M fr n)) := by
  refine aC_sc (A := fun M => aI (liA M fr n)) (fun N _ s => congrArg aI (liA_co s fr n)) (fun M q hJ k => ?_)
  have hC := hJ.1.1
  have bad : ¬ isP (xD M) fr → q (aI (-2)) M := by
    intro hb
    have := k M (sc.rf M)
    unfold liA at this
    rw [if_neg hb] at this
    exact this
  refine e11_likeliest ⟨fun h1 => ⟨fun h2 => ?_, fun h2 => absurd h2 (by omega)⟩, fun h1 => bad (fun hx => h1 ((cpl hC).mpr hx))⟩
  have p1 := (cpl hC).mp h1
  refine ct_lose hJ p1 hn (fun M1 s1 h25 h24 => ct_likeliest5 ⟨_, rfl, ?_⟩)
  have k1 := k M1 s1
  unfold liA at k1
  rw [if_pos p1] at k1
  rw [lk_scale (f := M1 25) (g := chA M fr n) (K := 1) (by omega) (fun j hj => by rw [Int.one_mul]; exact h25 j hj) 63 (by omega)]
  exact k1
theorem rm_li {M : am_M} {fr : Int} {n : Nat} (hn : n ≤ 5) : aM S12_likeliest [aR 44, aI fr, aI (n : Int)] M (aI (liA M fr n)) := by
  refine aM_sc (A := fun M => aI (liA M fr n)) (fun N _ s => congrArg aI (liA_co s fr n)) (fun M q hJ k => ?_)
  refine e12_likeliest (ct_reads hJ.1 (fun M1 hs hR => ?_))
  have eA := liA_co (sc1.of hs) fr n
  have k2 : ∀ N', sp M1 N' → q (aI (liA M1 fr n)) N' := by
    intro N' s'
    have := k N' (hs.tr s'.1) (hR.sp s')
    rw [← eA] at this
    exact this
  clear k
  have bad : ¬ isP (xD M1) fr → q (aI (-2)) M1 := by
    intro hb
    have := k2 M1 (sp.rf M1)
    unfold liA at this
    rw [if_neg hb] at this
    exact this
  refine ⟨fun h1 => ⟨fun h2 => ?_, fun h2 => absurd h2 (by omega)⟩, fun h1 => bad (fun hx => h1 ((rpl hR).mpr hx))⟩
  have p1 := (rpl hR).mp h1
  obtain ⟨K, hK1, hK2, hK3⟩ := ch_rel (ru := M1 54 2) (ck := M1 54 1) p1 n
  refine e12_likeliestOf (ct_findChances (hJ.sc hs) hR p1 hn (fun F c t hc => ⟨_, rfl, ?_⟩))
  have k1 := k2 _ (sp_ch (F := F) (c := c) (t := t))
  unfold liA at k1
  rw [if_pos p1, ← lk_scale (f := c) (g := chA M1 fr n) (K := K) (by omega) (fun j hj => by rw [hc j hj]; exact hK2 j hj) 63 (by omega)] at k1
  have e62 : (am_ob (am_ob (am_ob M1 59 F) 62 c) 63 t) 62 = c := by rw [ob_ne (by decide), ob_eq]
  generalize am_ob (am_ob (am_ob M1 59 F) 62 c) 63 t = N at *
  have loop : ∀ (a i : Nat), i + a = 63 → am_R K12_likeliestOf (fun r8 M7 => ∃ x9 : Int, r8 = aI x9 ∧ q (aI x9) M7) 12 [aR 44, aJ, aJ, aI (lk c i), aI ((i + 1 : Nat) : Int)] [] N := by
    intro a
    induction a with
    | zero =>
      intro i hi
      have e : i = 63 := by omega
      subst e
      exact g12_likeliestOf_12 ⟨fun _ => ⟨_, rfl, k1⟩, fun hc => absurd hc (by omega)⟩
    | succ a ih =>
      intro i hi
      have r := lk_rng c i
      refine g12_likeliestOf_12 ?_
      rw [e62]
      refine ⟨fun hc => absurd hc (by omega), fun _ => ⟨by omega, by omega, fun x3 hx3 => ⟨by omega, ?_⟩⟩⟩
      have ex : x3 = lk c (i + 1) := hx3
      rw [ex]
      exact ih (i + 1) (by omega)
  exact loop 63 0 (by omega)
/-! meet -/
noncomputable def meA (M : am_M) (b w : Int) : Int := if w = 0 then lf (mF (xD M) (M 57) b 5) 64 else if lf (mF (xD M) (M 57) b 5) 64 = -1 then -1 else mF (xD M) (M 57) b 5 (lf (mF (xD M) (M 57) b 5) 64).toNat
theorem meA_co {M N : am_M} (s : sc1 M N) (b w : Int) : meA N b w = meA M b w := by unfold meA; rw [s.be.D, s.k (o := 57) (by unfold keep; decide) (by decide)]
theorem cl_meet {M : am_M} {v1 w : Int} (h1 : 1 ≤ v1 ∧ v1 ≤ 31) (hw : w = 0 ∨ w = 1) : aC S11_meet [aR 0, aI v1, aI w] M (aI (meA M v1 w)) := by
  refine aC_sc (A := fun M => aI (meA M v1 w)) (fun N _ s => congrArg aI (meA_co s v1 w)) (fun M q hJ k => ?_)
  refine e11_meet ⟨fun h => absurd h (by omega), fun h => ⟨fun h2 => absurd h2 (by omega), fun h2 => ⟨fun h3 => ct_fillI (N := 64) rfl (by decide) ?_, fun h3 => absurd hw h3⟩⟩⟩
  have hP := hJ.2.2.2.2.1
  have hd := hdx M
  have loop : ∀ (a c : Nat) (g r f : Nat → Int), c + a = 5 → (∀ p, p < 64 → f p = mF (xD M) (M 57) v1 c p) → am_R K11_meet q 31 [aR 0, aI v1, aI w, aI (c : Int)] [] (am_ob (am_ob (am_ob M 11 g) 12 r) 43 f) := by
    intro a
    induction a with
    | zero =>
      intro c g r f hk hf
      have e : c = 5 := by omega
      subst e
      refine g11_meet_31 ⟨fun _ => ct_leastFar ?_, fun hc => absurd hc (by omega)⟩
      rw [ob_eq]
      have r5 := lf_rng f 64
      have el : lf f 64 = lf (mF (xD M) (M 57) v1 5) 64 := lf_congr 64 hf
      refine ⟨_, rfl, fun _ _ => by omega, fun x8 hx8 => ?_⟩
      have e8 : x8 = meA M v1 w := by
        rw [hx8]
        unfold meA
        rw [← el]
        by_cases e1 : w = 0
        · rw [if_pos e1, if_pos e1]
        · rw [if_neg e1, if_neg e1]
          by_cases e2 : lf f 64 = -1
          · rw [if_pos e2, if_neg (by omega), e2]
          · rw [if_neg e2, if_pos (by omega), hf _ (by omega)]
      rw [e8]
      exact k _ ((sc_md).tr (sc_ob (by unfold keep; decide) (by decide)))
    | succ a ih =>
      intro c g r f hk hf
      have s1 : sc M (am_ob (am_ob (am_ob M 11 g) 12 r) 43 f) := (sc_md).tr (sc_ob (by unfold keep; decide) (by decide))
      have hst := hP c (by omega)
      have est : f_3_standOf ((am_ob (am_ob (am_ob M 11 g) 12 r) 43 f) 18) (c : Int) = M 57 c := by
        unfold f_3_standOf
        rw [if_pos (by omega), s1.1 18 (by unfold keep; decide)]
        exact hst.1
      refine g11_meet_31 ⟨fun hc => absurd hc (by omega), fun _ => ⟨by omega, fun hb => ⟨by omega, ih (c + 1) g r f (by omega) (fun p hp => ?_)⟩, fun hb => ?_⟩⟩
      · rw [hf p hp]
        rw [mF_s, if_pos hb]
      · rw [est]
        refine ct_comeFrom (hJ.sc s1).1.1 (fun g2 r2 f2 hf2 => ⟨by omega, ?_⟩)
        have em : am_ob (am_ob (am_ob (am_ob (am_ob (am_ob M 11 g) 12 r) 43 f) 11 g2) 12 r2) 43 f2 = am_ob (am_ob (am_ob M 11 g2) 12 r2) 43 f2 := by
          funext o
          unfold am_ob
          by_cases e1 : o = 43 <;> by_cases e2 : o = 12 <;> by_cases e3 : o = 11 <;> simp [e1, e2, e3]
        rw [em]
        refine ih (c + 1) g2 r2 f2 (by omega) (fun p hp => ?_)
        rw [hf2 p hp, s1.be.D, ob_eq, hf p hp]
        rw [mF_s, if_neg hb]
  have e0 : am_ob M 43 (am_fl (M 43) 64 0) = am_ob (am_ob (am_ob M 11 (M 11)) 12 (M 12)) 43 (am_fl (M 43) 64 0) := by
    rw [ob_id, ob_id]
  rw [e0]
  refine loop 5 0 _ _ _ (by omega) (fun p hp => ?_)
  unfold am_fl mF
  rw [if_pos hp]
theorem rd_meet {M : am_M} {v1 w : Int} (h1 : 1 ≤ v1 ∧ v1 ≤ 31) : aD S12_meetOf [aR 44, aI v1, aI w] M (aI (meA M v1 w)) := by
  refine aD_of (A := fun M => aI (meA M v1 w)) (fun N _ s => congrArg aI (meA_co s v1 w)) (fun M q hJ hR k => ?_)
  exact ct_meetOf (f := mF (xD M) (M 57) v1 5) h1 hJ hR (fun p hp => rfl) (fun F => k _ (sp_59 (F := F)))
/-! counts -/
theorem pr_counts : ∃ v : Int, (∀ (M : am_M) (q : am_Q), q (aI v) M → S11_counts [aR 0, aI 60, aI 3, aI 2] M q) ∧ (∀ (M : am_M) (q : am_Q), q (aI v) M → S12_countsOf [aI 60, aI 3, aI 2] M q) := by
  have cost : ∀ n : Int, 1 ≤ n → n ≤ 60 → (0 ≤ (60 : Int) + n - 1 ∧ (0 ≤ 3 * ((60 + n - 1) / n) ∧ 3 * ((60 + n - 1) / n) ≤ 99 * 158) ∧ (0 ≤ 2 * (n - 1) ∧ 2 * (n - 1) ≤ 99 * 59)) := by
    intro n a b
    have d0 : 0 ≤ (60 + n - 1) / n := Int.ediv_nonneg (by omega) (by omega)
    have d1 : (60 + n - 1) / n ≤ 60 + n - 1 := Int.ediv_le_self _ (by omega)
    omega
  have both : ∀ (k : Nat) (i b c : Int), 2 ≤ i → i + k = 61 → b < i → ∃ v : Int, (∀ (M : am_M) (q : am_Q), q (aI v) M → am_R K11_counts q 45 [aJ, aI 60, aI 3, aI 2, aI b, aI c, aI i, aJ] [] M) ∧ (∀ (M : am_M) (q : am_Q), q (aI v) M → am_R K12_countsOf q 8 [aI 60, aI 3, aI 2, aI b, aI c, aI i, aJ] [] M) := by
    intro k
    induction k with
    | zero =>
      intro i b c h2 hi hbi
      refine ⟨b, fun M q hq => g11_counts_45 ⟨fun _ => hq, fun hc => absurd hc (by omega)⟩, fun M q hq => g12_countsOf_8 ⟨fun _ => hq, fun hc => absurd hc (by omega)⟩⟩
    | succ k ih =>
      intro i b c h2 hi hbi
      have hc := cost i (by omega) (by omega)
      generalize hx : 3 * (((60 : Int) + i - 1) / i) + 2 * (i - 1) = x
      obtain ⟨v, ha, hb⟩ := ih (i + 1) (if c ≤ x then b else i) (if c ≤ x then c else x) (by omega) (by omega) (by split <;> omega)
      refine ⟨v, fun M q hq => g11_counts_45 ⟨fun hc => absurd hc (by omega), fun _ => ⟨by omega, by omega, by omega, by omega, by omega, by omega, by omega, fun x2 hx2 x4 hx4 x5 hx5 => ⟨by omega, ?_⟩⟩⟩, fun M q hq => g12_countsOf_8 ⟨fun hc => absurd hc (by omega), fun _ => ⟨by omega, by omega, by omega, by omega, by omega, by omega, by omega, fun x2 hx2 x5 hx5 x7 hx7 => ⟨by omega, ?_⟩⟩⟩⟩
      · rw [hx] at hx2
        rw [hx4, hx5, hx2]
        exact ha M q hq
      · rw [hx] at hx2
        rw [if_neg (by omega), hx2] at hx5
        have e7 : x7 = if c ≤ x then c else x := by
          rw [hx7, hx5, hx2]
          by_cases e : c ≤ x
          · rw [if_pos e, if_pos e, if_neg (by omega)]
          · rw [if_neg e, if_neg e, if_pos rfl]
        rw [hx5, e7]
        exact hb M q hq
  obtain ⟨v, ha, hb⟩ := both 59 2 1 180 (by omega) (by omega) (by omega)
  refine ⟨v, fun M q hq => ?_, fun M q hq => ?_⟩
  · refine e11_counts ⟨fun h1 => absurd h1 (by decide), fun h1 => ⟨fun h2 => absurd h2 (by decide), fun h2 => ⟨fun h3 => absurd h3 (by decide), fun h3 => ⟨fun h4 => absurd h4 (by decide), fun h4 => ⟨fun h5 => absurd h5 (by decide), fun h5 => ⟨fun h6 => ⟨by decide, fun x7 hx7 => ?_⟩, fun h6 => absurd (by decide) h6⟩⟩⟩⟩⟩⟩
    rw [show x7 = 180 by rw [hx7]; rfl]
    exact ha M q hq
  · refine e12_countsOf (g12_countsOf_8 ⟨fun hc => absurd hc (by omega), fun _ => ⟨by decide, by decide, by decide, by decide, by decide, by decide, by decide, fun x2 hx2 x5 hx5 x8 hx8 => ⟨by omega, ?_⟩⟩⟩)
    rw [if_pos rfl] at hx5
    rw [hx5, if_pos rfl] at hx8
    rw [hx5, hx8, show x2 = 180 by rw [hx2]; decide]
    exact hb M q hq
