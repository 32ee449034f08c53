/-! the digest's answers, in pairs: counts, faults, steps, grips -/
/-- like aC_of, for what leaves only working cells changed -/
theorem aC_sc {S : am_E} {as : List am_V} {M : am_M} {A : am_M → am_V} (hA : ∀ N, J N → sc1 M N → A N = A M) (h : ∀ (N : am_M) (q : am_Q), J N → (∀ N', sc N N' → q (A N) N') → S as N q) : aC S as M (A M) :=
  fun N q hN s k => h N q hN (fun N' s' => by rw [hA N hN s]; exact k N' (hN.sc s') (s.tr s'))
theorem aM_sc {S : am_E} {as : List am_V} {M : am_M} {A : am_M → am_V} (hA : ∀ N, J N → sc1 M N → A N = A M) (h : ∀ (N : am_M) (q : am_Q), J N → (∀ N', sc N N' → RD N' → q (A N) N') → S as N q) : aM S as M (A M) :=
  fun N q hN s k => h N q hN (fun N' s' hR => by rw [hA N hN s]; exact k N' (hN.sc s') hR (s.tr s'))
def cA (M : am_M) (v : Int) : Int := f_11_count (M 7) (M 15) (M 20) (M 1) (M 3) (M 5) (M 27) (M 0) v
theorem cA_co {M N : am_M} (s : sc1 M N) (v : Int) : cA N v = cA M v := by
  unfold cA
  rw [s.k (o := 7) (by unfold keep; decide) (by decide), s.k (o := 15) (by unfold keep; decide) (by decide), s.k (o := 20) (by unfold keep; decide) (by decide), s.k (o := 1) (by unfold keep; decide) (by decide), s.k (o := 3) (by unfold keep; decide) (by decide), s.k (o := 5) (by unfold keep; decide) (by decide), s.k (o := 27) (by unfold keep; decide) (by decide), s.k (o := 0) (by unfold keep; decide) (by decide)]
theorem rc_count {M : am_M} {v1 : Int} : aC S12_count [aR 44, aI v1] M (aI (cA M v1)) := by
  refine aC_sc (A := fun M => aI (cA M v1)) (fun N _ s => congrArg aI (cA_co s v1)) (fun M q hJ k0 => ?_)
  refine e12_count (ct_reads hJ.1 (fun M1 hs hR => ?_))
  have hJ1 := hJ.sc hs
  have k := k0 M1 hs
  rw [← cA_co (sc1.of hs)] at k
  clear k0
  obtain ⟨hC1, -, s0, s1, s2, -⟩ := hJ1.1
  have hD := fun p => dn_rng (M1 2) (xn0 M1) p
  have hd' : dn (M1 2) (xn0 M1) = xD M1 := rfl
  rw [hd'] at hD
  unfold cA f_11_count at k
  refine ⟨fun h => ?_, fun h0 => ⟨fun h => ?_, fun h1 => ⟨fun h => ?_, fun h2 => ⟨fun h => ?_, fun h3 => ⟨fun h => ?_, fun h4 => ⟨fun h => ?_, fun h5 => ⟨fun h => ?_, fun h6 => ⟨fun h => ?_, fun h7 => ⟨fun h => ?_, fun h8 => ?_⟩⟩⟩⟩⟩⟩⟩⟩⟩
  · rw [if_pos h] at k
    have loop : ∀ (n i : Nat), i + n = 64 → am_R K12_count q 58 [aR 44, aJ, aI (cntP (xD M1) i), aI (i : Int)] [] M1 := by
      intro n
      induction n with
      | zero =>
        intro i hi
        refine g12_count_58 ⟨fun _ => ?_, fun hc => absurd hc (by omega)⟩
        have : i = 64 := by omega
        rw [this, ← hC1.2.1.2.2.1]; exact k
      | succ n ih =>
        intro i hi
        have hc := cntP_le (xD M1) i
        have e : cntP (xD M1) (i + 1) = cntP (xD M1) i + if xD M1 i = -1 then 0 else 1 := rfl
        refine g12_count_58 ⟨fun hc => absurd hc (by omega), fun _ => ⟨by omega, fun x3 hx3 => ?_⟩⟩
        have hi' : (i : Int).toNat = i := rfl
        rw [hi', hR.1 i (by omega)] at hx3
        have hd := hD i
        have e3 : x3 = if xD M1 i = -1 then 0 else 1 := by
          rw [hx3]; unfold fm
          by_cases h2 : xD M1 i = -1
          · rw [if_pos h2, if_pos h2, if_neg (by omega)]
          · rw [if_neg h2, if_neg h2, if_pos (by omega)]
        have r3 : 0 ≤ x3 ∧ x3 ≤ 1 := by rw [e3]; split <;> omega
        refine ⟨by omega, fun x4 hx4 => ⟨by omega, ?_⟩⟩
        have := ih (i + 1) (by omega)
        rw [e, ← e3, ← hx4] at this
        exact this
    exact loop 64 0 rfl
  · rw [if_neg h0, if_pos h] at k; rw [hR.2.1, ← hC1.2.2.1.2.1]; exact k
  · rw [if_neg h0, if_neg h1, if_pos h] at k; rw [hR.2.2.2.1, ← hC1.2.2.2.1.2.1]; exact k
  · rw [if_neg h0, if_neg h1, if_neg h2, if_pos h] at k; rw [hR.2.2.2.2.2.1, ← hC1.2.2.2.2.1]; exact k
  · rw [if_neg h0, if_neg h1, if_neg h2, if_neg h3, if_pos h] at k
    subst h
    rw [s0] at k
    exact ⟨by omega, by omega, k⟩
  · rw [if_neg h0, if_neg h1, if_neg h2, if_neg h3, if_neg h4, if_pos h] at k
    subst h
    rw [s1] at k
    exact ⟨by omega, by omega, k⟩
  · rw [if_neg h0, if_neg h1, if_neg h2, if_neg h3, if_neg h4, if_neg h5, if_pos h] at k
    subst h
    rw [s2] at k
    exact ⟨by omega, by omega, k⟩
  · rw [if_neg h0, if_neg h1, if_neg h2, if_neg h3, if_neg h4, if_neg h5, if_neg h6, if_pos h] at k
    rw [← hJ1.2.2.2.2.2.1.1]; exact k
  · rw [if_neg h0, if_neg h1, if_neg h2, if_neg h3, if_neg h4, if_neg h5, if_neg h6, if_neg h7, if_pos h] at k
    rw [← hJ1.2.2.2.2.2.2.2.1]; exact k
  · rw [if_neg h0, if_neg h1, if_neg h2, if_neg h3, if_neg h4, if_neg h5, if_neg h6, if_neg h7, if_neg h8] at k
    exact k
theorem cl_fault {M : am_M} {t : Nat} (ht : t < 3) : aC S11_fault [aR 0, aI (t : Int)] M (aI (M (1 + 2 * t) 3)) := by
  refine aC_sc (A := fun M => aI (M (1 + 2 * t) 3)) (fun N _ s => by rw [s.k (o := 1 + 2 * t) (by unfold keep; omega) (by omega)]) (fun M q hJ k => ?_)
  exact e11_fault ⟨fun _ => k M (sc.rf M), fun hc => absurd hc (by omega)⟩
theorem sc_o44 {M : am_M} {o i : Nat} {x : Int} {g : Nat → Int} (ho : ¬ keep o) (h44 : o ≠ 44) (h4 : 4 ≠ i) (h28 : 28 ≠ i) : sc M (am_ob (am_up M 44 i x) o g) := by
  have h1 : sc M (am_up M 44 i x) := by rw [up_as]; exact sc_44 (set_ne h4) (set_ne h28)
  exact h1.tr (sc_ob ho h44)
theorem rc_fault {M : am_M} {t : Nat} (ht : t < 3) : aC S12_fault [aR 44, aI (t : Int)] M (aI (M (1 + 2 * t) 3)) := by
  refine aC_sc (A := fun M => aI (M (1 + 2 * t) 3)) (fun N _ s => by rw [s.k (o := 1 + 2 * t) (by unfold keep; omega) (by omega)]) (fun M q hJ k => ?_)
  obtain ⟨hT, -⟩ := id hJ
  have hv := hT.v
  obtain ⟨hC, hby, s0, s1, s2, r0, r1, r2, es⟩ := hT
  obtain ⟨hB, hF, hO, hW, hN⟩ := hC
  have n0 := hB.2.1
  have n1 := hB.2.2.1
  have n2 := hB.2.2.2.1
  have hn0 : M 50 0 = (xn0 M : Int) := by unfold xn0; omega
  have hn1 : M 50 1 = (xn1 M : Int) := by unfold xn1; omega
  have hn2 : M 50 2 = (xn2 M : Int) := by unfold xn2; omega
  have l0 : xn0 M ≤ 71 := by unfold xn0; omega
  have l1 : xn1 M ≤ 5 := by unfold xn1; omega
  have l2 : xn2 M ≤ 40 := by unfold xn2; omega
  refine e12_fault ⟨fun _ => ⟨fun h2 => ?_, fun h2 => ⟨fun h3 => ?_, fun h3 => ?_⟩⟩, fun hc => absurd hc (by omega)⟩
  · have e : t = 0 := by omega
    subst e
    refine ct_readsFair hn0 l0 (fun j hj => hby j (by omega)) (fun a g hg => ⟨_, rfl, ?_⟩)
    rw [hv.2.1, ← hF.1]
    exact k _ (sc_o44 (by unfold keep; decide) (by decide) (by decide) (by decide))
  · have e : t = 1 := by omega
    subst e
    refine ct_readsOrder hn1 l1 (fun i hi => hby (80 + i) (by omega)) (fun g hg => ⟨_, rfl, ?_⟩)
    rw [hv.2.2.1, ← hO.1]
    exact k _ (sc_o44 (by unfold keep; decide) (by decide) (by decide) (by decide))
  · have e : t = 2 := by omega
    subst e
    refine ct_readsWay hn2 l2 (fun g hg => ⟨_, rfl, ?_⟩)
    rw [hv.2.2.2, ← hW.1]
    exact k _ (sc_o44 (by unfold keep; decide) (by decide) (by decide) (by decide))
theorem rm_judged {M : am_M} : aM S12_judged [aR 44] M (aI (f_11_judged (M 20))) := by
  refine aM_sc (A := fun M => aI (f_11_judged (M 20))) (fun N _ s => by rw [s.k (o := 20) (by unfold keep; decide) (by decide)]) (fun M q hJ k => ?_)
  refine e12_judged (ct_reads hJ.1 (fun M1 hs hR x6 hx6 => ?_))
  have hC1 := (hJ.sc hs).1.1
  have e20 := hs.1 20 (by unfold keep; decide)
  have a := hC1.2.2.2.1.2.1
  have b := hC1.2.2.2.2.1
  have c := hR.2.2.2.1
  have d := hR.2.2.2.2.2.1
  have hle : xN M1 ≤ xW M1 := by have := (wdn_le (d := xD M1) (l := xL M1) (s := M1 20 2) (xW M1) 0).2; unfold xN; omega
  rw [e20] at a b
  have e : x6 = f_11_judged (M 20) := by
    rw [hx6, c, d]
    unfold f_11_judged
    rw [a, b]
    by_cases h : (xN M1 : Int) = xW M1
    · rw [if_pos h, if_pos (by omega)]
    · rw [if_neg h, if_neg (by omega)]
  rw [e]
  exact k M1 hs hR
def atA (M : am_M) : Int := f_11_at (M 20) (M 8) (M 22) (M 20 4)
theorem rm_at {M N : am_M} {q : am_Q} (hJ : J M) (hN : J N) (hRN : RD N) (s : sc1 M N) (k : ∀ N', J N' → RD N' → sc1 M N' → q (aI (atA M)) N') : S12_at [aR 44, aI (N 44 17)] N q := by
  have ev1 : N 44 17 = (xN M : Int) := by rw [hRN.2.2.2.2.2.1, s.be.N]
  rw [ev1]
  refine e12_at (rd_reads hN s (fun M1 hJ1 hR s1 => ?_))
  have hC1 := hJ1.1.1
  have e20 := s1.k (o := 20) (by unfold keep; decide) (by decide)
  have e22 := s1.k (o := 22) (by unfold keep; decide) (by decide)
  have e8 := s1.k (o := 8) (by unfold keep; decide) (by decide)
  have es := hJ1.1.2.2.2.2.2.2.2.2
  have hB := hC1.1
  have hst := hB.2.2.2.2.2.2.2
  have a := hC1.2.2.2.2
  have h8 := hC1.2.1.2.1
  have d := hR.2.2.2.2.2
  have hn := xN_le hJ.1.1.1
  have eN := s1.be.N
  rw [d.1, ← es]
  refine ⟨fun h1 _ => by omega, fun x7 hx7 => ?_⟩
  have e : x7 = atA M := by
    unfold atA
    have a1 := a.1
    rw [hx7, ← e20, ← e22, ← e8, h8, a1]
    have h51 := hR.1 (M1 20 2).toNat (by omega)
    have hd := hdx M1 (M1 20 2).toNat
    rw [h51, eN]
    unfold f_11_at f_10_placeBehind
    rw [a1, eN]
    rw [a.2 (xN M : Int).toNat (by omega), d.2 (xN M : Int).toNat (by omega)]
    unfold fm
    generalize xD M1 (M1 20 2).toNat = dd at *
    by_cases h2 : dd = -1
    · rw [if_pos h2]
      (repeat' split) <;> omega
    · rw [if_neg h2]
      (repeat' split) <;> omega
  rw [e]
  exact k M1 hJ1 hR s1
theorem cl_loose {M : am_M} : aC S11_loose [aR 0] M (aI (jls M (xP M - 1))) := by
  refine aC_sc (A := fun M => aI (jls M (xP M - 1))) (fun N _ s => ?_) (fun M q hJ k => e11_loose (ct_loose11 hJ ⟨_, rfl, k M (sc.rf M)⟩))
  have e : jg N = jg M := by funext i; unfold jg; rw [s.be.O, s.k (o := 55) (by unfold keep; decide) (by decide)]
  have e2 : jls N = jls M := by
    funext k
    induction k with
    | zero => rfl
    | succ k ih =>
      have a : jls N (k + 1) = jls N k + (16 - jg N k) := rfl
      have b : jls M (k + 1) = jls M k + (16 - jg M k) := rfl
      rw [a, b, ih, e]
  rw [e2, s.be.P]
theorem jls_co {M N : am_M} (s : sc1 M N) : jls N = jls M := by
  have e : jg N = jg M := by funext i; unfold jg; rw [s.be.O, s.k (o := 55) (by unfold keep; decide) (by decide)]
  funext k
  induction k with
  | zero => rfl
  | succ k ih =>
    have a : jls N (k + 1) = jls N k + (16 - jg N k) := rfl
    have b : jls M (k + 1) = jls M k + (16 - jg M k) := rfl
    rw [a, b, ih, e]
theorem jg_co {M N : am_M} (s : sc1 M N) : jg N = jg M := by funext i; unfold jg; rw [s.be.O, s.k (o := 55) (by unfold keep; decide) (by decide)]
theorem sd_co {M N : am_M} (s : sc1 M N) : sd N = sd M := by funext i; unfold sd; rw [s.be.D, s.be.Q]
theorem sds_co {M N : am_M} (s : sc1 M N) : sds N = sds M := by
  funext k
  induction k with
  | zero => rfl
  | succ k ih =>
    have a : sds N (k + 1) = sds N k + sd N k := rfl
    have b : sds M (k + 1) = sds M k + sd M k := rfl
    rw [a, b, ih, sd_co s]
theorem rd_loose {M : am_M} : aD S12_looseNow [aR 44] M (aI (jls M (xP M - 1))) := by
  refine aD_of (A := fun M => aI (jls M (xP M - 1))) (fun N _ s => by rw [jls_co s, s.be.P]) (fun M q hJ hR k => ?_)
  exact ct_loose12 hJ.2.2.1 hJ.1.1.1 hR (k M (sp.rf M))
theorem cl_risk {M : am_M} : aC S11_risk [aR 0] M (aI (sds M (xN M) * jls M (xP M - 1))) := by
  refine aC_sc (A := fun M => aI (sds M (xN M) * jls M (xP M - 1))) (fun N _ s => by rw [sds_co s, jls_co s, s.be.P, s.be.N]) (fun M q hJ k => ?_)
  have hC := hJ.1.1
  have hn := xN_le hC.1
  have hp := xP_le hC.1
  have l2 := jls_rng hJ.2.2.1 (xP M - 1)
  have s2 := sds_rng (M := M) (xN M) (Nat.le_refl _)
  have hm : 0 ≤ sds M (xN M) * jls M (xP M - 1) ∧ sds M (xN M) * jls M (xP M - 1) ≤ 360 * 80 := ⟨Int.mul_nonneg s2.1 l2.1, Int.mul_le_mul (by omega) (by omega) l2.1 (by omega)⟩
  have loop : ∀ (a i : Nat), i + a = xN M → am_R K11_risk q 4 [aR 0, aI (sds M i), aI (i : Int)] [] M := by
    intro a
    induction a with
    | zero =>
      intro i hi
      have e : i = xN M := by omega
      refine g11_risk_4 ?_
      rw [hC.2.2.2.2.1]
      refine ⟨fun _ => ct_loose11 hJ ⟨_, rfl, ?_⟩, fun hc => absurd hc (by omega)⟩
      rw [e]
      exact ⟨by omega, k M (sc.rf M)⟩
    | succ a ih =>
      intro i hi
      have hr := sd_rng (M := M) (i := i) (by omega)
      have hs2 := sds_rng (M := M) i (by omega)
      refine g11_risk_4 ?_
      rw [hC.2.2.2.2.1, dstep hC (by omega)]
      refine ⟨fun hc => absurd hc (by omega), fun _ => ⟨by unfold ob_11_densityOfStep; omega, by omega, fun x6 hx6 => ⟨by omega, ?_⟩⟩⟩
      rw [hx6]
      exact ih (i + 1) (by omega)
  exact e11_risk (loop (xN M) 0 (by omega))
theorem rd_risk {M : am_M} : aD S12_riskNow [aR 44] M (aI (sds M (xN M) * jls M (xP M - 1))) := by
  refine aD_of (A := fun M => aI (sds M (xN M) * jls M (xP M - 1))) (fun N _ s => by rw [sds_co s, jls_co s, s.be.P, s.be.N]) (fun M q hJ hR k => ?_)
  have hC := hJ.1.1
  have hn := xN_le hC.1
  have hp := xP_le hC.1
  have l2 := jls_rng hJ.2.2.1 (xP M - 1)
  have s2 := sds_rng (M := M) (xN M) (Nat.le_refl _)
  have hm : 0 ≤ sds M (xN M) * jls M (xP M - 1) ∧ sds M (xN M) * jls M (xP M - 1) ≤ 360 * 80 := ⟨Int.mul_nonneg s2.1 l2.1, Int.mul_le_mul (by omega) (by omega) l2.1 (by omega)⟩
  have loop : ∀ (a i : Nat), i + a = xN M → am_R K12_riskNow q 4 [aR 44, aI (sds M i), aI ((i + 1 : Nat) : Int)] [] M := by
    intro a
    induction a with
    | zero =>
      intro i hi
      refine g12_riskNow_4 ?_
      rw [hR.2.2.2.2.2.1]
      refine ⟨fun _ => ct_loose12 hJ.2.2.1 hJ.1.1.1 hR ⟨_, rfl, ?_⟩, fun hc => absurd hc (by omega)⟩
      have e : i = xN M := by omega
      rw [e]
      exact ⟨by omega, k M (sp.rf M)⟩
    | succ a ih =>
      intro i hi
      have hr := sd_rng (M := M) (i := i) (by omega)
      have hs2 := sds_rng (M := M) i (by omega)
      have ei : ((i + 1 : Nat) : Int).toNat = i + 1 := rfl
      refine g12_riskNow_4 ?_
      rw [hR.2.2.2.2.2.1, ei, hR.2.2.2.2.2.2 (i + 1) (by omega)]
      have e51 : M 51 (xQ M (i + 1)).toNat = sd M i := by
        rw [hR.1 _ (by omega)]
        have : xD M (xQ M (i + 1)).toNat = sd M i := rfl
        unfold fm
        rw [this, if_neg (by omega)]
      rw [e51]
      refine ⟨fun hc => absurd hc (by omega), fun _ => ⟨by omega, by omega, by omega, fun x6 hx6 => ⟨by omega, ?_⟩⟩⟩
      rw [hx6]
      exact ih (i + 1) (by omega)
  exact e12_riskNow (loop (xN M) 0 (by omega))
def lkA (M : am_M) (w : Int) : Int := if xP M = 0 then 1 else lt_ (alL M (xP M) + alR M (xP M)) (p6 (xP M)) w
theorem lkA_co {M N : am_M} (s : sc1 M N) (w : Int) : lkA N w = lkA M w := by
  have e : hb_ N = hb_ M := by funext i; unfold hb_; rw [s.be.O, s.k (o := 56) (by unfold keep; decide) (by decide)]
  unfold lkA
  rw [s.be.P, (alL_eq e (xP M)).1, (alL_eq e (xP M)).2]
theorem cl_alike {M : am_M} {w : Int} (hw : w = 0 ∨ w = 1) : aC S11_alike [aR 0, aI w] M (aL (lkA M w)) := by
  refine aC_sc (A := fun M => aL (lkA M w)) (fun N _ s => congrArg aL (lkA_co s w)) (fun M q hJ k => ?_)
  have hC := hJ.1.1
  have hO := hC.2.2.1.2
  have hp := xP_le hC.1
  have hH := hJ.2.2.2.1
  have k1 := k M (sc.rf M)
  unfold lkA at k1
  refine e11_alike ⟨fun _ => ?_, fun hc => absurd hw hc⟩
  rw [hO.1]
  refine ⟨fun h0 => ?_, fun h0 => ?_⟩
  · rw [if_pos (by omega)] at k1; exact k1
  rw [if_neg (by omega)] at k1
  have loop : ∀ (a i : Nat), i + a = xP M → am_R K11_alike q 36 [aR 0, aI w, aL (alL M i : Nat), aJ, aL (alR M i : Nat), aJ, aL ((p6 i : Nat) : Int), aJ, aI (i : Int), aJ] [] M := by
    intro a
    induction a with
    | zero =>
      intro i hi
      have r := al_rng hH i (by omega)
      have p := p16 i (by omega)
      have ei : i = xP M := by omega
      refine g11_alike_36 ?_
      rw [hO.1]
      refine ⟨fun _ => ⟨by omega, ?_⟩, fun hc => absurd hc (by omega)⟩
      have e : (alL M i : Int) + (alR M i : Int) = ((alL M i + alR M i : Nat) : Int) := rfl
      rw [e]
      refine ct_lowest (by omega) (by omega) ⟨_, rfl, ?_⟩
      rw [ei]; exact k1
    | succ a ih =>
      intro i hi
      have ei : (i : Int).toNat = i := rfl
      have st := al_step hH (k := i) (by omega)
      have hr := hb_rng hH i
      have hx := xO_rng M i
      have ew : f_3_habitOf (M 17) (f_3_whoGoes (M 15) (M 19) (i : Int)) = hb_ M i := by
        have : f_3_whoGoes (M 15) (M 19) (i : Int) = xO M i := by
          unfold f_3_whoGoes
          rw [hO.1, if_neg (by omega), if_neg (by omega), if_neg (by omega)]
          exact hO.2 i (by omega)
        rw [this]
        unfold f_3_habitOf
        rw [if_pos (by omega)]
        exact (hH _ (by omega)).1
      refine g11_alike_36 ?_
      rw [hO.1, ew]
      refine ⟨fun hc => absurd hc (by omega), fun _ x6 hx6 => ?_⟩
      rw [hx6, st.1.1, st.1.2.1, st.1.2.2]
      refine ⟨by omega, fun x7 hx7 => ⟨by omega, by omega, fun x8 hx8 => ⟨by omega, fun x9 hx9 => ⟨by omega, ?_⟩⟩⟩⟩
      rw [hx7, hx8, hx9]
      exact ih (i + 1) (by omega)
  exact loop (xP M) 0 (by omega)
theorem rd_alike {M : am_M} {w : Int} : aD S12_alikeOf [aR 44, aI w] M (aL (lkA M w)) := by
  refine aD_of (A := fun M => aL (lkA M w)) (fun N _ s => congrArg aL (lkA_co s w)) (fun M q hJ hR k => ?_)
  have hC := hJ.1.1
  have hp := xP_le hC.1
  have hH := hJ.2.2.2.1
  have k1 := k M (sp.rf M)
  unfold lkA at k1
  have loop : ∀ (a i : Nat), i + a = xP M → am_R K12_alikeOf q 11 [aR 44, aI w, aL (alL M i : Nat), aJ, aL (alR M i : Nat), aJ, aL ((p6 i : Nat) : Int), aJ, aI (i : Int)] [] M := by
    intro a
    induction a with
    | zero =>
      intro i hi
      refine g12_alikeOf_11 ?_
      rw [hR.2.1]
      have r := al_rng hH i (by omega)
      have p := p16 i (by omega)
      have ei : i = xP M := by omega
      refine ⟨fun _ => ⟨fun h0 => ?_, fun h0 => ⟨by omega, ?_⟩⟩, fun hc => absurd hc (by omega)⟩
      · rw [if_pos (by omega)] at k1; exact k1
      · have e : (alL M i : Int) + (alR M i : Int) = ((alL M i + alR M i : Nat) : Int) := rfl
        rw [e]
        refine ct_part (by omega) ⟨_, rfl, ?_⟩
        rw [if_neg (by omega)] at k1
        rw [ei]; exact k1
    | succ a ih =>
      intro i hi
      have ei : (i : Int).toNat = i := rfl
      have st := al_step hH (k := i) (by omega)
      have hr := hb_rng hH i
      have hx := xO_rng M i
      refine g12_alikeOf_11 ?_
      rw [hR.2.1, ei, hR.2.2.1 i (by omega)]
      have eh : M 56 (xO M i).toNat = hb_ M i := rfl
      rw [eh, st.1.1, st.1.2.1, st.1.2.2]
      refine ⟨fun hc => absurd hc (by omega), fun _ => ⟨by omega, by omega, by omega, fun x7 hx7 => ⟨by omega, by omega, fun x8 hx8 => ⟨by omega, fun x9 hx9 => ⟨by omega, ?_⟩⟩⟩⟩⟩
      rw [hx7, hx8, hx9]
      exact ih (i + 1) (by omega)
  exact e12_alikeOf (loop (xP M) 0 (by omega))
/-- who goes i-th -/
theorem ord_eq {M N : am_M} (hN : J N) (hR : RD N) (s : sc1 M N) {i : Nat} (hi : i < 5) : ob_12_orderOf (N 44) (N 52) (i : Int) ∧ f_12_orderOf (N 44) (N 52) (i : Int) = f_11_order (M 15) (M 19) (i : Int) := by
  have e15 := s.k (o := 15) (by unfold keep; decide) (by decide)
  have e19 := s.k (o := 19) (by unfold keep; decide) (by decide)
  have hC := hN.1.1
  have hp := xP_le hC.1
  have a := hC.2.2.1.2
  have ei : ((i : Int)).toNat = i := rfl
  refine ⟨by unfold ob_12_orderOf; omega, ?_⟩
  rw [← e15, ← e19]
  unfold f_11_order f_3_whoGoes f_12_orderOf
  rw [a.1, hR.2.1, ei]
  by_cases h2 : i < xP N
  · rw [a.2 i h2, hR.2.2.1 i h2]
    (repeat' split) <;> omega
  · (repeat' split) <;> omega
