/-! parted -/
theorem aC_of {S : am_E} {as : List am_V} {M : am_M} {A : am_M → am_V} (hA : ∀ N, J N → sc1 M N → A N = A M) (h : ∀ (N : am_M) (q : am_Q), J N → (∀ N', J N' → sc1 N N' → q (A N) N') → S as N q) : aC S as M (A M) :=
  fun N q hN s k => h N q hN (fun N' hN' s' => by rw [hA N hN s]; exact k N' hN' (s.tr1 s'))
theorem aD_of {S : am_E} {as : List am_V} {M : am_M} {A : am_M → am_V} (hA : ∀ N, J N → sc1 M N → A N = A M) (h : ∀ (N : am_M) (q : am_Q), J N → RD N → (∀ N', sp N N' → q (A N) N') → S as N q) : aD S as M (A M) :=
  fun N q hN hR s k => h N q hN hR (fun N' s' => by rw [hA N hN s]; exact k N' (hN.sc s'.1) (hR.sp s') (s.tr s'.1))
theorem vV_co {M N : am_M} (eD : xD N = xD M) (eN : lkN N = lkN M) (eP : lkP N = lkP M) (eW : lkW N = lkW M) : vV N = vV M ∧ cV N = cV M := by
  have h : isV N = isV M := by
    funext st s v c
    unfold isV lgS
    rw [eD, eN, eP, eW]
  have h1 : vV N = vV M := by funext st s; unfold vV; rw [h]
  refine ⟨h1, ?_⟩
  funext st s
  unfold cV
  rw [h, h1]
def df (a t : Nat) : Nat := (am_and (a : Int) (am_xor (t : Int) (-1))).toNat
theorem parts_fin : ∀ n : Fin 6, ∀ t : Fin 32, (am_and (t.val : Int) (am_xor (am_shl 1 (n.val : Int) - 1) (-1)) = 0 ↔ (t.val : Int) ≤ am_shl 1 (n.val : Int) - 1) ∧ 0 ≤ am_and (am_shl 1 (n.val : Int) - 1) (am_xor (t.val : Int) (-1)) ∧ am_and (am_shl 1 (n.val : Int) - 1) (am_xor (t.val : Int) (-1)) ≤ am_shl 1 (n.val : Int) - 1 ∧ ∀ d : Fin 5, (t.val : Int) ≤ am_shl 1 (n.val : Int) - 1 → ¬ am_and (am_shr (t.val : Int) (d.val : Int)) 1 = 0 → d.val < n.val := by decide +kernel
theorem parts_f {n t : Nat} (hn : n ≤ 5) (ht : t < 32) : (sub_ t (al n) ↔ t ≤ al n) ∧ ((df (al n) t : Nat) : Int) = am_and ((al n : Nat) : Int) (am_xor (t : Int) (-1)) ∧ df (al n) t ≤ al n ∧ ∀ d, d < 5 → t ≤ al n → hasB t d → d < n := by
  have h := parts_fin ⟨n, by omega⟩ ⟨t, ht⟩
  have ha := al_f hn
  have h1 : (am_and (t : Int) (am_xor (am_shl 1 (n : Int) - 1) (-1)) = 0 ↔ (t : Int) ≤ am_shl 1 (n : Int) - 1) ∧ 0 ≤ am_and (am_shl 1 (n : Int) - 1) (am_xor (t : Int) (-1)) ∧ am_and (am_shl 1 (n : Int) - 1) (am_xor (t : Int) (-1)) ≤ am_shl 1 (n : Int) - 1 ∧ ∀ d : Fin 5, (t : Int) ≤ am_shl 1 (n : Int) - 1 → ¬ am_and (am_shr (t : Int) (d.val : Int)) 1 = 0 → d.val < n := h
  rw [← ha.1] at h1
  have e : ((df (al n) t : Nat) : Int) = am_and ((al n : Nat) : Int) (am_xor (t : Int) (-1)) := by unfold df; omega
  refine ⟨?_, e, by omega, fun d hd htl hb => h1.2.2.2 ⟨d, hd⟩ (by omega) hb⟩
  unfold sub_
  rw [h1.1]
  omega
def pm (f : Nat → Int) : Nat → Nat
  | 0 => 0
  | k + 1 => if f (pm f k) ≤ f (k + 1) then pm f k else k + 1
theorem pm_le (f : Nat → Int) : ∀ k, pm f k ≤ k := by
  intro k
  induction k with
  | zero => exact Nat.le_refl _
  | succ k ih => unfold pm; split <;> omega
theorem pm_s (f : Nat → Int) (k : Nat) : pm f (k + 1) = if f (pm f k) ≤ f (k + 1) then pm f k else k + 1 := rfl
/-- what both together take, the first one taking t -/
noncomputable def pf (M : am_M) (a b A : Nat) : Nat → Int := fun t => vV M (M 57 a) t + vV M (M 57 b) (df A t)
noncomputable def pA0 (M : am_M) (a b : Nat) (w : Int) (A : Nat) : Int := @ite Int (0 < lkN M ∧ okS M (M 57 a) ∧ okS M (M 57 b)) (Classical.propDecidable _) (if w = 2 then ((pm (pf M a b A) A : Nat) : Int) else lt_ (pf M a b A (pm (pf M a b A) A)).toNat (sm (lkW M) (lkN M)).toNat w) (f_11_refused (-3))
noncomputable def pA (M : am_M) (a b : Nat) (w : Int) : Int := pA0 M a b w (al (lkN M))
theorem pA_co {M N : am_M} (hL : JL M) (s : sc1 M N) (a b : Nat) (w : Int) : pA N a b w = pA M a b w := by
  obtain ⟨l1, l2, l3, l4⟩ := sc1_lk hL s
  have e57 : N 57 = M 57 := s.k (by unfold keep; decide) (by decide)
  have ev := (vV_co s.be.D l2 l3 l4).1
  unfold pA
  rw [l2]
  generalize al (lkN M) = A
  have ef : pf N a b A = pf M a b A := by unfold pf; rw [ev, e57]
  unfold pA0
  rw [ef, l2, l4, e57]
  by_cases c : 0 < lkN M ∧ okS M (M 57 a) ∧ okS M (M 57 b)
  · rw [if_pos c, if_pos]
    rw [sc1_ok hL s, sc1_ok hL s]; exact c
  · rw [if_neg c, if_neg]
    rw [sc1_ok hL s, sc1_ok hL s]; exact c
theorem sm_w {M : am_M} (hL : JL M) (h0 : 0 < lkN M) : 1 ≤ sm (lkW M) (lkN M) ∧ sm (lkW M) (lkN M) ≤ 45 := by
  have hn := lkN_le hL
  have hpos : ∀ k, k ≤ lkN M → (k : Int) ≤ sm (lkW M) k ∧ sm (lkW M) k ≤ 9 * k := by
    intro k
    induction k with
    | zero => intro _; exact ⟨Int.le_refl _, Int.le_refl _⟩
    | succ k ih =>
      intro hk
      have h1 := ih (by omega)
      have h2 := (lk_f hL (show k < lkN M by omega)).2.2.2.2
      have : sm (lkW M) (k + 1) = sm (lkW M) k + lkW M k := rfl
      omega
  have := hpos (lkN M) (Nat.le_refl _)
  omega
/-- all parts of a set of looks -/
def aP (A n : Nat) : Prop := A < 32 ∧ (A : Int) = am_shl 1 (n : Int) - 1 ∧ cb (A : Int) = (n : Int) ∧ ∀ t, t < 32 → (sub_ t A ↔ t ≤ A) ∧ ((df A t : Nat) : Int) = am_and (A : Int) (am_xor (t : Int) (-1)) ∧ df A t ≤ A ∧ ∀ d, d < 5 → t ≤ A → hasB t d → d < n
theorem aP_of {n : Nat} (hn : n ≤ 5) : aP (al n) n := by
  have h := al_f hn
  exact ⟨h.2.1, h.1, h.2.2.1, fun t ht => parts_f hn ht⟩
theorem lp_in {T : Nat → Int} {A n t : Nat} (hA : aP A n) (ht : t < 32) : f_6_leastParted T (t : Int) (A : Int) = T (t * 7 + 5) + T (df A t * 7 + 6) := by
  have hp := hA.2.2.2 t ht
  have ha := hA.1
  unfold f_6_leastParted
  rw [← hp.2.1]
  have e1 : f_6_leastFrom T 5 (t : Int) = T (t * 7 + 5) := lf_in (f := 5) (by omega) ht
  have e2 : f_6_leastFrom T 6 ((df A t : Nat) : Int) = T (df A t * 7 + 6) := lf_in (f := 6) (by omega) (by omega)
  rw [e1, e2]
theorem lp_ob {T : Nat → Int} {A n t : Nat} (hA : aP A n) (ht : t < 32) (h1 : -225 ≤ T (t * 7 + 5) ∧ T (t * 7 + 5) ≤ 14175) (h2 : -225 ≤ T (df A t * 7 + 6) ∧ T (df A t * 7 + 6) ≤ 14175) : ob_6_leastParted T (t : Int) (A : Int) := by
  have hl := lp_in (T := T) hA ht
  unfold f_6_leastParted at hl
  unfold ob_6_leastParted
  rw [hl]; omega
theorem ct_bestShare {q : am_Q} {M : am_M} {A n : Nat} {f : Nat → Int} (hA : aP A n) (hf : ∀ t, t ≤ A → M 33 (t * 7 + 5) + M 33 (df A t * 7 + 6) = f t) (hb : ∀ t, t ≤ A → (-225 ≤ M 33 (t * 7 + 5) ∧ M 33 (t * 7 + 5) ≤ 14175) ∧ (-225 ≤ M 33 (t * 7 + 6) ∧ M 33 (t * 7 + 6) ≤ 14175)) (h : q (aI ((pm f A : Nat) : Int)) M) : S6_bestShare [aR 30, aI (A : Int)] M q := by
  have ha := hA.1
  have loop : ∀ (a k : Nat), k + a = 31 → am_R K6_bestShare q 4 [aR 30, aI (A : Int), aI ((pm f (if k ≤ A then k else A) : Nat) : Int), aI ((k + 1 : Nat) : Int), aJ] [] M := by
    intro a
    induction a with
    | zero =>
      intro k hk
      refine g6_bestShare_4 ⟨fun _ => ?_, fun hc => absurd hc (by omega)⟩
      have e : (if k ≤ A then k else A) = A := by split <;> omega
      rw [e]; exact h
    | succ a ih =>
      intro k hk
      have hk32 : k + 1 < 32 := by omega
      have hp := hA.2.2.2 (k + 1) hk32
      have hsub : am_and ((k + 1 : Nat) : Int) (am_xor (A : Int) (-1)) = 0 ↔ k + 1 ≤ A := hp.1
      refine g6_bestShare_4 ⟨fun hc => absurd hc (by omega), fun _ x3 hx3 => ⟨fun hs => ?_, fun x6 hx6 => ⟨by omega, ?_⟩⟩⟩
      · have hle := hsub.mp hs
        have hpm := pm_le f k
        rw [if_pos (by omega)]
        have hp2 := hA.2.2.2 (pm f k) (by omega)
        exact ⟨lp_ob (T := M 33) hA hk32 (hb _ hle).1 (hb _ hp.2.2.1).2, lp_ob (T := M 33) hA (by omega) (hb _ (by omega)).1 (hb _ hp2.2.2.1).2⟩
      · have e6 : x6 = ((pm f (if k + 1 ≤ A then k + 1 else A) : Nat) : Int) := by
          rw [hx6]
          by_cases hle : k + 1 ≤ A
          · have hpm := pm_le f k
            have l1 := lp_in (T := M 33) hA hk32
            have l2 := lp_in (T := M 33) hA (show pm f k < 32 by omega)
            rw [hf _ hle] at l1
            rw [hf _ (by omega)] at l2
            rw [if_pos (hsub.mpr hle), if_pos (show k ≤ A by omega), if_pos hle, l1, l2, pm_s]
            by_cases c : f (pm f k) ≤ f (k + 1)
            · rw [if_pos c, if_pos c]
            · rw [if_neg c, if_neg c]
          · have e : (if k ≤ A then k else A) = A := by split <;> omega
            rw [if_neg (fun hx => hle (hsub.mp hx)), if_neg hle, e]
        rw [e6]
        exact ih (k + 1) (by omega)
  have := loop 31 0 (by omega)
  rw [if_pos (by omega)] at this
  exact e6_bestShare this
theorem wS_A {w : Nat → Int} {A n : Nat} (h : A = al n) (hn : n ≤ 5) : wS w A n = sm w n := by rw [h]; exact wS_al hn n (Nat.le_refl _)
theorem cl_parted {M : am_M} {a b : Nat} {w : Int} (hJ : J M) (ha : a < 5) (hb : b < 5) (hab : a ≠ b) (hw : 0 ≤ w ∧ w ≤ 2) : aC S11_parted [aR 0, aI (a : Int), aI (b : Int), aI w] M (aL (pA M a b w)) := by
  refine aC_of (A := fun M => aL (pA M a b w)) (fun N _ s => congrArg aL (pA_co hJ.2.2.2.2.2.1 s a b w)) ?_
  clear hJ M
  intro M q hJ k
  have hL := hJ.2.2.2.2.2.1
  have hn := lkN_le hL
  have hd := hdx M
  have hA := aP_of hn.1
  have hWA : ∀ w : Nat → Int, wS w (al (lkN M)) (lkN M) = sm w (lkN M) := fun w => wS_A rfl hn.1
  unfold pA at k
  generalize al (lkN M) = A at *
  have hA32 := hA.1
  refine e11_parted ⟨fun _ => ⟨fun _ => ⟨fun hc => absurd hc (by omega), fun _ => ⟨fun hc => absurd hc (by omega), fun _ => ⟨fun _ => ?_, fun hc => absurd hw.2 hc⟩⟩⟩, fun hc => absurd hc (by omega)⟩, fun hc => absurd hc (by omega)⟩
  refine ct_canSeek hJ ha hb (fun hno N hJN s1 => ⟨_, rfl, fun _ => ?_, fun hc => absurd rfl hc⟩) (fun hn0 hoka hokb N hJN s1 h31 h5 h6 h32 => ⟨_, rfl, fun hc => absurd hc (by decide), fun _ => ?_⟩)
  · have := k N hJN s1
    unfold pA0 at this
    rw [if_neg hno] at this
    exact this
  · have hk : ∀ N', J N' → sc1 M N' → q (aL (if w = 2 then ((pm (pf M a b A) A : Nat) : Int) else lt_ (pf M a b A (pm (pf M a b A) A)).toNat (sm (lkW M) (lkN M)).toNat w)) N' := by
      intro N' j1 j2
      have := k N' j1 j2
      unfold pA0 at this
      rw [if_pos ⟨hn0, hoka, hokb⟩] at this
      exact this
    clear k
    have e27 : N 27 2 = (lkN M : Int) := by rw [s1.k (o := 27) (by unfold keep; decide) (by decide)]; exact hn.2.2
    have eab : f_4_asBits (N 27) = (A : Int) := by unfold f_4_asBits; rw [e27, ← hA.2.1]
    have eob : ob_4_asBits (N 27) := by unfold ob_4_asBits; rw [e27, ← hA.2.1]; omega
    rw [eab]
    refine ⟨eob, fun x9 hx9 => ?_⟩
    rw [hx9]
    have hLB := LB_of hL hJN h32
    refine ct_solve hA32 hLB (fun T hT => ?_)
    have sT : sc N (am_ob N 33 T) := sc_ob (by unfold keep; decide) (by decide)
    have hJT := hJN.sc sT
    have s2 := s1.tr sT
    have e33 : (am_ob N 33 T) 33 = T := ob_eq
    have hsubs : ∀ t, t ≤ A → tO N T t := fun t ht => hT t (by omega) ((hA.2.2.2 t (by omega)).1.mpr ht)
    have hrng : ∀ t, t ≤ A → (-225 ≤ T (t * 7 + 5) ∧ T (t * 7 + 5) ≤ 14175) ∧ (-225 ≤ T (t * 7 + 6) ∧ T (t * 7 + 6) ≤ 14175) := fun t ht => ⟨tO_rng hLB (by omega) (by omega) (hsubs t ht), tO_rng hLB (by omega) (by omega) (hsubs t ht)⟩
    have hv5 : ∀ t, t ≤ A → T (t * 7 + 5) = vV M (M 57 a) t := by
      intro t ht
      obtain ⟨c, hc⟩ := hsubs t ht 5 (by omega)
      exact (isV_un (by omega) (isV_class hL (by omega) (by omega) (fun d hd' hh => (hA.2.2.2 t (by omega)).2.2.2 d hd' ht hh) h31 h5 h32 hc)).1
    have hv6 : ∀ t, t ≤ A → T (t * 7 + 6) = vV M (M 57 b) t := by
      intro t ht
      obtain ⟨c, hc⟩ := hsubs t ht 6 (by omega)
      exact (isV_un (by omega) (isV_class hL (by omega) (by omega) (fun d hd' hh => (hA.2.2.2 t (by omega)).2.2.2 d hd' ht hh) h31 h6 h32 hc)).1
    have hpf : ∀ t, t ≤ A → T (t * 7 + 5) + T (df A t * 7 + 6) = pf M a b A t := by
      intro t ht
      rw [hv5 t ht, hv6 _ (hA.2.2.2 t (by omega)).2.2.1]
      rfl
    refine ct_bestShare hA (by rw [e33]; exact hpf) (by rw [e33]; exact hrng) ⟨_, rfl, fun e2 => ?_, fun e2 => ?_⟩
    · have := hk _ hJT s2
      rw [if_pos e2] at this
      exact this
    · have hq := hk _ hJT s2
      rw [if_neg e2] at hq
      have hpm := pm_le (pf M a b A) A
      generalize pm (pf M a b A) A = t at *
      rw [e33]
      have hp := hA.2.2.2 t (by omega)
      refine ⟨lp_ob hA (by omega) (hrng _ hpm).1 (hrng _ hp.2.2.1).2, ?_⟩
      have hLT := sc_lk (sc1_lk hL s1).1 sT
      refine ct_weightOf hLT.1 hA32 ⟨_, rfl, ?_⟩
      rw [hLT.2.1, hLT.2.2.2, (sc1_lk hL s1).2.1, (sc1_lk hL s1).2.2.2, hWA, lp_in hA (by omega), hpf _ hpm]
      have h0a := vV_nn hd hL hoka (s := t) (by omega) (fun d hd' hh => (hA.2.2.2 t (by omega)).2.2.2 d hd' hpm hh)
      have h0b := vV_nn hd hL hokb (s := df A t) (by omega) (fun d hd' hh => (hA.2.2.2 (df A t) (by omega)).2.2.2 d hd' hp.2.2.1 hh)
      have h0 : 0 ≤ pf M a b A t := by
        have e : pf M a b A t = vV M (M 57 a) t + vV M (M 57 b) (df A t) := rfl
        omega
      have hsw := sm_w hL hn0
      have ev : pf M a b A t = (((pf M a b A t).toNat : Nat) : Int) := by omega
      have es : sm (lkW M) (lkN M) = (((sm (lkW M) (lkN M)).toNat : Nat) : Int) := by omega
      rw [ev, es]
      exact ct_lowest (by omega) (by omega) ⟨_, rfl, hq⟩
