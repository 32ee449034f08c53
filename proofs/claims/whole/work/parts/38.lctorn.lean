/-! torn, fairs: alike -/
theorem sc_ob {M : am_M} {o : Nat} {f : Nat → Int} (ho : ¬ keep o) (h44 : o ≠ 44) : sc M (am_ob M o f) := by
  refine ⟨fun p hp => ob_ne (fun e => ho (e ▸ hp)), ?_, ?_⟩
  · rw [ob_ne (fun e => h44 e.symm)]
  · rw [ob_ne (fun e => h44 e.symm)]
theorem sc_44 {M : am_M} {f : Nat → Int} (h4 : f 4 = M 44 4) (h28 : f 28 = M 44 28) : sc M (am_ob M 44 f) := by
  refine ⟨fun p hp => ob_ne (fun e => by subst e; unfold keep at hp; exact hp (by decide)), ?_, ?_⟩
  · rw [ob_eq]; exact h4
  · rw [ob_eq]; exact h28
theorem sc_sdf {M M' : am_M} (h : sc M M') : sd M' = sd M := by
  funext i; unfold sd; rw [h.be.D, h.be.Q]
theorem sc.jgf {M M' : am_M} (h : sc M M') : jg M' = jg M := by
  funext i; unfold jg; rw [h.be.O, h.1 55 (by unfold keep; decide)]
def bh (O : Nat → Int) : Nat → Nat → Int → Int
  | 0, _, b => b
  | k + 1, i, b => bh O k (i + 1) (am_or b (am_shl 1 (O i)))
theorem ct_behind {q : am_Q} {M : am_M} (hJ : J M) {v : Int} (hv : -1 ≤ v ∧ v < 4) (h : q (aI (if v = -1 then 0 else bh (xO M) (xP M - (v + 1).toNat) (v + 1).toNat 0)) M) : S3_behindJoint [aR 15, aI v] M q := by
  have hO := hJ.1.1.2.2.1.2
  have hp := xP_le hJ.1.1.1
  have loop : ∀ (k i : Nat) (b : Int), xP M - i = k → q (aI (bh (xO M) k i b)) M → am_R K3_behindJoint q 13 [aR 15, aJ, aI b, aI (i : Int)] [] M := by
    intro k
    induction k with
    | zero =>
      intro i b hi h
      refine g3_behindJoint_13 ?_
      rw [hO.1]
      exact ⟨fun _ => h, fun hc => absurd hc (by omega)⟩
    | succ k ih =>
      intro i b hi h
      have w : f_3_whoGoes (M 15) (M 19) (i : Int) = xO M i := by
        unfold f_3_whoGoes
        rw [hO.1, if_neg (by omega), if_neg (by omega), if_neg (by omega)]
        exact hO.2 i (by omega)
      have a := xO_rng M i
      refine g3_behindJoint_13 ?_
      rw [hO.1, w]
      refine ⟨fun hc => absurd hc (by omega), fun _ => ⟨by omega, fun x2 hx2 => ⟨by omega, ih (i + 1) x2 (by omega) ?_⟩⟩⟩
      rw [hx2]; exact h
  refine e3_behindJoint ⟨fun e => ?_, fun e => ⟨by omega, fun x2 hx2 => ?_⟩⟩
  · rw [if_pos e] at h; exact h
  · rw [if_neg e] at h
    have ex : x2 = (((v + 1).toNat : Nat) : Int) := by omega
    rw [ex]
    exact loop _ _ 0 rfl h
def tAns (O : Nat → Int) (P : Nat) (G : Nat → Int) (w : Int) : Int := if w = 0 then G 2 else if w = 1 then G 3 else if w = 2 then G 4 else if G 2 = -1 then 0 else bh O (P - (G 2 + 1).toNat) (G 2 + 1).toNat 0
def tW (M : am_M) (g f : Nat → Int) : Prop := f 22 = g 0 ∧ ∀ i, i ≠ 22 → i ≠ 23 → i ≠ 24 → i ≠ 25 → f i = M 44 i
theorem tR.w {M : am_M} {g f : Nat → Int} (h : tR M g f) : tW M g f := ⟨h.1, h.2.2.2⟩
theorem tW.r {M : am_M} {g f : Nat → Int} (h : tW M g f) : tR M (t0 g) (am_set (am_set f 23 (-1)) 24 (-1)) := by
  refine ⟨?_, ?_, ?_, fun i a b c e => ?_⟩
  · unfold t0; rw [set_ne (by decide), set_ne (by decide), set_ne (by decide), set_ne (by decide), set_ne (by decide), set_ne (by decide)]; exact h.1
  · unfold t0; rw [set_ne (by decide), set_eq, set_ne (by decide), set_ne (by decide), set_eq]
  · unfold t0; rw [set_eq, set_ne (by decide), set_eq]
  · rw [set_ne c, set_ne b]; exact h.2 i a b c e
theorem tW.sc {M : am_M} {g f : Nat → Int} (h : tW M g f) : sc M (am_ob M 44 f) := sc_44 (h.2 4 (by decide) (by decide) (by decide) (by decide)) (h.2 28 (by decide) (by decide) (by decide) (by decide))
theorem ct_tornOf {q : am_Q} {M : am_M} {v1 w : Int} {g : Nat → Int} (hJ : J M) (hR : RD M) (hg : g 0 = v1)
    (h : ∀ f, tW M (tFa (sd M) (jg M) (xP M - 1) (xN M) g) f → q (aI (tAns (xO M) (xP M) (tFa (sd M) (jg M) (xP M - 1) (xN M) g) w)) (am_ob M 44 f)) : S12_tornOf [aR 44, aI v1, aI w] M q := by
  have hB := hJ.1.1.1
  have hp := xP_le hB
  refine e12_tornOf ?_
  rw [up_as]
  refine ct_tears12 (g := g) hR hJ.2.2.1 hB (tW.r ⟨by rw [set_eq, hg], fun i a b c e => set_ne a⟩) (fun f hf h25 => ?_)
  have hi : tI (tFa (sd M) (jg M) (xP M - 1) (xN M) g) := tI_St (by omega) (tI_0 g) _
  have h' := h f hf.w
  clear h
  generalize tFa (sd M) (jg M) (xP M - 1) (xN M) g = G at *
  have h9 : f 9 = xP M := by rw [hf.2.2.2 9 (by decide) (by decide) (by decide) (by decide)]; exact hR.2.1
  have h2 := hi.2.2
  rw [ob_eq, hf.2.1]
  refine ⟨by omega, fun x5 hx5 => ?_⟩
  have fin : ∀ v3 : Int, v3 = (if G 2 = -1 then 0 else bh (xO M) (xP M - (G 2 + 1).toNat) (G 2 + 1).toNat 0) → ∀ x5 : Int, x5 = (if w = 0 then f 23 else if w = 1 then f 24 else if w = 2 then f 25 else v3) → q (aI x5) (am_ob M 44 f) := by
    intro v3 hv3 x5 hx5
    rw [hf.2.1, hf.2.2.1, h25, hv3] at hx5
    rw [hx5]
    exact h'
  by_cases e : G 2 = -1
  · rw [if_pos e] at fin
    have ex : x5 = 0 := by omega
    rw [ex]
    refine g12_tornOf_19 ?_
    rw [ob_eq, h9]
    refine ⟨fun _ => fin 0 rfl, fun _ => ⟨fun _ => fin 0 rfl, fun hc => absurd (hf.2.1.trans e) hc⟩⟩
  · rw [if_neg e] at fin
    have loop : ∀ (k i : Nat) (b : Int), xP M - i = k → bh (xO M) k i b = bh (xO M) (xP M - (G 2 + 1).toNat) (G 2 + 1).toNat 0 → am_R K12_tornOf q 19 [aR 44, aJ, aI w, aI b, aI (i : Int)] [] (am_ob M 44 f) := by
      intro k
      induction k with
      | zero =>
        intro i b hi hb
        refine g12_tornOf_19 ?_
        rw [ob_eq, h9]
        exact ⟨fun _ => fin b hb, fun hc => absurd hc (by omega)⟩
      | succ k ih =>
        intro i b hi hb
        have a := xO_rng M i
        have ei : ((i : Int)).toNat = i := rfl
        refine g12_tornOf_19 ?_
        rw [ob_eq, h9, ob_ne (by decide : (52 : Nat) ≠ 44), ei, hR.2.2.1 i (by omega)]
        refine ⟨fun hc => absurd hc (by omega), fun _ => ⟨fun hc => absurd (hf.2.1.symm.trans hc) e, fun _ => ⟨by omega, by omega, fun x11 hx11 => ⟨by omega, ih (i + 1) x11 (by omega) ?_⟩⟩⟩⟩
        rw [hx11, ← hb]; rfl
    have ex : x5 = (((G 2 + 1).toNat : Nat) : Int) := by omega
    rw [ex]
    exact loop _ _ 0 rfl rfl
theorem lc_torn {M : am_M} {v1 v2 : Int} (hJ : J M) : S11_torn [aR 0, aI v1, aI v2] M (fun r1 M1 => S12_torn [aR 44, aI v1, aI v2] M1 (fun r2 M2 => eqI r1 r2 ∧ J M2)) := by
  have bad : ¬ (0 ≤ v2 ∧ v2 ≤ 3) → S12_torn [aR 44, aI v1, aI v2] M (fun r2 M2 => eqI (aI (-2)) r2 ∧ J M2) := by
    intro hb
    exact e12_torn (ct_reads hJ.1 (fun M1 hs hR => ⟨fun hc => absurd hc (by omega), fun _ => ⟨⟨_, rfl, rfl⟩, hJ.sc hs⟩⟩))
  refine e11_torn ⟨fun h => bad (by omega), fun h => ⟨fun h3 => ?_, fun h3 => bad (by omega)⟩⟩
  rw [up_as]
  refine ct_goFair hJ ?_
  have hp := xP_le hJ.1.1.1
  have hi : tI (tFa (sd M) (jg M) (xP M - 1) (xN M) (am_set (M 23) 0 v1)) := tI_St (by omega) (tI_0 _) _
  have s1 : sc M (am_ob M 23 (tFa (sd M) (jg M) (xP M - 1) (xN M) (am_set (M 23) 0 v1))) := sc_ob (by unfold keep; decide) (by decide)
  have ref : ∀ v : Int, v = tAns (xO M) (xP M) (tFa (sd M) (jg M) (xP M - 1) (xN M) (am_set (M 23) 0 v1)) v2 → S12_torn [aR 44, aI v1, aI v2] (am_ob M 23 (tFa (sd M) (jg M) (xP M - 1) (xN M) (am_set (M 23) 0 v1))) (fun r2 M2 => eqI (aI v) r2 ∧ J M2) := by
    intro v hv
    refine e12_torn (ct_reads (hJ.sc s1).1 (fun M2 hs hR => ⟨fun _ => ?_, fun hc => absurd hc (by omega)⟩))
    have s2 := s1.tr hs
    have hJ2 := hJ.sc s2
    refine ct_tornOf (g := am_set (M 23) 0 v1) hJ2 hR set_eq (fun f hf => ⟨_, rfl, ⟨_, rfl, ?_⟩, hJ2.sc hf.sc⟩)
    rw [hv, sc_sdf s2, s2.jgf, s2.be.P, s2.be.N, s2.be.O]
  have eO : xO (am_ob M 23 (tFa (sd M) (jg M) (xP M - 1) (xN M) (am_set (M 23) 0 v1))) = xO M := s1.be.O
  have eP : xP (am_ob M 23 (tFa (sd M) (jg M) (xP M - 1) (xN M) (am_set (M 23) 0 v1))) = xP M := s1.be.P
  have hJ1 := hJ.sc s1
  rw [ob_eq]
  generalize tFa (sd M) (jg M) (xP M - 1) (xN M) (am_set (M 23) 0 v1) = G at *
  unfold tAns at ref
  refine ⟨fun e => ref _ (by rw [if_pos e]), fun e => ⟨fun e1 => ref _ (by rw [if_neg e, if_pos e1]), fun e1 => ⟨fun e2 => ref _ (by rw [if_neg e, if_neg e1, if_pos e2]), fun e2 => ct_behind hJ1 hi.2.2 ⟨_, rfl, ref _ ?_⟩⟩⟩⟩
  rw [if_neg e, if_neg e1, if_neg e2, eO, eP]
def fG (D G : Nat → Int) (p n : Nat) : Nat → (Nat → Int) → Nat → Int
  | 0, g => g
  | k + 1, g => tFa D G p n (fG D G p n k g)
def fS (D G : Nat → Int) (p n : Nat) (g : Nat → Int) : Nat → Int
  | 0 => 0
  | k + 1 => fS D G p n g k + fG D G p n (k + 1) g 4
theorem fS_rng {D G : Nat → Int} {p n : Nat} {g : Nat → Int} (hp : p ≤ 4) : ∀ k, 0 ≤ fS D G p n g k ∧ fS D G p n g k ≤ 4 * k := by
  intro k
  induction k with
  | zero => unfold fS; omega
  | succ k ih =>
    have h1 : tI (fG D G p n (k + 1) g) := tI_St hp (tI_0 _) _
    have h2 := tI_rng h1
    unfold fS
    omega
theorem ct_fairsOf {q : am_Q} {M : am_M} {v1 : Int} {n : Nat} {g : Nat → Int} (hJ : J M) (hR : RD M) (hg : g 0 = v1) (hn : n ≤ 60)
    (h : ∀ f, tW M (fG (sd M) (jg M) (xP M - 1) (xN M) n g) f → q (aI (fS (sd M) (jg M) (xP M - 1) (xN M) g n)) (am_ob M 44 f)) : S12_fairsOf [aR 44, aI v1, aI (n : Int)] M q := by
  have hB := hJ.1.1.1
  have hp := xP_le hB
  have loop : ∀ (k i : Nat) (f : Nat → Int), i + k = n → tW M (fG (sd M) (jg M) (xP M - 1) (xN M) i g) f → am_R K12_fairsOf q 10 [aR 44, aJ, aI (n : Int), aI (fS (sd M) (jg M) (xP M - 1) (xN M) g i), aI (i : Int)] [] (am_ob M 44 f) := by
    intro k
    induction k with
    | zero =>
      intro i f hi hf
      have e : i = n := by omega
      rw [e] at hf ⊢
      exact g12_fairsOf_10 ⟨fun _ => h f hf, fun hc => absurd hc (by omega)⟩
    | succ k ih =>
      intro i f hi hf
      refine g12_fairsOf_10 ⟨fun hc => absurd hc (by omega), fun _ => ct_tears12 hR hJ.2.2.1 hB hf.r (fun f' hf' h25 => ?_)⟩
      have r1 := fS_rng (D := sd M) (G := jg M) (p := xP M - 1) (n := xN M) (g := g) (by omega) i
      have r2 := fS_rng (D := sd M) (G := jg M) (p := xP M - 1) (n := xN M) (g := g) (by omega) (i + 1)
      have e : fS (sd M) (jg M) (xP M - 1) (xN M) g (i + 1) = fS (sd M) (jg M) (xP M - 1) (xN M) g i + tFa (sd M) (jg M) (xP M - 1) (xN M) (fG (sd M) (jg M) (xP M - 1) (xN M) i g) 4 := rfl
      rw [ob_eq, h25, ← e]
      refine ⟨by omega, fun x6 hx6 => ⟨by omega, ?_⟩⟩
      rw [hx6]
      exact ih (i + 1) f' (by omega) hf'.w
  refine e12_fairsOf ?_
  rw [up_as]
  exact loop n 0 _ (by omega) ⟨by rw [set_eq]; exact hg.symm, fun i a b c e => set_ne a⟩
theorem lc_fairs {M : am_M} {v1 v2 : Int} (hJ : J M) : S11_fairs [aR 0, aI v1, aI v2] M (fun r1 M1 => S12_fairs [aR 44, aI v1, aI v2] M1 (fun r2 M2 => eqI r1 r2 ∧ J M2)) := by
  have bad : ¬ (1 ≤ v2 ∧ v2 ≤ 60) → S12_fairs [aR 44, aI v1, aI v2] M (fun r2 M2 => eqI (aI (-2)) r2 ∧ J M2) := by
    intro hb
    exact e12_fairs (ct_reads hJ.1 (fun M1 hs hR => ⟨fun hc => absurd hc (by omega), fun _ => ⟨⟨_, rfl, rfl⟩, hJ.sc hs⟩⟩))
  refine e11_fairs ⟨fun h => bad (by omega), fun h => ⟨fun h3 => ?_, fun h3 => bad (by omega)⟩⟩
  obtain ⟨n, hn⟩ : ∃ n : Nat, v2 = n := ⟨v2.toNat, by omega⟩
  subst hn
  have hp := xP_le hJ.1.1.1
  have ref : ∀ v : Int, v = fS (sd M) (jg M) (xP M - 1) (xN M) (am_set (M 23) 0 v1) n → ∀ G, S12_fairs [aR 44, aI v1, aI (n : Int)] (am_ob M 23 G) (fun r2 M2 => eqI (aI v) r2 ∧ J M2) := by
    intro v hv G
    have s1 : sc M (am_ob M 23 G) := sc_ob (by unfold keep; decide) (by decide)
    refine e12_fairs (ct_reads (hJ.sc s1).1 (fun M2 hs hR => ⟨fun _ => ?_, fun hc => absurd hc (by omega)⟩))
    have s2 := s1.tr hs
    have hJ2 := hJ.sc s2
    refine ct_fairsOf (g := am_set (M 23) 0 v1) hJ2 hR set_eq (by omega) (fun f hf => ⟨_, rfl, ⟨_, rfl, ?_⟩, hJ2.sc hf.sc⟩)
    rw [hv, sc_sdf s2, s2.jgf, s2.be.P, s2.be.N]
  have loop : ∀ (k i : Nat), i + k = n → am_R K11_fairs (fun r1 M1 => S12_fairs [aR 44, aI v1, aI (n : Int)] M1 (fun r2 M2 => eqI r1 r2 ∧ J M2)) 27 [aR 0, aJ, aI (n : Int), aI (fS (sd M) (jg M) (xP M - 1) (xN M) (am_set (M 23) 0 v1) i), aI (i : Int)] [] (am_ob M 23 (fG (sd M) (jg M) (xP M - 1) (xN M) i (am_set (M 23) 0 v1))) := by
    intro k
    induction k with
    | zero =>
      intro i hi
      have e : i = n := by omega
      rw [e]
      exact g11_fairs_27 ⟨fun _ => ref _ rfl _, fun hc => absurd hc (by omega)⟩
    | succ k ih =>
      intro i hi
      refine g11_fairs_27 ⟨fun hc => absurd hc (by omega), fun _ => ct_goFair hJ ?_⟩
      have r2 := fS_rng (D := sd M) (G := jg M) (p := xP M - 1) (n := xN M) (g := am_set (M 23) 0 v1) (by omega) (i + 1)
      have e : fS (sd M) (jg M) (xP M - 1) (xN M) (am_set (M 23) 0 v1) (i + 1) = fS (sd M) (jg M) (xP M - 1) (xN M) (am_set (M 23) 0 v1) i + tFa (sd M) (jg M) (xP M - 1) (xN M) (fG (sd M) (jg M) (xP M - 1) (xN M) i (am_set (M 23) 0 v1)) 4 := rfl
      rw [ob_eq, ← e]
      refine ⟨by omega, fun x6 hx6 => ⟨by omega, ?_⟩⟩
      rw [hx6]
      exact ih (i + 1) (by omega)
  rw [up_as]
  exact loop n 0 (by omega)
