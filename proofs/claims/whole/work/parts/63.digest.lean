/-! digest -/
def hs_ (h a : Int) : Int := w64 (w64 (31 * h) + a)
def hF_ (A : Nat → Int) : Nat → Int → Int
  | 0, h => h
  | k + 1, h => hs_ (hF_ A k h) (A k)
noncomputable def hP1 (M : am_M) (p : Nat) (h : Int) : Int := hs_ (hs_ (hs_ (hs_ h (f_11_order (M 15) (M 19) (p : Int))) (skA M p (-2))) (skA M p (-1))) (skA M p 0)
noncomputable def hP_ (M : am_M) : Nat → Int → Int
  | 0, h => h
  | p + 1, h => hP1 M p (hP_ M p h)
theorem f11_co {M N : am_M} (s : sc1 M N) (v : Int) : f_11_count (N 7) (N 15) (N 20) (N 1) (N 3) (N 5) (N 27) (N 0) v = cA M v := cA_co s v
theorem cl_persons {M : am_M} (hJ : J M) (h : Int) : aC S11_withPersons [aR 0, aL h] M (aL (hP_ M 5 h)) := by
  intro N q hN s k
  have loop : ∀ (a p : Nat) (N : am_M), p + a = 5 → J N → sc1 M N → am_R K11_withPersons q 5 [aR 0, aJ, aJ, aL (hP_ M p h), aJ, aI (p : Int), aJ] [] N := by
    intro a
    induction a with
    | zero =>
      intro p N hp hN s
      have e : p = 5 := by omega
      subst e
      exact g11_withPersons_5 ⟨fun _ => k N hN s, fun hc => absurd hc (by omega)⟩
    | succ a ih =>
      intro p N hp hN s
      refine g11_withPersons_5 ⟨fun hc => absurd hc (by omega), fun _ x2 hx2 => ?_⟩
      rw [s.k (o := 15) (by unfold keep; decide) (by decide), s.k (o := 19) (by unfold keep; decide) (by decide)] at hx2
      have e2 : x2 = hs_ (hP_ M p h) (f_11_order (M 15) (M 19) (p : Int)) := hx2
      rw [e2]
      refine g11_withPersons_29 ⟨fun hc => absurd hc (by omega), fun _ => cl_seek hJ (by omega) (by omega) N _ hN s (fun N1 hN1 s1 => ⟨_, rfl, fun x6 hx6 => ⟨by omega, ?_⟩⟩)⟩
      refine g11_withPersons_29 ⟨fun hc => absurd hc (by omega), fun _ => cl_seek hJ (by omega) (by omega) N1 _ hN1 s1 (fun N2 hN2 s2 => ⟨_, rfl, fun x7 hx7 => ⟨by omega, ?_⟩⟩)⟩
      refine g11_withPersons_29 ⟨fun hc => absurd hc (by omega), fun _ => cl_seek hJ (by omega) (by omega) N2 _ hN2 s2 (fun N3 hN3 s3 => ⟨_, rfl, fun x8 hx8 => ⟨by omega, ?_⟩⟩)⟩
      refine g11_withPersons_29 ⟨fun _ => ⟨by omega, ?_⟩, fun hc => absurd hc (by omega)⟩
      have e8 : x8 = hP_ M (p + 1) h := by rw [hx8, hx7, hx6]; rfl
      rw [e8]
      exact ih (p + 1) N3 (by omega) hN3 s3
  exact e11_withPersons (loop 5 0 N (by omega) hN s)
noncomputable def hW_ (M : am_M) (h : Int) : Int := hs_ (hF_ (fun k => beA M ((k : Int) - 1)) 6 (hF_ (fun k => eaA M 0 9 ((k : Int) - 2)) 4 (hs_ h (nrA M 0 9)))) (hoB M)
theorem cl_ways {M : am_M} (h : Int) : aC S11_withWays [aR 0, aL h] M (aL (hW_ M h)) := by
  intro N q hN s k
  refine e11_withWays (cl_near N _ hN s (fun N1 hN1 s1 => ⟨_, rfl, fun x5 hx5 => ?_⟩))
  have e5 : x5 = hs_ h (nrA M 0 9) := hx5
  rw [e5]
  have loop2 : ∀ (a i : Nat) (N : am_M), i + a = 6 → J N → sc1 M N → am_R K11_withWays q 51 [aR 0, aJ, aJ, aL (hF_ (fun k => beA M ((k : Int) - 1)) i (hF_ (fun k => eaA M 0 9 ((k : Int) - 2)) 4 (hs_ h (nrA M 0 9)))), aJ, aI ((i : Int) - 1)] [] N := by
    intro a
    induction a with
    | zero =>
      intro i N hi hN s
      have e : i = 6 := by omega
      subst e
      exact g11_withWays_51 ⟨fun _ => cl_holds N _ hN s (fun N' hN' s' => ⟨_, rfl, k N' hN' s'⟩), fun hc => absurd hc (by omega)⟩
    | succ a ih =>
      intro i N hi hN s
      refine g11_withWays_51 ⟨fun hc => absurd hc (by omega), fun _ => cl_best (by omega) N _ hN s (fun N' hN' s' => ⟨_, rfl, fun x10 hx10 => ⟨by omega, ?_⟩⟩)⟩
      have := ih (i + 1) N' (by omega) hN' s'
      rw [hx10, show (i : Int) - 1 + 1 = ((i + 1 : Nat) : Int) - 1 by omega]
      exact this
  have loop1 : ∀ (a i : Nat) (N : am_M), i + a = 4 → J N → sc1 M N → am_R K11_withWays q 19 [aR 0, aJ, aJ, aL (hF_ (fun k => eaA M 0 9 ((k : Int) - 2)) i (hs_ h (nrA M 0 9))), aJ, aI ((i : Int) - 2)] [] N := by
    intro a
    induction a with
    | zero =>
      intro i N hi hN s
      have e : i = 4 := by omega
      subst e
      exact g11_withWays_19 ⟨fun _ => loop2 6 0 N (by omega) hN s, fun hc => absurd hc (by omega)⟩
    | succ a ih =>
      intro i N hi hN s
      refine g11_withWays_19 ⟨fun hc => absurd hc (by omega), fun _ => cl_easy (by omega) N _ hN s (fun N' hN' s' => ⟨_, rfl, fun x6 hx6 => ⟨by omega, ?_⟩⟩)⟩
      have := ih (i + 1) N' (by omega) hN' s'
      rw [hx6, show (i : Int) - 2 + 1 = ((i + 1 : Nat) : Int) - 2 by omega]
      exact this
  exact loop1 4 0 N1 (by omega) hN1 s1
noncomputable def hT_ (M : am_M) (h : Int) : Int := hs_ (hF_ (fun k => isA M 0 3 1 (k : Int)) 2 (hs_ (hF_ (fun k => toA M 7 (k : Int)) 4 h) (faA M 7 9))) (liA M 0 4)
theorem cl_tearing {M : am_M} (h : Int) : aC S11_withTearing [aR 0, aL h] M (aL (hT_ M h)) := by
  intro N q hN s k
  have loop : ∀ (a i : Nat) (N : am_M), i + a = 4 → J N → sc1 M N → am_R K11_withTearing q 5 [aR 0, aJ, aJ, aL (hF_ (fun k => toA M 7 (k : Int)) i h), aJ, aI (i : Int)] [] N := by
    intro a
    induction a with
    | zero =>
      intro i N hi hN s
      have e : i = 4 := by omega
      subst e
      refine g11_withTearing_5 ⟨fun _ => cl_fairs (n := 9) (by omega) N _ hN s (fun N1 hN1 s1 => ⟨_, rfl, fun x6 hx6 => ?_⟩), fun hc => absurd hc (by omega)⟩
      refine cl_is (n := 3) (by omega) (Or.inl rfl) N1 _ hN1 s1 (fun N2 hN2 s2 => ⟨_, rfl, fun x11 hx11 => ?_⟩)
      refine cl_is (n := 3) (by omega) (Or.inr rfl) N2 _ hN2 s2 (fun N3 hN3 s3 => ⟨_, rfl, fun x16 hx16 => ?_⟩)
      refine cl_li (n := 4) (by omega) N3 _ hN3 s3 (fun N4 hN4 s4 => ⟨_, rfl, ?_⟩)
      have := k N4 hN4 s4
      rw [hx16, hx11, hx6]
      exact this
    | succ a ih =>
      intro i N hi hN s
      refine g11_withTearing_5 ⟨fun hc => absurd hc (by omega), fun _ => cl_torn (by omega) N _ hN s (fun N' hN' s' => ⟨_, rfl, fun x25 hx25 => ⟨by omega, ?_⟩⟩)⟩
      rw [hx25]
      exact ih (i + 1) N' (by omega) hN' s'
  exact e11_withTearing (loop 4 0 N (by omega) hN s)
noncomputable def hS_ (M : am_M) (v h : Int) : Int := hs_ (hF_ (fun k => meA M 7 (k : Int)) 2 (hF_ (fun k => pA M 0 1 (k : Int)) 3 h)) v
theorem cl_seeking {M : am_M} (hJ : J M) {v : Int} (hv : ∀ (M : am_M) (q : am_Q), q (aI v) M → S11_counts [aR 0, aI 60, aI 3, aI 2] M q) (h : Int) : aC S11_withSeeking [aR 0, aL h] M (aL (hS_ M v h)) := by
  intro N q hN s k
  have loop : ∀ (a i : Nat) (N : am_M), i + a = 3 → J N → sc1 M N → am_R K11_withSeeking q 5 [aR 0, aJ, aJ, aL (hF_ (fun k => pA M 0 1 (k : Int)) i h), aJ, aI (i : Int)] [] N := by
    intro a
    induction a with
    | zero =>
      intro i N hi hN s
      have e : i = 3 := by omega
      subst e
      refine g11_withSeeking_5 ⟨fun _ => cl_meet (by omega) (Or.inl rfl) N _ hN s (fun N1 hN1 s1 => ⟨_, rfl, fun x6 hx6 => ?_⟩), fun hc => absurd hc (by omega)⟩
      refine cl_meet (by omega) (Or.inr rfl) N1 _ hN1 s1 (fun N2 hN2 s2 => ⟨_, rfl, fun x11 hx11 => hv N2 _ ⟨_, rfl, ?_⟩⟩)
      have := k N2 hN2 s2
      rw [hx11, hx6]
      exact this
    | succ a ih =>
      intro i N hi hN s
      refine g11_withSeeking_5 ⟨fun hc => absurd hc (by omega), fun _ => cl_parted (a := 0) (b := 1) hJ (by omega) (by omega) (by omega) (by omega) N _ hN s (fun N' hN' s' => ⟨_, rfl, fun x20 hx20 => ⟨by omega, ?_⟩⟩)⟩
      rw [hx20]
      exact ih (i + 1) N' (by omega) hN' s'
  exact e11_withSeeking (loop 3 0 N (by omega) hN s)
noncomputable def h33 (M : am_M) : Int := hF_ (fun t => M (1 + 2 * t) 3) 3 (hF_ (fun k => cA M (k : Int)) 8 17)
noncomputable def h111 (M : am_M) : Int := hs_ (hs_ (hs_ (hs_ (h33 M) (f_11_judged (M 20))) (atA M)) (jls M (xP M - 1))) (sds M (xN M) * jls M (xP M - 1))
noncomputable def h136 (M : am_M) : Int := hF_ (fun w => lkA M (w : Int)) 2 (h111 M)
noncomputable def diA (M : am_M) (v : Int) : Int := hS_ M v (hT_ M (hW_ M (hP_ M 5 (h136 M))))
theorem cl_digest {M : am_M} (hJ : J M) {v : Int} (hv : ∀ (M : am_M) (q : am_Q), q (aI v) M → S11_counts [aR 0, aI 60, aI 3, aI 2] M q) : aC S11_digest [aR 0] M (aL (diA M v)) := by
  intro N q hN s k
  have faults : ∀ (a i : Nat) (N : am_M), i + a = 3 → J N → sc1 M N → am_R K11_digest q 33 [aR 0, aL (hF_ (fun t => M (1 + 2 * t) 3) i (hF_ (fun k => cA M (k : Int)) 8 17)), aJ, aI (i : Int)] [] N := by
    intro a
    induction a with
    | zero =>
      intro i N hi hN s
      have e : i = 3 := by omega
      subst e
      refine g11_digest_33 ⟨fun _ x2 hx2 x3 hx3 => ?_, fun hc => absurd hc (by omega)⟩
      rw [s.k (o := 20) (by unfold keep; decide) (by decide)] at hx2 hx3
      rw [s.k (o := 8) (by unfold keep; decide) (by decide), s.k (o := 22) (by unfold keep; decide) (by decide)] at hx3
      refine cl_loose N _ hN s (fun N1 hN1 s1 => ⟨_, rfl, fun x8 hx8 => ?_⟩)
      refine cl_risk N1 _ hN1 s1 (fun N2 hN2 s2 => ⟨_, rfl, fun x13 hx13 => ?_⟩)
      refine cl_alike (Or.inl rfl) N2 _ hN2 s2 (fun N3 hN3 s3 => ⟨_, rfl, fun x18 hx18 => ?_⟩)
      refine cl_alike (Or.inr rfl) N3 _ hN3 s3 (fun N4 hN4 s4 => ⟨_, rfl, fun x23 hx23 => ?_⟩)
      have e23 : x23 = h136 M := by rw [hx23, hx18, hx13, hx8, hx3, hx2]; rfl
      rw [e23]
      refine cl_persons hJ _ N4 _ hN4 s4 (fun N5 hN5 s5 => ⟨_, rfl, ?_⟩)
      refine cl_ways _ N5 _ hN5 s5 (fun N6 hN6 s6 => ⟨_, rfl, ?_⟩)
      refine cl_tearing _ N6 _ hN6 s6 (fun N7 hN7 s7 => ⟨_, rfl, ?_⟩)
      exact cl_seeking hJ hv _ N7 _ hN7 s7 (fun N8 hN8 s8 => ⟨_, rfl, k N8 hN8 s8⟩)
    | succ a ih =>
      intro i N hi hN s
      refine g11_digest_33 ⟨fun hc => absurd hc (by omega), fun _ => cl_fault (by omega) N _ hN s (fun N' hN' s' => ⟨_, rfl, fun x44 hx44 => ⟨by omega, ?_⟩⟩)⟩
      have e := ih (i + 1) N' (by omega) hN' s'
      rw [hx44]
      exact e
  have counts : ∀ (a i : Nat), i + a = 8 → am_R K11_digest q 6 [aR 0, aL (hF_ (fun k => cA M (k : Int)) i 17), aJ, aI (i : Int)] [] N := by
    intro a
    induction a with
    | zero =>
      intro i hi
      have e : i = 8 := by omega
      subst e
      exact g11_digest_6 ⟨fun _ => faults 3 0 N (by omega) hN s, fun hc => absurd hc (by omega)⟩
    | succ a ih =>
      intro i hi
      refine g11_digest_6 ⟨fun hc => absurd hc (by omega), fun _ x2 hx2 => ⟨by omega, ?_⟩⟩
      rw [f11_co s] at hx2
      rw [hx2]
      exact ih (i + 1) (by omega)
  exact e11_digest (counts 8 0 (by omega))
theorem rf_digest {M : am_M} (hJ : J M) {v : Int} (hv : ∀ (M : am_M) (q : am_Q), q (aI v) M → S12_countsOf [aI 60, aI 3, aI 2] M q) : aM S12_digest [aR 44] M (aL (diA M v)) := by
  intro N q hN s k
  -- from the end on
  have l403 : ∀ (a i : Nat) (N : am_M), i + a = 2 → J N → RD N → sc1 M N → am_R K12_digest q 403 [aR 44, aL (hF_ (fun k => meA M 7 (k : Int)) i (hF_ (fun k => pA M 0 1 (k : Int)) 3 (hT_ M (hW_ M (hP_ M 5 (h136 M)))))), aJ, aI (i : Int)] [] N := by
    intro a
    induction a with
    | zero =>
      intro i N hi hN hR s
      have e : i = 2 := by omega
      subst e
      exact g12_digest_403 ⟨fun _ => hv N _ ⟨_, rfl, k N hN hR s⟩, fun hc => absurd hc (by omega)⟩
    | succ a ih =>
      intro i N hi hN hR s
      refine g12_digest_403 ⟨fun hc => absurd hc (by omega), fun _ => rd_meet (by omega) N _ hN hR s (fun N' hN' hR' s' => ⟨_, rfl, fun x10 hx10 => ⟨by omega, ?_⟩⟩)⟩
      rw [hx10]
      exact ih (i + 1) N' (by omega) hN' hR' s'
  have l376 : ∀ (a i : Nat) (N : am_M), i + a = 3 → J N → RD N → sc1 M N → am_R K12_digest q 376 [aR 44, aL (hF_ (fun k => pA M 0 1 (k : Int)) i (hT_ M (hW_ M (hP_ M 5 (h136 M))))), aJ, aI (i : Int)] [] N := by
    intro a
    induction a with
    | zero =>
      intro i N hi hN hR s
      have e : i = 3 := by omega
      subst e
      exact g12_digest_376 ⟨fun _ => l403 2 0 N (by omega) hN hR s, fun hc => absurd hc (by omega)⟩
    | succ a ih =>
      intro i N hi hN hR s
      refine g12_digest_376 ⟨fun hc => absurd hc (by omega), fun _ => rf_parted (a := 0) (b := 1) hJ (by omega) (by omega) N _ hN hR s (fun N' hN' hR' s' => ⟨_, rfl, fun x6 hx6 => ⟨by omega, ?_⟩⟩)⟩
      rw [hx6]
      exact ih (i + 1) N' (by omega) hN' hR' s'
  have l334 : ∀ (a i : Nat) (N : am_M), i + a = 2 → J N → RD N → sc1 M N → am_R K12_digest q 334 [aR 44, aL (hF_ (fun k => isA M 0 3 1 (k : Int)) i (hs_ (hF_ (fun k => toA M 7 (k : Int)) 4 (hW_ M (hP_ M 5 (h136 M)))) (faA M 7 9))), aJ, aI (i : Int)] [] N := by
    intro a
    induction a with
    | zero =>
      intro i N hi hN hR s
      have e : i = 2 := by omega
      subst e
      refine g12_digest_334 ⟨fun _ => rm_li (n := 4) (by omega) N _ hN s (fun N' hN' hR' s' => ⟨_, rfl, fun x6 hx6 => ?_⟩), fun hc => absurd hc (by omega)⟩
      have e6 : x6 = hT_ M (hW_ M (hP_ M 5 (h136 M))) := hx6
      rw [e6]
      exact l376 3 0 N' (by omega) hN' hR' s'
    | succ a ih =>
      intro i N hi hN hR s
      refine g12_digest_334 ⟨fun hc => absurd hc (by omega), fun _ => rm_is (n := 3) (by omega) (by omega) N _ hN s (fun N' hN' hR' s' => ⟨_, rfl, fun x11 hx11 => ⟨by omega, ?_⟩⟩)⟩
      rw [hx11]
      exact ih (i + 1) N' (by omega) hN' hR' s'
  have l290 : ∀ (a i : Nat) (N : am_M), i + a = 4 → J N → RD N → sc1 M N → am_R K12_digest q 290 [aR 44, aL (hF_ (fun k => toA M 7 (k : Int)) i (hW_ M (hP_ M 5 (h136 M)))), aJ, aI (i : Int)] [] N := by
    intro a
    induction a with
    | zero =>
      intro i N hi hN hR s
      have e : i = 4 := by omega
      subst e
      refine g12_digest_290 ⟨fun _ => rd_fairs (n := 9) (by omega) N _ hN hR s (fun N' hN' hR' s' => ⟨_, rfl, fun x6 hx6 => ?_⟩), fun hc => absurd hc (by omega)⟩
      rw [hx6]
      exact l334 2 0 N' (by omega) hN' hR' s'
    | succ a ih =>
      intro i N hi hN hR s
      refine g12_digest_290 ⟨fun hc => absurd hc (by omega), fun _ => rd_torn N _ hN hR s (fun N' hN' hR' s' => ⟨_, rfl, fun x11 hx11 => ⟨by omega, ?_⟩⟩)⟩
      rw [hx11]
      exact ih (i + 1) N' (by omega) hN' hR' s'
  have l247 : ∀ (a i : Nat) (N : am_M), i + a = 6 → J N → RD N → sc1 M N → am_R K12_digest q 247 [aR 44, aL (hF_ (fun k => beA M ((k : Int) - 1)) i (hF_ (fun k => eaA M 0 9 ((k : Int) - 2)) 4 (hs_ (hP_ M 5 (h136 M)) (nrA M 0 9)))), aJ, aI ((i : Int) - 1)] [] N := by
    intro a
    induction a with
    | zero =>
      intro i N hi hN hR s
      have e : i = 6 := by omega
      subst e
      refine g12_digest_247 ⟨fun _ => rm_holds N _ hN s (fun N' hN' hR' s' => ⟨_, rfl, fun x6 hx6 => ?_⟩), fun hc => absurd hc (by omega)⟩
      have e6 : x6 = hW_ M (hP_ M 5 (h136 M)) := hx6
      rw [e6]
      exact l290 4 0 N' (by omega) hN' hR' s'
    | succ a ih =>
      intro i N hi hN hR s
      refine g12_digest_247 ⟨fun hc => absurd hc (by omega), fun _ => rd_best (by omega) N _ hN hR s (fun N' hN' hR' s' => ⟨_, rfl, fun x11 hx11 => ⟨by omega, ?_⟩⟩)⟩
      have := ih (i + 1) N' (by omega) hN' hR' s'
      rw [hx11, show (i : Int) - 1 + 1 = ((i + 1 : Nat) : Int) - 1 by omega]
      exact this
  have l218 : ∀ (a i : Nat) (N : am_M), i + a = 4 → J N → RD N → sc1 M N → am_R K12_digest q 218 [aR 44, aL (hF_ (fun k => eaA M 0 9 ((k : Int) - 2)) i (hs_ (hP_ M 5 (h136 M)) (nrA M 0 9))), aJ, aI ((i : Int) - 2)] [] N := by
    intro a
    induction a with
    | zero =>
      intro i N hi hN hR s
      have e : i = 4 := by omega
      subst e
      exact g12_digest_218 ⟨fun _ => l247 6 0 N (by omega) hN hR s, fun hc => absurd hc (by omega)⟩
    | succ a ih =>
      intro i N hi hN hR s
      refine g12_digest_218 ⟨fun hc => absurd hc (by omega), fun _ => rm_easy (by omega) N _ hN s (fun N' hN' hR' s' => ⟨_, rfl, fun x6 hx6 => ⟨by omega, ?_⟩⟩)⟩
      have := ih (i + 1) N' (by omega) hN' hR' s'
      rw [hx6, show (i : Int) - 2 + 1 = ((i + 1 : Nat) : Int) - 2 by omega]
      exact this
  have l136 : ∀ (a p : Nat) (N : am_M), p + a = 5 → J N → RD N → sc1 M N → am_R K12_digest q 136 [aR 44, aL (hP_ M p (h136 M)), aJ, aI (p : Int)] [] N := by
    intro a
    induction a with
    | zero =>
      intro p N hp hN hR s
      have e : p = 5 := by omega
      subst e
      refine g12_digest_136 ⟨fun _ => rm_near N _ hN s (fun N' hN' hR' s' => ⟨_, rfl, fun x6 hx6 => ?_⟩), fun hc => absurd hc (by omega)⟩
      have e6 : x6 = hs_ (hP_ M 5 (h136 M)) (nrA M 0 9) := hx6
      rw [e6]
      exact l218 4 0 N' (by omega) hN' hR' s'
    | succ a ih =>
      intro p N hp hN hR s
      have ho := ord_eq hN hR s (i := p) (by omega)
      refine g12_digest_136 ⟨fun hc => absurd hc (by omega), fun _ => ⟨ho.1, fun x7 hx7 => ?_⟩⟩
      rw [ho.2] at hx7
      refine rd_seek hJ (by omega) (by omega) N _ hN hR s (fun N1 hN1 hR1 s1 => ⟨_, rfl, fun x12 hx12 => ?_⟩)
      refine rd_seek hJ (by omega) (by omega) N1 _ hN1 hR1 s1 (fun N2 hN2 hR2 s2 => ⟨_, rfl, fun x17 hx17 => ?_⟩)
      refine rd_seek hJ (by omega) (by omega) N2 _ hN2 hR2 s2 (fun N3 hN3 hR3 s3 => ⟨_, rfl, fun x22 hx22 => ⟨by omega, ?_⟩⟩)
      have e22 : x22 = hP_ M (p + 1) (h136 M) := by rw [hx22, hx17, hx12, hx7]; rfl
      rw [e22]
      exact ih (p + 1) N3 (by omega) hN3 hR3 s3
  have l111 : ∀ (a i : Nat) (N : am_M), i + a = 2 → J N → RD N → sc1 M N → am_R K12_digest q 111 [aR 44, aL (hF_ (fun w => lkA M (w : Int)) i (h111 M)), aJ, aI (i : Int)] [] N := by
    intro a
    induction a with
    | zero =>
      intro i N hi hN hR s
      have e : i = 2 := by omega
      subst e
      exact g12_digest_111 ⟨fun _ => l136 5 0 N (by omega) hN hR s, fun hc => absurd hc (by omega)⟩
    | succ a ih =>
      intro i N hi hN hR s
      refine g12_digest_111 ⟨fun hc => absurd hc (by omega), fun _ => rd_alike N _ hN hR s (fun N' hN' hR' s' => ⟨_, rfl, fun x6 hx6 => ⟨by omega, ?_⟩⟩)⟩
      rw [hx6]
      exact ih (i + 1) N' (by omega) hN' hR' s'
  have l33 : ∀ (a i : Nat) (N : am_M), i + a = 3 → J N → sc1 M N → am_R K12_digest q 33 [aR 44, aL (hF_ (fun t => M (1 + 2 * t) 3) i (hF_ (fun k => cA M (k : Int)) 8 17)), aJ, aI (i : Int)] [] N := by
    intro a
    induction a with
    | zero =>
      intro i N hi hN s
      have e : i = 3 := by omega
      subst e
      refine g12_digest_33 ⟨fun _ => rm_judged N _ hN s (fun N1 hN1 hR1 s1 => ⟨_, rfl, fun x6 hx6 => ?_⟩), fun hc => absurd hc (by omega)⟩
      refine rm_at hJ hN1 hR1 s1 (fun N2 hN2 hR2 s2 => ⟨_, rfl, fun x11 hx11 => ?_⟩)
      refine rd_loose N2 _ hN2 hR2 s2 (fun N3 hN3 hR3 s3 => ⟨_, rfl, fun x16 hx16 => ?_⟩)
      refine rd_risk N3 _ hN3 hR3 s3 (fun N4 hN4 hR4 s4 => ⟨_, rfl, fun x21 hx21 => ?_⟩)
      have e21 : x21 = h111 M := by rw [hx21, hx16, hx11, hx6]; rfl
      rw [e21]
      exact l111 2 0 N4 (by omega) hN4 hR4 s4
    | succ a ih =>
      intro i N hi hN s
      refine g12_digest_33 ⟨fun hc => absurd hc (by omega), fun _ => rc_fault (by omega) N _ hN s (fun N' hN' s' => ⟨_, rfl, fun x26 hx26 => ⟨by omega, ?_⟩⟩)⟩
      rw [hx26]
      exact ih (i + 1) N' (by omega) hN' s'
  have l6 : ∀ (a i : Nat) (N : am_M), i + a = 8 → J N → sc1 M N → am_R K12_digest q 6 [aR 44, aL (hF_ (fun k => cA M (k : Int)) i 17), aJ, aI (i : Int)] [] N := by
    intro a
    induction a with
    | zero =>
      intro i N hi hN s
      have e : i = 8 := by omega
      subst e
      exact g12_digest_6 ⟨fun _ => l33 3 0 N (by omega) hN s, fun hc => absurd hc (by omega)⟩
    | succ a ih =>
      intro i N hi hN s
      refine g12_digest_6 ⟨fun hc => absurd hc (by omega), fun _ => rc_count N _ hN s (fun N' hN' s' => ⟨_, rfl, fun x6 hx6 => ⟨by omega, ?_⟩⟩)⟩
      rw [hx6]
      exact ih (i + 1) N' (by omega) hN' s'
  exact e12_digest (l6 8 0 N (by omega) hN s)
theorem lc_digest {M : am_M} (hJ : J M) : S11_digest [aR 0] M (fun r1 M1 => S12_digest [aR 44] M1 (fun r2 M2 => eqL r1 r2 ∧ J M2)) := by
  obtain ⟨v, h1, h2⟩ := pr_counts
  exact lcL hJ (cl_digest hJ h1) (rf_digest hJ h2)
