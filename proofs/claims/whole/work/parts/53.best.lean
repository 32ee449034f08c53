/-! best: alike -/
theorem bits_fin : ∀ s : Fin 32, f_J_bits (s.val : Int) = cb (s.val : Int) := by decide +kernel
theorem rmsub_fin : ∀ s : Fin 32, ∀ d e : Fin 5, ¬ am_and (am_shr (am_and (s.val : Int) (am_xor (am_shl 1 (d.val : Int)) (-1))) (e.val : Int)) 1 = 0 → ¬ am_and (am_shr (s.val : Int) (e.val : Int)) 1 = 0 := by decide +kernel
theorem rm_sub {s d e : Nat} (hs : s < 32) (hd : d < 5) (he : e < 5) (h : hasB (rm s d) e) : hasB s e := by
  unfold hasB at *
  rw [(rm_f hs hd).1] at h
  exact rmsub_fin ⟨s, hs⟩ ⟨d, hd⟩ ⟨e, he⟩ h
theorem cst_congr {lg lg' : Nat → Nat → Int} {W W' : Nat → Int} {P : Nat → Prop} {f0 f1 : Nat} : ∀ m f s c : Nat, (f = f0 ∨ P f) → (∀ g d, (g = f0 ∨ P g) → d < 5 → P d → lg g d = lg' (if g = f0 then f1 else g) d) → (¬ P f0) → (∀ s, s < 32 → W s = W' s) → s < 32 → c < 5 ^ m → vl m s c → (∀ d, d < 5 → hasB s d → P d) → cst lg W m f s c = cst lg' W' m (if f = f0 then f1 else f) s c := by
  intro m
  induction m with
  | zero => intro f s c _ _ _ _ _ _ _ _; rfl
  | succ m ih =>
    intro f s c hf hl hf0 hW hs hc hv hP
    have hd := dg_lt hc
    have hPd := hP _ hd hv.1
    have hne : ¬ c / 5 ^ m = f0 := fun e => hf0 (e ▸ hPd)
    have h1 := ih (c / 5 ^ m) (rm s (c / 5 ^ m)) (c % 5 ^ m) (Or.inr hPd) hl hf0 hW (rm_f hs hd).2.1 dg_mod hv.2 (fun e he hh => hP e he (rm_sub hs hd he hh))
    rw [if_neg hne] at h1
    rw [cst_s, cst_s, h1, hl f _ hf hd hPd, hW s hs]
theorem isB_congr {lg lg' : Nat → Nat → Int} {W W' : Nat → Int} {P : Nat → Prop} {f0 f1 m s c : Nat} {v : Int} (hl : ∀ g d, (g = f0 ∨ P g) → d < 5 → P d → lg g d = lg' (if g = f0 then f1 else g) d) (hf0 : ¬ P f0) (hW : ∀ s, s < 32 → W s = W' s) (hs : s < 32) (hP : ∀ d, d < 5 → hasB s d → P d) (h : isB lg W m f0 s v c) : isB lg' W' m f1 s v c := by
  obtain ⟨a1, a2, a3, a4, a5⟩ := h
  have key : ∀ k, k < 5 ^ m → vl m s k → cst lg W m f0 s k = cst lg' W' m f1 s k := by
    intro k hk hv
    have := cst_congr (lg := lg) (lg' := lg') (W := W) (W' := W') (P := P) (f0 := f0) (f1 := f1) m f0 s k (Or.inl rfl) hl hf0 hW hs hk hv hP
    rw [if_pos rfl] at this
    exact this
  refine ⟨a1, a2, by rw [← key c a1 a2]; exact a3, fun k hk hv => ?_, fun k hk hv => ?_⟩
  · rw [← key k hk hv]; exact a4 k hk hv
  · rw [← key k (by omega) hv]; exact a5 k hk hv
theorem J.leg {M : am_M} {L : Nat → Int} (hJ : J M) (hL : ∀ j, j < 35 → -1 ≤ L j ∧ L j ≤ 63) : J (am_ob M 31 L) := by
  obtain ⟨hT, hS, hG, hH, hP, hL', hE, hF⟩ := id hJ
  refine ⟨hT.congr (fun o ho => ob_ne (by omega)) (by rw [ob_ne (by decide)]), hS.congr ?_ ?_ ?_ ?_, hG.congr ?_ ?_, hH.congr ?_ ?_, hP.congr ?_ ?_, hL'.congr ?_ ?_ ?_ ?_ ?_, hE.congr (fun s hs => ⟨?_, ?_⟩) ?_ ?_ ?_, ?_⟩
  all_goals try (rw [ob_ne (by omega)])
  unfold JF
  rw [ob_ne (by decide), ob_ne (by decide), ob_eq]
  exact ⟨hF.1, hL⟩
theorem lc_best {M : am_M} {v1 v2 : Int} (hJ : J M) : S11_best [aR 0, aI v1, aI v2] M (fun r1 M1 => S12_best [aR 44, aI v1, aI v2] M1 (fun r2 M2 => eqI r1 r2 ∧ J M2)) := by
  have hG := hJ.2.2.1
  have bad : ¬ ((0 ≤ v1 ∧ v1 ≤ 31) ∧ 2 ≤ cb v1 ∧ (-1 ≤ v2 ∧ v2 ≤ 4)) → S12_best [aR 44, aI v1, aI v2] M (fun r2 M2 => eqI (aI (-2)) r2 ∧ J M2) := by
    intro hb
    refine e12_best ⟨fun h1 => ct_ones (by omega) ⟨_, rfl, fun _ => ⟨⟨_, rfl, rfl⟩, hJ⟩, fun h2 => ⟨fun h3 => absurd hb (by omega), fun _ => ⟨⟨_, rfl, rfl⟩, hJ⟩⟩⟩, fun _ => ⟨⟨_, rfl, rfl⟩, hJ⟩⟩
  have hbits : 0 ≤ v1 → v1 ≤ 31 → f_J_bits v1 = cb v1 := by
    intro a b
    obtain ⟨n, hn⟩ : ∃ n : Nat, v1 = n := ⟨v1.toNat, by omega⟩
    subst hn
    exact bits_fin ⟨n, by omega⟩
  refine e11_best ⟨fun h => bad (by omega), fun h => ⟨fun h2 => bad (by omega), fun h2 => ⟨fun h3 => bad (by have := hbits (by omega) (by omega); omega), fun h3 => ⟨fun h4 => bad (by omega), fun h4 => ⟨fun h5 => ?_, fun h5 => bad (by omega)⟩⟩⟩⟩⟩
  have hb := hbits (by omega) (by omega)
  obtain ⟨s, hs'⟩ : ∃ s : Nat, v1 = s := ⟨v1.toNat, by omega⟩
  subst hs'
  have hs : s < 32 := by omega
  have hcr := cb_rng (s : Int)
  refine ct_layOrders hG (fun L hL => ?_)
  have hLr : ∀ j, j < 35 → -1 ≤ L j ∧ L j ≤ 63 := by
    intro j hj
    have h1 := hL (j / 5) (j % 5) (by omega) (by omega)
    have h2 := lgO_rng hG (j / 5) (j % 5) (by omega) (by omega)
    rw [show j / 5 * 5 + j % 5 = j by omega] at h1
    omega
  have hJ0 : J (am_ob M 32 (am_fl (M 32) 32 1)) := hJ.sc (sc_ob (by unfold keep; decide) (by decide))
  have hJ1 := hJ0.leg hLr
  have hLB : LB (am_ob (am_ob M 32 (am_fl (M 32) 32 1)) 31 L) := by
    refine ⟨?_, fun t ht => ?_⟩
    · rw [ob_eq]; exact hLr
    · rw [ob_ne (by decide), ob_eq]; unfold am_fl; rw [if_pos ht]; decide
  have e31 : lgM (am_ob (am_ob M 32 (am_fl (M 32) 32 1)) 31 L) = fun f d => L (f * 5 + d) := by unfold lgM; rw [ob_eq]
  have e32 : ∀ t, t < 32 → (am_ob (am_ob M 32 (am_fl (M 32) 32 1)) 31 L) 32 t = 1 := by intro t ht; rw [ob_ne (by decide), ob_eq]; unfold am_fl; rw [if_pos ht]
  have e55 : (am_ob (am_ob M 32 (am_fl (M 32) 32 1)) 31 L) 55 = M 55 := by rw [ob_ne (by decide), ob_ne (by decide)]
  generalize am_ob (am_ob M 32 (am_fl (M 32) 32 1)) 31 L = N at *
  refine ct_solve hs hLB (fun T hT => ?_)
  have hJ2 : J (am_ob N 33 T) := hJ1.sc (sc_ob (by unfold keep; decide) (by decide))
  obtain ⟨c, hc⟩ := hT s hs (sub_self_fin ⟨s, hs⟩).1 5 (by omega)
  obtain ⟨n, hn⟩ : ∃ n : Nat, cb (s : Int) = n := ⟨(cb (s : Int)).toNat, by omega⟩
  have hnn : (cb (s : Int)).toNat = n := by omega
  have hB : isB (lgO (am_ob N 33 T)) (fun _ => 1) n 5 s (T (s * 7 + 5)) c := by
    rw [hnn] at hc
    refine isB_congr (P := fun d => d < 5) (f0 := 5) (f1 := 5) (fun g d hg hd _ => ?_) (by omega) e32 hs (fun d hd _ => hd) hc
    have e1 : (if g = 5 then 5 else g) = g := by split <;> omega
    rw [e1, e31]
    show L (g * 5 + d) = _
    rw [hL g d (by omega) hd]
    unfold lgO
    rw [ob_ne (by decide), e55]
  have ref : ∀ v : Int, v = (if v2 = -1 then T (s * 7 + 5) else an n c v2.toNat) → S12_best [aR 44, aI (s : Int), aI v2] (am_ob N 33 T) (fun r2 M2 => eqI (aI v) r2 ∧ J M2) := by
    intro v hv
    refine e12_best ⟨fun _ => ct_ones (by omega) ⟨_, rfl, fun hx => absurd hx (by omega), fun _ => ⟨fun _ => ?_, fun hx => absurd hx (by omega)⟩⟩, fun hx => absurd hx (by omega)⟩
    refine ct_bestOf hJ2.2.2.1 hs hn (by omega) (by omega) hB (fun g r => ⟨_, rfl, ⟨_, rfl, by rw [hv]⟩, ?_⟩)
    exact hJ2.sc ((sc_ob (by unfold keep; decide) (by decide)).tr (sc_ob (by unfold keep; decide) (by decide)))
  refine ⟨fun e => ref _ ?_, fun e => ?_⟩
  · rw [if_pos e, ob_eq]
    unfold f_6_leastFrom
    rw [if_neg (by omega), if_neg (by omega), if_neg (by omega), if_neg (by omega), show ((s : Int) * 7 + 5).toNat = s * 7 + 5 by omega]
  · obtain ⟨i, hi⟩ : ∃ i : Nat, v2 = i := ⟨v2.toNat, by omega⟩
    subst hi
    have hT2 : ∀ t, t < 32 → sub_ t s → tO (am_ob N 33 T) ((am_ob N 33 T) 33) t := by
      intro t ht hsub
      unfold tO
      rw [lgM_ob (by decide), ob_ne (by decide), ob_eq]
      exact hT t ht hsub
    refine ct_stopAt (i := i) (v := T (s * 7 + 5)) (c := c) hs (LB_ob (by decide) (by decide) hLB) hT2 (by rw [lgM_ob (by decide), ob_ne (by decide)]; exact hc) ⟨_, rfl, ref _ ?_⟩
    rw [if_neg (by omega), hnn]
    rfl
