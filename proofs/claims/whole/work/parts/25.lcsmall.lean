/-! fault, set, grip, person, read, look, forget -/
theorem JS.congr {M M' : am_M} (h : JS M) (e1 : M' 0 14 = M 0 14) (e2 : M' 0 15 = M 0 15) (e3 : M' 54 1 = M 54 1) (e4 : M' 54 2 = M 54 2) : JS M' := by
  unfold JS at *; rw [e1, e2, e3, e4]; exact h
theorem JG.congr {M M' : am_M} (h : JG M) (e1 : M' 16 = M 16) (e2 : M' 55 = M 55) : JG M' := by unfold JG at *; rw [e1, e2]; exact h
theorem JH.congr {M M' : am_M} (h : JH M) (e1 : M' 17 = M 17) (e2 : M' 56 = M 56) : JH M' := by unfold JH at *; rw [e1, e2]; exact h
theorem JP.congr {M M' : am_M} (h : JP M) (e1 : M' 18 = M 18) (e2 : M' 57 = M 57) : JP M' := by unfold JP at *; rw [e1, e2]; exact h
theorem JL.congr {M M' : am_M} (h : JL M) (e1 : M' 27 2 = M 27 2) (e2 : M' 44 28 = M 44 28) (e3 : M' 28 = M 28) (e4 : M' 29 = M 29) (e5 : M' 64 = M 64) : JL M' := by unfold JL at *; rw [e1, e2, e3, e4, e5]; exact h
theorem JE.congr {M M' : am_M} (h : JE M) (e : ∀ s, s < 4 → M' (35 + s) = M (35 + s) ∧ M' (35 + s + 4) = M (35 + s + 4)) (e5 : M' 45 = M 45) (e6 : M' 46 = M 46) (e7 : M' 47 = M 47) : JE M' := by
  intro s hs
  rw [(e s hs).1, (e s hs).2, e5, e6, e7]; exact h s hs
theorem JF.congr {M M' : am_M} (h : JF M) (e1 : M' 0 16 = M 0 16) (e2 : M' 44 4 = M 44 4) (e3 : M' 31 = M 31) : JF M' := by unfold JF at *; rw [e1, e2, e3]; exact h
theorem lc_fault {M : am_M} {v1 : Int} (hJ : J M) : S11_fault [aR 0, aI v1] M (fun r1 M1 => S12_fault [aR 44, aI v1] M1 (fun r2 M2 => eqI r1 r2 ∧ J M2)) := by
  obtain ⟨hT, -⟩ := id hJ
  have hv := hT.v
  obtain ⟨hC, hby, s0, s1, s2, r0, r1, r2, es⟩ := hT
  obtain ⟨hB, hF, hO, hW, hN⟩ := hC
  have n0 := hB.2.1
  have n1 := hB.2.2.1
  have n2 := hB.2.2.2.1
  have hn0 : M 50 0 = (xn0 M : Int) := by unfold xn0; omega
  have hn1 : M 50 1 = (xn1 M : Int) := by unfold xn1; omega
  have hn2 : M 50 2 = (xn2 M : Int) := by unfold xn2; omega
  have l0 : xn0 M ≤ 71 := by unfold xn0; omega
  have l1 : xn1 M ≤ 5 := by unfold xn1; omega
  have l2 : xn2 M ≤ 40 := by unfold xn2; omega
  refine e11_fault ⟨fun h1 => e12_fault ⟨fun _ => ⟨fun h2 => ?_, fun h2 => ⟨fun h3 => ?_, fun h3 => ?_⟩⟩, fun hc => absurd hc (by omega)⟩, fun h1 => e12_fault ⟨fun hc => absurd hc (by omega), fun _ => ⟨⟨_, rfl, rfl⟩, hJ⟩⟩⟩
  · subst h2
    refine ct_readsFair hn0 l0 (fun j hj => hby j (by omega)) (fun a g hg => ⟨_, rfl, ⟨_, rfl, ?_⟩, ?_⟩)
    · rw [hv.2.1]; exact congrArg aI hF.1.symm
    · refine hJ.sc ⟨fun o ho => ?_, ?_, ?_⟩
      · unfold keep at ho; rw [ob_ne (by omega), up_ne (by omega)]
      · rw [ob_ne (by decide), up_eq, set_ne (by decide)]
      · rw [ob_ne (by decide), up_eq, set_ne (by decide)]
  · subst h3
    refine ct_readsOrder hn1 l1 (fun i hi => hby (80 + i) (by omega)) (fun g hg => ⟨_, rfl, ⟨_, rfl, ?_⟩, ?_⟩)
    · rw [hv.2.2.1]; exact congrArg aI hO.1.symm
    · refine hJ.sc ⟨fun o ho => ?_, ?_, ?_⟩
      · unfold keep at ho; rw [ob_ne (by omega), up_ne (by omega)]
      · rw [ob_ne (by decide), up_eq, set_ne (by decide)]
      · rw [ob_ne (by decide), up_eq, set_ne (by decide)]
  · have h4 : v1 = 2 := by omega
    subst h4
    refine ct_readsWay hn2 l2 (fun g hg => ⟨_, rfl, ⟨_, rfl, ?_⟩, ?_⟩)
    · rw [hv.2.2.2]; exact congrArg aI hW.1.symm
    · refine hJ.sc ⟨fun o ho => ?_, ?_, ?_⟩
      · unfold keep at ho; rw [ob_ne (by omega), up_ne (by omega)]
      · rw [ob_ne (by decide), up_eq, set_ne (by decide)]
      · rw [ob_ne (by decide), up_eq, set_ne (by decide)]
theorem lc_forget {M : am_M} (hJ : J M) : S11_forget [aR 0] M (fun r1 M1 => S12_forget [aR 44] M1 (fun r2 M2 => eqI r1 r2 ∧ J M2)) := by
  obtain ⟨hT, hS, hG, hH, hP, hL, hE, hF⟩ := hJ
  refine e11_forget (fun x1 hx1 => e12_forget (fun x2 hx2 => ⟨⟨_, rfl, ?_⟩, ?_⟩))
  · rw [hx2, hx1, up_ne (by decide), hL.1]
  · refine ⟨hT.congr (fun o ho => by rw [up_ne (by omega), up_ne (by omega)]) (by rw [up_ne (by decide), up_ne (by decide)]), hS.congr ?_ ?_ ?_ ?_, hG.congr ?_ ?_, hH.congr ?_ ?_, hP.congr ?_ ?_, ?_, hE.congr (fun s hs => ⟨?_, ?_⟩) ?_ ?_ ?_, hF.congr ?_ ?_ ?_⟩
    all_goals try (rw [up_ne (by omega), up_ne (by omega)])
    · refine ⟨?_, ?_, ?_, ?_⟩
      · rw [up_ne (by decide), up_eq, set_eq, up_eq, set_eq]
      · rw [up_eq, set_eq]; omega
      · rw [up_eq, set_eq]; omega
      · intro k hk; rw [up_eq, set_eq] at hk; omega
    · rw [up_eq, set_ne (by decide), up_ne (by decide)]
theorem lc_look {M : am_M} {v1 v2 : Int} (hJ : J M) : S11_look [aR 0, aI v1, aI v2] M (fun r1 M1 => S12_look [aR 44, aI v1, aI v2] M1 (fun r2 M2 => eqI r1 r2 ∧ J M2)) := by
  obtain ⟨hT, hS, hG, hH, hP, hL, hE, hF⟩ := id hJ
  obtain ⟨l1, l2, l3, l4⟩ := hL
  refine e11_look ⟨fun h1 => ⟨fun h2 => e12_look ⟨fun _ => ⟨fun hc => absurd hc (by omega), fun _ => ⟨⟨_, rfl, rfl⟩, hJ⟩⟩, fun hc => absurd hc (by omega)⟩, fun h2 => ⟨fun h3 => ⟨fun h4 => ?_, fun h4 => ?_⟩, fun h3 => e12_look ⟨fun _ => ⟨fun hc => absurd hc (by omega), fun _ => ⟨⟨_, rfl, rfl⟩, hJ⟩⟩, fun hc => absurd hc (by omega)⟩⟩⟩, fun h1 => e12_look ⟨fun hc => absurd hc (by omega), fun _ => ⟨⟨_, rfl, rfl⟩, hJ⟩⟩⟩
  · refine e4_append ⟨fun hc => absurd hc (by omega), fun _ => ⟨fun hc => absurd hc (by omega), fun _ => ⟨by omega, by omega, fun x3 hx3 => ?_⟩⟩⟩
    generalize hn : (M 27 2).toNat = n
    have hnI : M 44 28 = (n : Int) := by omega
    have hM1 : ∀ o, ¬ o = 27 → ¬ o = 28 → ¬ o = 29 → (am_up (am_up (am_up M 28 n v1) 29 n v2) 27 2 x3) o = M o := by
      intro o a b c; rw [up_ne a, up_ne c, up_ne b]
    refine e12_look ⟨fun _ => ⟨fun _ => ?_, fun hc => absurd hc (by omega)⟩, fun hc => absurd hc (by omega)⟩
    rw [hM1 44 (by decide) (by decide) (by decide), hnI]
    refine ⟨fun hc => absurd hc (by omega), fun _ => ⟨by omega, by omega, by omega, by omega, by omega, fun x4 hx4 => ⟨⟨_, rfl, ?_⟩, ?_⟩⟩⟩
    · rw [up_eq, set_eq, hx4, hx3]; congr 1; omega
    · have e1 : (2 * (n : Int)).toNat = 2 * n := by omega
      have e2 : (2 * (n : Int) + 1).toNat = 2 * n + 1 := by omega
      rw [e1, e2]
      generalize hM2 : am_up (am_up (am_up M 28 n v1) 29 n v2) 27 2 x3 = M1 at *
      have k2 : ∀ o, ¬ o = 27 → ¬ o = 28 → ¬ o = 29 → ¬ o = 64 → ¬ o = 44 → (am_up (am_up (am_up M1 64 (2 * n) v1) 64 (2 * n + 1) v2) 44 28 x4) o = M o := by
        intro o a b c d e; rw [up_ne e, up_ne d, up_ne d, hM1 o a b c]
      refine ⟨hT.congr (fun o ho => k2 o (by omega) (by omega) (by omega) (by omega) (by omega)) (by rw [k2 54 (by decide) (by decide) (by decide) (by decide) (by decide)]), hS.congr ?_ ?_ ?_ ?_, hG.congr ?_ ?_, hH.congr ?_ ?_, hP.congr ?_ ?_, ?_, hE.congr (fun s hs => ⟨?_, ?_⟩) ?_ ?_ ?_, hF.congr ?_ ?_ ?_⟩
      all_goals try (rw [k2 _ (by omega) (by omega) (by omega) (by omega) (by omega)])
      · have m28 : M1 28 = am_set (M 28) n v1 := by rw [← hM2, up_ne (by decide), up_ne (by decide), up_eq]
        have m29 : M1 29 = am_set (M 29) n v2 := by rw [← hM2, up_ne (by decide), up_eq, up_ne (by decide)]
        have m27 : M1 27 2 = x3 := by rw [← hM2, up_eq, set_eq]
        generalize hM3 : am_up (am_up (am_up M1 64 (2 * n) v1) 64 (2 * n + 1) v2) 44 28 x4 = M3
        have f27 : M3 27 2 = x3 := by rw [← hM3, up_ne (by decide), up_ne (by decide), up_ne (by decide), m27]
        have f28 : M3 28 = am_set (M 28) n v1 := by rw [← hM3, up_ne (by decide), up_ne (by decide), up_ne (by decide), m28]
        have f29 : M3 29 = am_set (M 29) n v2 := by rw [← hM3, up_ne (by decide), up_ne (by decide), up_ne (by decide), m29]
        have f64 : M3 64 = am_set (am_set (M 64) (2 * n) v1) (2 * n + 1) v2 := by rw [← hM3, up_ne (by decide), up_eq, up_eq, hM1 64 (by decide) (by decide) (by decide)]
        have f44 : M3 44 28 = x4 := by rw [← hM3, up_eq, set_eq]
        unfold JL
        rw [f27, f28, f29, f64, f44]
        refine ⟨by omega, by omega, by omega, ?_⟩
        intro k hk
        by_cases e : k = n
        · subst e
          rw [set_eq, set_eq, set_ne (by omega), set_eq, set_eq]
          omega
        · rw [set_ne e, set_ne e, set_ne (by omega), set_ne (by omega), set_ne (by omega), set_ne (by omega)]
          exact l4 k (by omega)
      · rw [up_eq, set_ne (by decide), up_ne (by decide), up_ne (by decide), hM1 44 (by decide) (by decide) (by decide)]
  · refine e12_look ⟨fun _ => ⟨fun _ => ⟨fun _ => ⟨⟨_, rfl, rfl⟩, hJ⟩, fun hc => absurd hc (by omega)⟩, fun hc => absurd hc (by omega)⟩, fun hc => absurd hc (by omega)⟩
theorem lc_set {M : am_M} {v1 v2 : Int} (hJ : J M) : S11_set [aR 0, aI v1, aI v2] M (fun r1 M1 => S12_set [aR 44, aI v1, aI v2] M1 (fun r2 M2 => eqI r1 r2 ∧ J M2)) := by
  obtain ⟨hT, hS, hG, hH, hP, hL, hE, hF⟩ := id hJ
  have bad : (v1 < 0 ∨ 2 < v1) ∨ (v2 < 0 ∨ (if v1 = 2 then 2 else 63) < v2) → S12_set [aR 44, aI v1, aI v2] M (fun r2 M2 => eqI (aI (-2)) r2 ∧ J M2) := by
    intro hb
    exact e12_set ⟨fun _ x3 hx3 => ⟨fun hc => absurd hc (by subst hx3; omega), fun _ => ⟨⟨_, rfl, rfl⟩, hJ⟩⟩, fun _ => ⟨⟨_, rfl, rfl⟩, hJ⟩⟩
  refine e11_set ⟨fun h1 => bad (by omega), fun h1 => ⟨fun h2 => bad (by omega), fun h2 => ⟨fun h3 => bad (by omega), fun h3 x5 hx5 => ⟨fun h4 => ⟨fun h5 => ?_, fun h5 => ⟨fun h6 => ?_, fun h6 => ?_⟩⟩, fun h4 => bad (by subst hx5; omega)⟩⟩⟩⟩
  · subst h5
    intro x11 hx11
    obtain ⟨hC, hby, s0, s1, s2, r0, r1, r2, es⟩ := hT
    obtain ⟨hB, hXF, hO, hW, hN⟩ := hC
    have hx5' : x5 = 63 := hx5
    have hv2 : 0 ≤ v2 ∧ v2 < 64 := by omega
    have k1 : ∀ o, ¬ o = 20 → (am_up M 20 2 v2) o = M o := fun o a => up_ne a
    have en0 : xn0 (am_up M 20 2 v2) = xn0 M := by unfold xn0; rw [k1 _ (by decide)]
    have en1 : xn1 (am_up M 20 2 v2) = xn1 M := by unfold xn1; rw [k1 _ (by decide)]
    have en2 : xn2 (am_up M 20 2 v2) = xn2 M := by unfold xn2; rw [k1 _ (by decide)]
    have eD : xD (am_up M 20 2 v2) = xD M := by unfold xD; rw [en0, k1 _ (by decide)]
    have eW : xW (am_up M 20 2 v2) = xW M := by unfold xW; rw [en2, k1 _ (by decide)]
    have eL : xL (am_up M 20 2 v2) = xL M := by unfold xL; rw [en2, k1 _ (by decide)]
    have hB' : XB (am_up M 20 2 v2) := by
      unfold XB at *
      rw [en0, en1, en2, k1 1 (by decide), k1 2 (by decide), k1 3 (by decide), k1 4 (by decide), k1 5 (by decide), k1 6 (by decide), up_eq, set_eq]
      exact ⟨hB.1, hB.2.1, hB.2.2.1, hB.2.2.2.1, hB.2.2.2.2.1, hB.2.2.2.2.2.1, hB.2.2.2.2.2.2.1, hv2⟩
    refine ct_retraceX hB' (by rw [eD, k1 9 (by decide)]; exact hXF.2.2.2) (by rw [eW, eL, k1 21 (by decide), up_eq, set_ne (by decide)]; exact hW.2) (fun g hg => ?_)
    generalize hMa : am_up M 20 2 v2 = Ma at *
    have a20 : Ma 20 = am_set (M 20) 2 v2 := by rw [← hMa, up_eq]
    have k3 : ∀ o, ¬ o = 20 → ¬ o = 22 → (am_ob (am_up Ma 20 4 (xN Ma)) 22 g) o = M o := fun o a b => by rw [ob_ne b, up_ne a, k1 o a]
    have b20 : (am_ob (am_up Ma 20 4 (xN Ma)) 22 g) 20 = am_set (am_set (M 20) 2 v2) 4 (xN Ma) := by rw [ob_ne (by decide), up_eq, a20]
    have b22 : (am_ob (am_up Ma 20 4 (xN Ma)) 22 g) 22 = g := ob_eq
    refine e12_set ⟨fun _ x3 hx3 => ⟨fun _ => ⟨by omega, fun x6 hx6 => ⟨⟨_, rfl, ?_⟩, ?_⟩⟩, fun hc => absurd hc (by subst hx3; subst hx5; omega)⟩, fun hc => absurd hc (by omega)⟩
    · rw [hx6, k3 54 (by decide) (by decide), hx11, es]; rfl
    · generalize am_ob (am_up Ma 20 4 (xN Ma)) 22 g = Mb at *
      have f54 : (am_up Mb 54 (0 : Int).toNat v2) 54 = am_set (M 54) 0 v2 := by rw [up_eq, k3 54 (by decide) (by decide)]; rfl
      have k4 : ∀ o, ¬ o = 54 → (am_up Mb 54 (0 : Int).toNat v2) o = Mb o := fun o a => up_ne a
      generalize am_up Mb 54 (0 : Int).toNat v2 = Mc at *
      have k5 : ∀ o, ¬ o = 20 → ¬ o = 22 → ¬ o = 54 → Mc o = M o := fun o a b c => by rw [k4 o c, k3 o a b]
      have c20 : Mc 20 = am_set (am_set (M 20) 2 v2) 4 (xN Ma) := by rw [k4 20 (by decide), b20]
      have c22 : Mc 22 = g := by rw [k4 22 (by decide), b22]
      have hbe : xbe Ma Mc := by
        refine ⟨?_, ?_, ?_, ?_, ?_, ?_, ?_, ?_, ?_, ?_⟩
        all_goals try (rw [k5 _ (by decide) (by decide) (by decide), k1 _ (by decide)])
        rw [c20, a20, set_ne (by decide)]
      refine hJ.newT ⟨⟨hbe.B hB', ?_, ?_, ?_, ?_⟩, ?_, ?_, ?_, ?_, ?_, ?_, ?_, ?_⟩ (fun o ho => ?_) ?_ ?_
      · unfold XF
        rw [hbe.n0, en0, hbe.D, eD, k5 1 (by decide) (by decide) (by decide), k5 2 (by decide) (by decide) (by decide), k5 8 (by decide) (by decide) (by decide), k5 7 (by decide) (by decide) (by decide), k5 9 (by decide) (by decide) (by decide)]
        exact hXF
      · have e1 : xP Mc = xP M := by unfold xP; rw [hbe.n1, en1, k5 4 (by decide) (by decide) (by decide)]
        have e2 : xO Mc = xO M := by unfold xO; rw [hbe.n1, en1, k5 4 (by decide) (by decide) (by decide)]
        unfold XO
        rw [hbe.n1, en1, e1, e2, k5 3 (by decide) (by decide) (by decide), k5 4 (by decide) (by decide) (by decide), k5 15 (by decide) (by decide) (by decide), k5 19 (by decide) (by decide) (by decide)]
        exact hO
      · unfold XWy
        rw [hbe.n2, en2, hbe.W, eW, hbe.L, eL, k5 5 (by decide) (by decide) (by decide), k5 6 (by decide) (by decide) (by decide), k5 21 (by decide) (by decide) (by decide), c20, set_ne (by decide), set_ne (by decide)]
        exact hW
      · unfold XN
        rw [hbe.N, hbe.Q, c20, set_eq, c22]
        exact ⟨rfl, hg⟩
      · rw [k5 49 (by decide) (by decide) (by decide)]; exact hby
      · rw [k5 50 (by decide) (by decide) (by decide), k5 1 (by decide) (by decide) (by decide)]; exact s0
      · rw [k5 50 (by decide) (by decide) (by decide), k5 3 (by decide) (by decide) (by decide)]; exact s1
      · rw [k5 50 (by decide) (by decide) (by decide), k5 5 (by decide) (by decide) (by decide)]; exact s2
      · rw [hbe.n0, en0, k5 49 (by decide) (by decide) (by decide), k5 2 (by decide) (by decide) (by decide)]; exact r0
      · rw [hbe.n1, en1, k5 49 (by decide) (by decide) (by decide), k5 4 (by decide) (by decide) (by decide)]; exact r1
      · rw [hbe.n2, en2, k5 49 (by decide) (by decide) (by decide), k5 6 (by decide) (by decide) (by decide)]; exact r2
      · rw [c20, f54, set_ne (by decide), set_eq, set_eq]
      · unfold oth at ho; exact k5 o (by omega) (by omega) (by omega)
      · rw [f54, set_ne (by decide)]
      · rw [f54, set_ne (by decide)]
  · subst h6
    intro x10 hx10
    refine e12_set ⟨fun _ x3 hx3 => ⟨fun _ => ⟨by omega, fun x6 hx6 => ⟨⟨_, rfl, ?_⟩, ?_⟩⟩, fun hc => absurd hc (by subst hx3; subst hx5; omega)⟩, fun hc => absurd hc (by omega)⟩
    · rw [hx6, up_ne (by decide), hx10, hS.1]; rfl
    · have k2 : ∀ o, ¬ o = 0 → ¬ o = 54 → (am_up (am_up M 0 14 v2) 54 (1 : Int).toNat v2) o = M o := by
        intro o a b; rw [up_ne b, up_ne a]
      have f54 : (am_up (am_up M 0 14 v2) 54 (1 : Int).toNat v2) 54 = am_set (M 54) 1 v2 := by rw [up_eq, up_ne (by decide)]; rfl
      have f0 : (am_up (am_up M 0 14 v2) 54 (1 : Int).toNat v2) 0 = am_set (M 0) 14 v2 := by rw [up_ne (by decide), up_eq]
      generalize am_up (am_up M 0 14 v2) 54 (1 : Int).toNat v2 = M3 at *
      refine ⟨hT.congr (fun o ho => k2 o (by omega) (by omega)) (by rw [f54, set_ne (by decide)]), ?_, hG.congr ?_ ?_, hH.congr ?_ ?_, hP.congr ?_ ?_, hL.congr ?_ ?_ ?_ ?_ ?_, hE.congr (fun s hs => ⟨?_, ?_⟩) ?_ ?_ ?_, hF.congr ?_ ?_ ?_⟩
      all_goals try (rw [k2 _ (by omega) (by omega)])
      · unfold JS
        rw [f54, f0, set_eq, set_eq, set_ne (by decide), set_ne (by decide)]
        have hx5' : x5 = 63 := hx5
        exact ⟨rfl, by omega, by omega, hS.2.2.2⟩
      · rw [f0, set_ne (by decide)]
  · have h7 : v1 = 2 := by omega
    subst h7
    intro x10 hx10
    refine e12_set ⟨fun _ x3 hx3 => ⟨fun _ => ⟨by omega, fun x6 hx6 => ⟨⟨_, rfl, ?_⟩, ?_⟩⟩, fun hc => absurd hc (by subst hx3; subst hx5; omega)⟩, fun hc => absurd hc (by omega)⟩
    · rw [hx6, up_ne (by decide), hx10, hS.2.2.2.1]; rfl
    · have k2 : ∀ o, ¬ o = 0 → ¬ o = 54 → (am_up (am_up M 0 15 v2) 54 (2 : Int).toNat v2) o = M o := by
        intro o a b; rw [up_ne b, up_ne a]
      have f54 : (am_up (am_up M 0 15 v2) 54 (2 : Int).toNat v2) 54 = am_set (M 54) 2 v2 := by rw [up_eq, up_ne (by decide)]; rfl
      have f0 : (am_up (am_up M 0 15 v2) 54 (2 : Int).toNat v2) 0 = am_set (M 0) 15 v2 := by rw [up_ne (by decide), up_eq]
      generalize am_up (am_up M 0 15 v2) 54 (2 : Int).toNat v2 = M3 at *
      refine ⟨hT.congr (fun o ho => k2 o (by omega) (by omega)) (by rw [f54, set_ne (by decide)]), ?_, hG.congr ?_ ?_, hH.congr ?_ ?_, hP.congr ?_ ?_, hL.congr ?_ ?_ ?_ ?_ ?_, hE.congr (fun s hs => ⟨?_, ?_⟩) ?_ ?_ ?_, hF.congr ?_ ?_ ?_⟩
      all_goals try (rw [k2 _ (by omega) (by omega)])
      · unfold JS
        rw [f54, f0, set_ne (by decide), set_ne (by decide), set_eq, set_eq]
        have hx5' : x5 = 2 := hx5
        exact ⟨hS.1, hS.2.1, hS.2.2.1, rfl, by omega, by omega⟩
      · rw [f0, set_ne (by decide)]
theorem lc_grip {M : am_M} {v1 v2 v3 : Int} (hJ : J M) : S11_grip [aR 0, aI v1, aI v2, aI v3] M (fun r1 M1 => S12_grip [aR 44, aI v1, aI v2, aI v3] M1 (fun r2 M2 => eqI r1 r2 ∧ J M2)) := by
  obtain ⟨hT, hS, hG, hH, hP, hL, hE, hF⟩ := id hJ
  have bad : ¬ ((0 ≤ v1 ∧ v1 < 5) ∧ (0 ≤ v2 ∧ v2 < 5) ∧ (¬ v1 = v2) ∧ 0 ≤ v3 ∧ v3 ≤ 16) → S12_grip [aR 44, aI v1, aI v2, aI v3] M (fun r2 M2 => eqI (aI (-2)) r2 ∧ J M2) := by
    intro hb
    exact e12_grip ⟨fun _ => ⟨fun _ => ⟨fun _ => ⟨⟨_, rfl, rfl⟩, hJ⟩, fun _ => ⟨fun hc => absurd hc (by omega), fun _ => ⟨⟨_, rfl, rfl⟩, hJ⟩⟩⟩, fun _ => ⟨⟨_, rfl, rfl⟩, hJ⟩⟩, fun _ => ⟨⟨_, rfl, rfl⟩, hJ⟩⟩
  refine e11_grip ⟨fun h1 => ⟨fun h2 => ⟨fun h3 => bad (by omega), fun h3 => ⟨fun h4 x5 hx5 => ?_, fun h4 => bad (by omega)⟩⟩, fun h2 => bad (by omega)⟩, fun h1 => bad (by omega)⟩
  refine e3_putGrip ⟨fun _ => ⟨fun _ => ⟨by omega, by omega, by omega, by omega, by omega, by omega, ?_⟩, fun hc => absurd hc (by omega)⟩, fun hc => absurd hc (by omega)⟩
  have ea : (v1 * 5 + v2).toNat = (5 * v1 + v2).toNat := by omega
  have eb : (v2 * 5 + v1).toNat = (5 * v2 + v1).toNat := by omega
  have la : (5 * v1 + v2).toNat < 25 := by omega
  unfold f_3_gripOf at hx5
  rw [if_neg (by omega), if_neg (by omega), if_neg (by omega), if_neg (by omega), ea] at hx5
  rw [ea, eb]
  refine e12_grip ⟨fun _ => ⟨fun _ => ⟨fun hc => absurd hc h3, fun _ => ⟨fun _ => ⟨by omega, by omega, by omega, fun x6 hx6 => ⟨by omega, by omega, by omega, ⟨_, rfl, ?_⟩, ?_⟩⟩, fun hc => absurd hc (by omega)⟩⟩, fun hc => absurd hc (by omega)⟩, fun hc => absurd hc (by omega)⟩
  · rw [hx6, up_ne (by decide), up_ne (by decide), hx5, (hG _ la).1]
  · generalize (5 * v1 + v2).toNat = p at *
    generalize (5 * v2 + v1).toNat = r at *
    have f16 : (am_up (am_up (am_up (am_up M 16 p v3) 16 r v3) 55 p v3) 55 r v3) 16 = am_set (am_set (M 16) p v3) r v3 := by rw [up_ne (by decide), up_ne (by decide), up_eq, up_eq]
    have f55 : (am_up (am_up (am_up (am_up M 16 p v3) 16 r v3) 55 p v3) 55 r v3) 55 = am_set (am_set (M 55) p v3) r v3 := by rw [up_eq, up_eq, up_ne (by decide), up_ne (by decide)]
    have k2 : ∀ o, ¬ o = 16 → ¬ o = 55 → (am_up (am_up (am_up (am_up M 16 p v3) 16 r v3) 55 p v3) 55 r v3) o = M o := by
      intro o a b; rw [up_ne b, up_ne b, up_ne a, up_ne a]
    generalize am_up (am_up (am_up (am_up M 16 p v3) 16 r v3) 55 p v3) 55 r v3 = M3 at *
    refine ⟨hT.congr (fun o ho => k2 o (by omega) (by omega)) (by rw [k2 _ (by omega) (by omega)]), hS.congr ?_ ?_ ?_ ?_, ?_, hH.congr ?_ ?_, hP.congr ?_ ?_, hL.congr ?_ ?_ ?_ ?_ ?_, hE.congr (fun s hs => ⟨?_, ?_⟩) ?_ ?_ ?_, hF.congr ?_ ?_ ?_⟩
    all_goals try (rw [k2 _ (by omega) (by omega)])
    intro k hk
    rw [f16, f55]
    unfold am_set
    by_cases e : k = r
    · rw [if_pos e, if_pos e]; omega
    · rw [if_neg e, if_neg e]
      by_cases e2 : k = p
      · rw [if_pos e2, if_pos e2]; omega
      · rw [if_neg e2, if_neg e2]; exact hG k hk
theorem up_id' {M : am_M} {o j : Nat} {x : Int} (e : x = M o j) : am_up M o j x = M := by
  funext p i
  by_cases h : p = o
  · subst h
    rw [up_eq]
    by_cases h2 : i = j
    · subst h2; rw [set_eq, e]
    · rw [set_ne h2]
  · rw [up_ne h]
theorem J.per {M : am_M} {a b : Nat → Int} (hJ : J M) (h : ∀ k, k < 5 → a k = b k ∧ 0 ≤ b k ∧ b k ≤ 16) : J (am_ob (am_ob M 17 a) 56 b) := by
  obtain ⟨hT, hS, hG, hH, hP, hL, hE, hF⟩ := id hJ
  have f17 : (am_ob (am_ob M 17 a) 56 b) 17 = a := by rw [ob_ne (by decide), ob_eq]
  have f56 : (am_ob (am_ob M 17 a) 56 b) 56 = b := ob_eq
  have k2 : ∀ o, ¬ o = 17 → ¬ o = 56 → (am_ob (am_ob M 17 a) 56 b) o = M o := by intro o c d; rw [ob_ne d, ob_ne c]
  generalize am_ob (am_ob M 17 a) 56 b = M3 at *
  refine ⟨hT.congr (fun o ho => k2 o (by omega) (by omega)) (by rw [k2 _ (by omega) (by omega)]), hS.congr ?_ ?_ ?_ ?_, hG.congr ?_ ?_, ?_, hP.congr ?_ ?_, hL.congr ?_ ?_ ?_ ?_ ?_, hE.congr (fun s hs => ⟨?_, ?_⟩) ?_ ?_ ?_, hF.congr ?_ ?_ ?_⟩
  all_goals try (rw [k2 _ (by omega) (by omega)])
  intro k hk
  rw [f17, f56]
  exact h k hk
theorem lc_person {M : am_M} {v1 v2 v3 : Int} (hJ : J M) : S11_person [aR 0, aI v1, aI v2, aI v3] M (fun r1 M1 => S12_person [aR 44, aI v1, aI v2, aI v3] M1 (fun r2 M2 => eqI r1 r2 ∧ J M2)) := by
  obtain ⟨hT, hS, hG, hH, hP, hL, hE, hF⟩ := id hJ
  have bad : ¬ ((0 ≤ v1 ∧ v1 < 5) ∧ (v2 = 0 ∧ 0 ≤ v3 ∧ v3 ≤ 16 ∨ v2 = 1 ∧ 0 ≤ v3 ∧ v3 ≤ 63)) → S12_person [aR 44, aI v1, aI v2, aI v3] M (fun r2 M2 => eqI (aI (-2)) r2 ∧ J M2) := by
    intro hb
    exact e12_person ⟨fun _ => ⟨fun _ x4 hx4 => ⟨fun hc => absurd hc (by subst hx4; by_cases e : v2 = 0 <;> simp only [e, if_true, if_false] <;> omega), fun _ => ⟨⟨_, rfl, rfl⟩, hJ⟩⟩, fun _ => ⟨⟨_, rfl, rfl⟩, hJ⟩⟩, fun _ => ⟨⟨_, rfl, rfl⟩, hJ⟩⟩
  have one : v2 = 1 → (0 ≤ v1 ∧ v1 < 5) → (0 ≤ v3 ∧ v3 ≤ 63) → S12_person [aR 44, aI v1, aI v2, aI v3] (am_up M 18 (v1.toNat) v3) (fun r2 M2 => eqI (aI (M 18 v1.toNat)) r2 ∧ J M2) := by
    intro h2 h1 h3
    subst h2
    have hp := hP v1.toNat (by omega)
    refine e12_person ⟨fun _ => ⟨fun _ x4 hx4 => ⟨fun _ => ⟨⟨fun hc => absurd hc (by decide), fun _ => h1⟩, fun x7 hx7 => ⟨fun _ => h1, fun x9 hx9 => ⟨h1, fun x11 hx11 => ⟨⟨_, rfl, ?_⟩, ?_⟩⟩⟩⟩, fun hc => absurd hc (by have e : x4 = 63 := hx4; omega)⟩, fun hc => absurd hc (by omega)⟩, fun hc => absurd hc (by omega)⟩
    · have e : x7 = M 57 v1.toNat := by rw [hx7, if_neg (by decide), up_ne (by decide)]
      rw [e, hp.1]
    · have e9 : x9 = (am_up M 18 (v1.toNat) v3) 56 (v1.toNat) := hx9
      have e11 : x11 = v3 := hx11
      rw [up_id' e9, e11]
      generalize v1.toNat = n at *
      have f18 : (am_up (am_up M 18 n v3) 57 n v3) 18 = am_set (M 18) n v3 := by rw [up_ne (by decide), up_eq]
      have f57 : (am_up (am_up M 18 n v3) 57 n v3) 57 = am_set (M 57) n v3 := by rw [up_eq, up_ne (by decide)]
      have k2 : ∀ o, ¬ o = 18 → ¬ o = 57 → (am_up (am_up M 18 n v3) 57 n v3) o = M o := by intro o c d; rw [up_ne d, up_ne c]
      generalize am_up (am_up M 18 n v3) 57 n v3 = M3 at *
      refine ⟨hT.congr (fun o ho => k2 o (by omega) (by omega)) (by rw [k2 _ (by omega) (by omega)]), hS.congr ?_ ?_ ?_ ?_, hG.congr ?_ ?_, hH.congr ?_ ?_, ?_, hL.congr ?_ ?_ ?_ ?_ ?_, hE.congr (fun s hs => ⟨?_, ?_⟩) ?_ ?_ ?_, hF.congr ?_ ?_ ?_⟩
      all_goals try (rw [k2 _ (by omega) (by omega)])
      intro k hk
      rw [f18, f57]
      unfold am_set
      by_cases e : k = n
      · rw [if_pos e, if_pos e]; omega
      · rw [if_neg e, if_neg e]; exact hP k hk
  refine e11_person ⟨fun h1 => ⟨fun h2 => ⟨fun h3 => ⟨by omega, fun x10 hx10 => ?_⟩, fun h3 => ⟨fun hc => absurd hc (by omega), fun _ => bad (by omega)⟩⟩, fun h2 => ⟨fun h3 => ⟨fun h4 => ⟨by omega, fun x5 hx5 => ?_⟩, fun h4 => bad (by omega)⟩, fun h3 => bad (by omega)⟩⟩, fun h1 => bad (by omega)⟩
  · subst h2
    have hp := hH v1.toNat (by omega)
    refine e12_person ⟨fun _ => ⟨fun _ x4 hx4 => ⟨fun _ => ⟨⟨fun _ => by omega, fun hc => absurd rfl hc⟩, fun x7 hx7 => ⟨fun _ => by omega, fun x9 hx9 => ⟨by omega, fun x11 hx11 => ⟨⟨_, rfl, ?_⟩, ?_⟩⟩⟩⟩, fun hc => absurd hc (by have e : x4 = 16 := hx4; omega)⟩, fun hc => absurd hc (by omega)⟩, fun hc => absurd hc (by omega)⟩
    · have e : x7 = M 56 v1.toNat := by rw [hx7, if_pos rfl, up_ne (by decide)]
      rw [e, hx10, hp.1]
    · have e9 : x9 = v3 := hx9
      have e11 : x11 = (am_up (am_up M 17 (v1.toNat) v3) 56 (v1.toNat) x9) 57 (v1.toNat) := by rw [hx11, if_neg (by decide)]; rfl
      rw [up_id' e11, e9]
      generalize v1.toNat = n at *
      have := hJ.per (a := am_set (M 17) n v3) (b := am_set (M 56) n v3) (by
        intro k hk
        unfold am_set
        by_cases e : k = n
        · rw [if_pos e, if_pos e]; omega
        · rw [if_neg e, if_neg e]; exact hH k hk)
      rw [up_ob M 17, up_ob (am_ob M 17 _) 56, ob_ne (by decide)]
      exact this
  · rw [hx5]; exact one h3 (by omega) (by omega)
