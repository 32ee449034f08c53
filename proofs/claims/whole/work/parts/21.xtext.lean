/-! the class's texts change -/
def xbe (M M' : am_M) : Prop := M' 2 = M 2 ∧ M' 4 = M 4 ∧ M' 6 = M 6 ∧ M' 1 0 = M 1 0 ∧ M' 1 2 = M 1 2 ∧ M' 3 0 = M 3 0 ∧ M' 3 2 = M 3 2 ∧ M' 5 0 = M 5 0 ∧ M' 5 2 = M 5 2 ∧ M' 20 2 = M 20 2
theorem xbe.n0 {M M' : am_M} (h : xbe M M') : xn0 M' = xn0 M := by unfold xn0; rw [h.2.2.2.2.1]
theorem xbe.n1 {M M' : am_M} (h : xbe M M') : xn1 M' = xn1 M := by unfold xn1; rw [h.2.2.2.2.2.2.1]
theorem xbe.n2 {M M' : am_M} (h : xbe M M') : xn2 M' = xn2 M := by unfold xn2; rw [h.2.2.2.2.2.2.2.2.1]
theorem xbe.D {M M' : am_M} (h : xbe M M') : xD M' = xD M := by unfold xD; rw [h.n0, h.1]
theorem xbe.P {M M' : am_M} (h : xbe M M') : xP M' = xP M := by unfold xP; rw [h.n1, h.2.1]
theorem xbe.O {M M' : am_M} (h : xbe M M') : xO M' = xO M := by unfold xO; rw [h.n1, h.2.1]
theorem xbe.W {M M' : am_M} (h : xbe M M') : xW M' = xW M := by unfold xW; rw [h.n2, h.2.2.1]
theorem xbe.L {M M' : am_M} (h : xbe M M') : xL M' = xL M := by unfold xL; rw [h.n2, h.2.2.1]
theorem xbe.N {M M' : am_M} (h : xbe M M') : xN M' = xN M := by unfold xN; rw [h.D, h.L, h.W, h.2.2.2.2.2.2.2.2.2]
theorem xbe.Q {M M' : am_M} (h : xbe M M') : xQ M' = xQ M := by unfold xQ; rw [h.D, h.L, h.2.2.2.2.2.2.2.2.2]
theorem xbe.B {M M' : am_M} (h : xbe M M') (hB : XB M) : XB M' := by
  have n0 := h.n0
  have n1 := h.n1
  have n2 := h.n2
  obtain ⟨a1, a2, a3, a4, a5, a6, a7, a8, a9, a10⟩ := h
  unfold XB at *
  rw [n0, n1, n2, a1, a2, a3, a4, a5, a6, a7, a8, a9, a10]
  exact hB
theorem xbe.F {M M' : am_M} (h : xbe M M') (hF : XF M) (e1 : M' 1 3 = M 1 3) (e2 : M' 8 = M 8) (e3 : M' 7 2 = M 7 2) (e4 : M' 9 = M 9) : XF M' := by
  unfold XF
  rw [e1, e2, e3, e4, h.D, h.n0, h.1]
  exact hF
theorem xbe.Or {M M' : am_M} (h : xbe M M') (hO : XO M) (e1 : M' 3 3 = M 3 3) (e2 : M' 15 4 = M 15 4) (e3 : M' 19 = M 19) : XO M' := by
  unfold XO
  rw [e1, e2, e3, h.P, h.O, h.n1, h.2.1]
  exact hO
theorem xbe.Wy {M M' : am_M} (h : xbe M M') (hO : XWy M) (e1 : M' 5 3 = M 5 3) (e2 : M' 20 3 = M 20 3) (e3 : M' 21 = M 21) : XWy M' := by
  unfold XWy
  rw [e1, e2, e3, h.W, h.L, h.n2, h.2.2.1]
  exact hO
theorem xbe.Nn {M M' : am_M} (h : xbe M M') (hO : XN M) (e1 : M' 20 4 = M 20 4) (e2 : M' 22 = M 22) : XN M' := by
  unfold XN
  rw [e1, e2, h.N, h.Q]
  exact hO
/-- nothing but the caches has changed -/
def xcf (M M' : am_M) : Prop := (∀ o, ¬ o = 1 → ¬ o = 3 → ¬ o = 5 → ¬ o = 7 → ¬ o = 8 → ¬ o = 9 → ¬ o = 15 → ¬ o = 19 → ¬ o = 20 → ¬ o = 21 → ¬ o = 22 → M' o = M o) ∧ (∀ j, ¬ j = 3 → M' 1 j = M 1 j ∧ M' 3 j = M 3 j ∧ M' 5 j = M 5 j) ∧ M' 20 2 = M 20 2
theorem xcf.be {M M' : am_M} (h : xcf M M') : xbe M M' := by
  obtain ⟨h1, h2, h3⟩ := h
  refine ⟨h1 2 (by decide) (by decide) (by decide) (by decide) (by decide) (by decide) (by decide) (by decide) (by decide) (by decide) (by decide), h1 4 (by decide) (by decide) (by decide) (by decide) (by decide) (by decide) (by decide) (by decide) (by decide) (by decide) (by decide), h1 6 (by decide) (by decide) (by decide) (by decide) (by decide) (by decide) (by decide) (by decide) (by decide) (by decide) (by decide), (h2 0 (by decide)).1, (h2 2 (by decide)).1, (h2 0 (by decide)).2.1, (h2 2 (by decide)).2.1, (h2 0 (by decide)).2.2, (h2 2 (by decide)).2.2, h3⟩
theorem ct_reread0 {q : am_Q} {M : am_M} (hB : XB M) (hO : XO M) (hW : XWy M) (h8 : ∀ j, 64 ≤ j → M 8 j = -1) (h9 : ∀ j, 256 ≤ j → M 9 j = -1) (h : ∀ M', xcf M M' → XC M' → q aJ M') : S11_reread [aR 0, aI 0] M q := by
  refine e11_reread ⟨fun _ => ?_, fun hc => absurd rfl hc⟩
  refine ct_takeFair (n := xn0 M) (by have := hB.2.1; unfold xn0; omega) (by have := hB.2.1; unfold xn0; omega) h8 h9 (fun M1 hM1 => ⟨_, rfl, ?_⟩)
  have hD : dn (M 2) (xn0 M) = xD M := rfl
  rw [hD] at hM1
  have hbe : xbe M (am_up M1 1 3 (fpAll (M 2) (xn0 M)).1) := by
    refine ⟨?_, ?_, ?_, ?_, ?_, ?_, ?_, ?_, ?_, ?_⟩ <;> simp [hM1, am_ob, am_up, am_set]
  have hWy : XWy (am_up M1 1 3 (fpAll (M 2) (xn0 M)).1) := hbe.Wy hW (by simp [hM1, am_ob, am_up]) (by simp [hM1, am_ob, am_up]) (by simp [hM1, am_ob, am_up])
  refine ct_retraceX (hbe.B hB) (by rw [hbe.D]; simp [hM1, am_ob, am_up]) hWy.2 (fun g hg => ?_)
  rw [hbe.N] at hg ⊢
  have hbe2 : xbe M (am_ob (am_up (am_up M1 1 3 (fpAll (M 2) (xn0 M)).1) 20 4 (xN M)) 22 g) := by
    refine ⟨?_, ?_, ?_, ?_, ?_, ?_, ?_, ?_, ?_, ?_⟩ <;> simp [hM1, am_ob, am_up, am_set]
  refine h _ ⟨?_, ?_, ?_⟩ ⟨hbe2.B hB, ?_, ?_, ?_, ?_⟩
  · intro o a1 a3 a5 a7 a8 a9 a15 a19 a20 a21 a22
    simp [hM1, am_ob, am_up, a1, a7, a8, a9, a20, a22]
  · intro j hj
    simp [hM1, am_ob, am_up, am_set, hj]
  · simp [hM1, am_ob, am_up, am_set]
  · unfold XF
    rw [hbe2.D, hbe2.n0, hbe2.1]
    simp [hM1, am_ob, am_up, am_set]
  · exact hbe2.Or hO (by simp [hM1, am_ob, am_up]) (by simp [hM1, am_ob, am_up]) (by simp [hM1, am_ob, am_up])
  · exact hbe2.Wy hW (by simp [hM1, am_ob, am_up]) (by simp [hM1, am_ob, am_up, am_set]) (by simp [hM1, am_ob, am_up])
  · unfold XN
    rw [hbe2.N, hbe2.Q]
    refine ⟨by simp [am_ob, am_up, am_set], fun j hj => ?_⟩
    rw [ob_eq, hg j hj, hbe.Q]
theorem ct_reread1 {q : am_Q} {M : am_M} (hB : XB M) (hF : XF M) (hW : XWy M) (hN : XN M) (h : ∀ M', xcf M M' → XC M' → q aJ M') : S11_reread [aR 0, aI 1] M q := by
  refine e11_reread ⟨fun hc => absurd hc (by decide), fun _ => ⟨fun _ => ?_, fun hc => absurd rfl hc⟩⟩
  refine ct_takeOrder (n := xn1 M) (by have := hB.2.2.1; unfold xn1; omega) (by have := hB.2.2.1; unfold xn1; omega) hB.2.2.2.2.2.1 (fun g hg => ⟨_, rfl, ?_⟩)
  have hbe2 : xbe M (am_up (am_ob (am_up M 15 4 (if oF (M 4) (xn1 M) (xn1 M) 0 = -1 then (xn1 M : Int) else 0)) 19 g) 3 3 (oF (M 4) (xn1 M) (xn1 M) 0)) := by
    refine ⟨?_, ?_, ?_, ?_, ?_, ?_, ?_, ?_, ?_, ?_⟩ <;> simp [am_ob, am_up, am_set]
  refine h _ ⟨?_, ?_, ?_⟩ ⟨hbe2.B hB, ?_, ?_, ?_, ?_⟩
  · intro o a1 a3 a5 a7 a8 a9 a15 a19 a20 a21 a22
    simp [am_ob, am_up, a3, a15, a19]
  · intro j hj
    simp [am_ob, am_up, am_set, hj]
  · simp [am_ob, am_up, am_set]
  · exact hbe2.F hF (by simp [am_ob, am_up]) (by simp [am_ob, am_up]) (by simp [am_ob, am_up]) (by simp [am_ob, am_up])
  · unfold XO
    rw [hbe2.P, hbe2.O, hbe2.n1, hbe2.2.1]
    refine ⟨by simp [am_up, am_set], ?_, ?_⟩
    · have e : (am_up (am_ob (am_up M 15 4 (if oF (M 4) (xn1 M) (xn1 M) 0 = -1 then (xn1 M : Int) else 0)) 19 g) 3 3 (oF (M 4) (xn1 M) (xn1 M) 0)) 15 4 = (if oF (M 4) (xn1 M) (xn1 M) 0 = -1 then (xn1 M : Int) else 0) := by rw [up_ne (by decide), ob_ne (by decide), up_eq, set_eq]
      rw [e]
      unfold xP vP
      split <;> rfl
    · intro i hi
      rw [up_ne (by decide), ob_eq]
      unfold xO vO
      have hi2 : i < vP (M 4) (xn1 M) := hi
      rw [if_pos hi2]
      unfold vP at hi2
      by_cases ho : oF (M 4) (xn1 M) (xn1 M) 0 = -1
      · rw [if_pos ho] at hi2; exact hg ho i hi2
      · rw [if_neg ho] at hi2; omega
  · exact hbe2.Wy hW (by simp [am_ob, am_up]) (by simp [am_ob, am_up, am_set]) (by simp [am_ob, am_up])
  · exact hbe2.Nn hN (by simp [am_ob, am_up]) (by simp [am_ob, am_up])
theorem ct_reread2 {q : am_Q} {M : am_M} (hB : XB M) (hF : XF M) (hO : XO M) (h : ∀ M', xcf M M' → XC M' → q aJ M') : S11_reread [aR 0, aI 2] M q := by
  refine e11_reread ⟨fun hc => absurd hc (by decide), fun _ => ⟨fun hc => absurd hc (by decide), fun _ => ?_⟩⟩
  refine ct_takeWay (n := xn2 M) (by have := hB.2.2.2.1; unfold xn2; omega) (by have := hB.2.2.2.1; unfold xn2; omega) (fun g hg => ⟨_, rfl, ?_⟩)
  have hbe : xbe M (am_up (am_ob (am_up M 20 3 (if wF (M 6) (xn2 M) (xn2 M) = -1 then (xn2 M : Int) else 0)) 21 g) 5 3 (wF (M 6) (xn2 M) (xn2 M))) := by
    refine ⟨?_, ?_, ?_, ?_, ?_, ?_, ?_, ?_, ?_, ?_⟩ <;> simp [am_ob, am_up, am_set]
  have hWy : (am_up (am_ob (am_up M 20 3 (if wF (M 6) (xn2 M) (xn2 M) = -1 then (xn2 M : Int) else 0)) 21 g) 5 3 (wF (M 6) (xn2 M) (xn2 M))) 20 3 = xW M ∧ ∀ i, i < xW M → g i = xL M i := by
    refine ⟨?_, ?_⟩
    · rw [up_ne (by decide), ob_ne (by decide), up_eq, set_eq]
      unfold xW vW
      split <;> rfl
    · intro i hi
      unfold xL vL
      have hi2 : i < vW (M 6) (xn2 M) := hi
      rw [if_pos hi2]
      unfold vW at hi2
      by_cases ho : wF (M 6) (xn2 M) (xn2 M) = -1
      · rw [if_pos ho] at hi2; exact hg ho i hi2
      · rw [if_neg ho] at hi2; omega
  refine ct_retraceX (hbe.B hB) (by rw [hbe.D]; simp [am_ob, am_up]; exact hF.2.2.2) (by rw [hbe.W, hbe.L]; refine ⟨hWy.1, fun i hi => ?_⟩; rw [up_ne (by decide), ob_eq]; exact hWy.2 i hi) (fun g2 hg2 => ?_)
  rw [hbe.N] at hg2 ⊢
  have hbe2 : xbe M (am_ob (am_up (am_up (am_ob (am_up M 20 3 (if wF (M 6) (xn2 M) (xn2 M) = -1 then (xn2 M : Int) else 0)) 21 g) 5 3 (wF (M 6) (xn2 M) (xn2 M))) 20 4 (xN M)) 22 g2) := by
    refine ⟨?_, ?_, ?_, ?_, ?_, ?_, ?_, ?_, ?_, ?_⟩ <;> simp [am_ob, am_up, am_set]
  refine h _ ⟨?_, ?_, ?_⟩ ⟨hbe2.B hB, ?_, ?_, ?_, ?_⟩
  · intro o a1 a3 a5 a7 a8 a9 a15 a19 a20 a21 a22
    simp [am_ob, am_up, a5, a20, a21, a22]
  · intro j hj
    simp [am_ob, am_up, am_set, hj]
  · simp [am_ob, am_up, am_set]
  · exact hbe2.F hF (by simp [am_ob, am_up]) (by simp [am_ob, am_up]) (by simp [am_ob, am_up]) (by simp [am_ob, am_up])
  · exact hbe2.Or hO (by simp [am_ob, am_up]) (by simp [am_ob, am_up]) (by simp [am_ob, am_up])
  · unfold XWy
    rw [hbe2.W, hbe2.L, hbe2.n2, hbe2.2.2.1]
    refine ⟨by simp [am_ob, am_up, am_set], ?_, ?_⟩
    · rw [ob_ne (by decide), up_eq, set_ne (by decide)]; exact hWy.1
    · intro i hi
      rw [ob_ne (by decide), up_ne (by decide), up_ne (by decide), ob_eq]
      exact hWy.2 i hi
  · unfold XN
    rw [hbe2.N, hbe2.Q]
    refine ⟨by simp [am_ob, am_up, am_set], fun j hj => ?_⟩
    rw [ob_eq, hg2 j hj, hbe.Q]
