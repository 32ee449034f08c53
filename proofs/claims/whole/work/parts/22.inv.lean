/-! what holds between two calls -/
def JT (M : am_M) : Prop := XC M ∧ (∀ j, j < 240 → 0 ≤ M 49 j ∧ M 49 j < 256) ∧ M 1 2 = M 50 0 ∧ M 3 2 = M 50 1 ∧ M 5 2 = M 50 2 ∧ (∀ j, j < xn0 M → M 2 j = M 49 j) ∧ (∀ j, j < xn1 M → M 4 j = M 49 (80 + j)) ∧ (∀ j, j < xn2 M → M 6 j = M 49 (160 + j)) ∧ M 20 2 = M 54 0
def JS (M : am_M) : Prop := M 0 14 = M 54 1 ∧ 0 ≤ M 54 1 ∧ M 54 1 < 64 ∧ M 0 15 = M 54 2 ∧ 0 ≤ M 54 2 ∧ M 54 2 ≤ 2
def JG (M : am_M) : Prop := ∀ k, k < 25 → M 16 k = M 55 k ∧ 0 ≤ M 55 k ∧ M 55 k ≤ 16
def JH (M : am_M) : Prop := ∀ k, k < 5 → M 17 k = M 56 k ∧ 0 ≤ M 56 k ∧ M 56 k ≤ 16
def JP (M : am_M) : Prop := ∀ k, k < 5 → M 18 k = M 57 k ∧ 0 ≤ M 57 k ∧ M 57 k < 64
def JL (M : am_M) : Prop := M 27 2 = M 44 28 ∧ 0 ≤ M 44 28 ∧ M 44 28 ≤ 5 ∧ ∀ k : Nat, (k : Int) < M 44 28 → M 28 k = M 64 (2 * k) ∧ M 29 k = M 64 (2 * k + 1) ∧ 0 ≤ M 64 (2 * k) ∧ M 64 (2 * k) < 64 ∧ 1 ≤ M 64 (2 * k + 1) ∧ M 64 (2 * k + 1) ≤ 9
def JE (M : am_M) : Prop := ∀ s, s < 4 → M (35 + s) 1 = M 45 s ∧ -1 ≤ M 45 s ∧ M 45 s ≤ 2 ∧ 0 ≤ M 46 s ∧ M 46 s ≤ 64 ∧ (0 ≤ M 45 s → M (35 + s) 2 = M 46 s ∧ ∀ i : Nat, (i : Int) < M 46 s → M (35 + s + 4) i = M 47 (64 * s + i))
def JF (M : am_M) : Prop := M 0 16 = M 44 4 ∧ ∀ j, j < 35 → -1 ≤ M 31 j ∧ M 31 j ≤ 63
def J (M : am_M) : Prop := JT M ∧ JS M ∧ JG M ∧ JH M ∧ JP M ∧ JL M ∧ JE M ∧ JF M
theorem JT.congr {M M' : am_M} (h : JT M) (e : ∀ o, o = 1 ∨ o = 2 ∨ o = 3 ∨ o = 4 ∨ o = 5 ∨ o = 6 ∨ o = 7 ∨ o = 8 ∨ o = 9 ∨ o = 15 ∨ o = 19 ∨ o = 20 ∨ o = 21 ∨ o = 22 ∨ o = 49 ∨ o = 50 → M' o = M o) (e54 : M' 54 0 = M 54 0) : JT M' := by
  have a1 := e 1 (by decide)
  have a2 := e 2 (by decide)
  have a3 := e 3 (by decide)
  have a4 := e 4 (by decide)
  have a5 := e 5 (by decide)
  have a6 := e 6 (by decide)
  have a7 := e 7 (by decide)
  have a8 := e 8 (by decide)
  have a9 := e 9 (by decide)
  have a15 := e 15 (by decide)
  have a19 := e 19 (by decide)
  have a20 := e 20 (by decide)
  have a21 := e 21 (by decide)
  have a22 := e 22 (by decide)
  have a49 := e 49 (by decide)
  have a50 := e 50 (by decide)
  unfold JT XC XB XF XO XWy XN xN xQ xD xP xO xW xL xn0 xn1 xn2 at *
  rw [a1, a2, a3, a4, a5, a6, a7, a8, a9, a15, a19, a20, a21, a22, a49, a50, e54]
  exact h
/-- cells that no answer changes -/
def keep (o : Nat) : Prop := ¬ (o = 11 ∨ o = 12 ∨ o = 13 ∨ o = 14 ∨ o = 23 ∨ o = 24 ∨ o = 25 ∨ o = 26 ∨ o = 32 ∨ o = 33 ∨ o = 43 ∨ o = 44 ∨ o = 48 ∨ o = 51 ∨ o = 52 ∨ o = 53 ∨ o = 58 ∨ o = 59 ∨ o = 60 ∨ o = 61 ∨ o = 62 ∨ o = 63 ∨ o = 65 ∨ o = 66 ∨ o = 67)
/-- only what an answer works with has changed -/
def sc (M M' : am_M) : Prop := (∀ o, keep o → M' o = M o) ∧ M' 44 4 = M 44 4 ∧ M' 44 28 = M 44 28
theorem sc.rf (M : am_M) : sc M M := ⟨fun _ _ => rfl, rfl, rfl⟩
theorem sc.tr {M M' M'' : am_M} (h1 : sc M M') (h2 : sc M' M'') : sc M M'' := ⟨fun o ho => (h2.1 o ho).trans (h1.1 o ho), h2.2.1.trans h1.2.1, h2.2.2.trans h1.2.2⟩
theorem J.sc {M M' : am_M} (h : J M) (e : sc M M') : J M' := by
  obtain ⟨hT, hS, hG, hH, hP, hL, hE, hF⟩ := h
  obtain ⟨e, e4, e28⟩ := e
  have k : ∀ o, keep o → M' o = M o := e
  refine ⟨hT.congr (fun o ho => k o (by unfold keep; omega)) (by rw [k 54 (by unfold keep; decide)]), ?_, ?_, ?_, ?_, ?_, ?_, ?_⟩
  · unfold JS at *; rw [k 0 (by unfold keep; decide), k 54 (by unfold keep; decide)]; exact hS
  · unfold JG at *; rw [k 16 (by unfold keep; decide), k 55 (by unfold keep; decide)]; exact hG
  · unfold JH at *; rw [k 17 (by unfold keep; decide), k 56 (by unfold keep; decide)]; exact hH
  · unfold JP at *; rw [k 18 (by unfold keep; decide), k 57 (by unfold keep; decide)]; exact hP
  · unfold JL at *; rw [k 27 (by unfold keep; decide), k 28 (by unfold keep; decide), k 29 (by unfold keep; decide), k 64 (by unfold keep; decide), e28]; exact hL
  · intro s hs
    have := hE s hs
    rw [k (35 + s) (by unfold keep; omega), k (35 + s + 4) (by unfold keep; omega), k 45 (by unfold keep; decide), k 46 (by unfold keep; decide), k 47 (by unfold keep; decide)]
    exact this
  · unfold JF at *; rw [k 0 (by unfold keep; decide), e4, k 31 (by unfold keep; decide)]; exact hF
/-- the views of the reference are the class's -/
theorem JT.v {M : am_M} (h : JT M) : dn (M 49) (xn0 M) = xD M ∧ fpAll (M 49) (xn0 M) = fpAll (M 2) (xn0 M) ∧ oF (fun j => M 49 (80 + j)) (xn1 M) (xn1 M) 0 = oF (M 4) (xn1 M) (xn1 M) 0 ∧ wF (fun j => M 49 (160 + j)) (xn2 M) (xn2 M) = wF (M 6) (xn2 M) (xn2 M) := by
  obtain ⟨-, -, -, -, -, h0, h1, h2, -⟩ := h
  exact ⟨dn_congr (fun j hj => (h0 j hj).symm), fpAll_congr (fun j hj => (h0 j hj).symm), oF_congr (fun j hj => (h1 j hj).symm) _ _ (Nat.le_refl _), wF_congr (fun j hj => (h2 j hj).symm) _ (Nat.le_refl _)⟩
/-- the reference has read its texts -/
def RD (M : am_M) : Prop := (∀ p, p < 64 → M 51 p = fm (xD M p)) ∧ M 44 9 = xP M ∧ (∀ i, i < xP M → M 52 i = xO M i) ∧ M 44 11 = xW M ∧ (∀ i, i < xW M → M 53 i = xL M i) ∧ M 44 17 = xN M ∧ ∀ j, j ≤ xN M → M 58 j = xQ M j
theorem ct_reads {q : am_Q} {M : am_M} (hJ : JT M) (h : ∀ M', sc M M' → RD M' → q aJ M') : S12_reads [aR 44] M q := by
  have hv := hJ.v
  have hJ' := hJ
  obtain ⟨hC, hby, e0, e1, e2, b0, b1, b2, es⟩ := hJ
  obtain ⟨hB, hF, hO, hW, hN⟩ := hC
  have n0 := hB.2.1
  have n1 := hB.2.2.1
  have n2 := hB.2.2.2.1
  have hn0 : M 50 0 = (xn0 M : Int) := by unfold xn0; omega
  have hn1 : M 50 1 = (xn1 M : Int) := by unfold xn1; omega
  have hn2 : M 50 2 = (xn2 M : Int) := by unfold xn2; omega
  have l0 : xn0 M ≤ 71 := by unfold xn0; omega
  have l1 : xn1 M ≤ 5 := by unfold xn1; omega
  have l2 : xn2 M ≤ 40 := by unfold xn2; omega
  refine e12_reads (ct_readsFair hn0 l0 (fun j hj => hby j (by omega)) (fun a g hg => ⟨_, rfl, ?_⟩))
  rw [hv.1] at hg
  generalize hM1 : am_ob (am_up M 44 7 a) 51 g = M1
  have k1 : ∀ o, ¬ o = 44 → ¬ o = 51 → M1 o = M o := by intro o h1 h2; rw [← hM1, ob_ne h2, up_ne h1]
  refine ct_readsOrder (n := xn1 M) (by rw [k1 50 (by decide) (by decide)]; exact hn1) l1 (by rw [k1 49 (by decide) (by decide)]; exact fun i hi => hby (80 + i) (by omega)) (fun g2 hg2 => ⟨_, rfl, ?_⟩)
  rw [k1 49 (by decide) (by decide), hv.2.2.1] at hg2 ⊢
  generalize hM2 : am_ob (am_up M1 44 9 (if oF (M 4) (xn1 M) (xn1 M) 0 = -1 then (xn1 M : Int) else 0)) 52 g2 = M2
  have k2 : ∀ o, ¬ o = 44 → ¬ o = 51 → ¬ o = 52 → M2 o = M o := by intro o h1 h2 h3; rw [← hM2, ob_ne h3, up_ne h1, k1 o h1 h2]
  refine ct_readsWay (n := xn2 M) (by rw [k2 50 (by decide) (by decide) (by decide)]; exact hn2) l2 (fun g3 hg3 => ⟨_, rfl, ?_⟩)
  rw [k2 49 (by decide) (by decide) (by decide), hv.2.2.2] at hg3 ⊢
  generalize hM3 : am_ob (am_up M2 44 11 (if wF (M 6) (xn2 M) (xn2 M) = -1 then (xn2 M : Int) else 0)) 53 g3 = M3
  have k3 : ∀ o, ¬ o = 44 → ¬ o = 51 → ¬ o = 52 → ¬ o = 53 → M3 o = M o := by intro o h1 h2 h3 h4; rw [← hM3, ob_ne h4, up_ne h1, k2 o h1 h2 h3]
  have f51 : ∀ p, p < 64 → M3 51 p = fm (xD M p) := by
    intro p hp
    rw [← hM3, ob_ne (by decide), up_ne (by decide), ← hM2, ob_ne (by decide), up_ne (by decide), ← hM1, ob_eq]
    exact hg p hp
  have f52 : ∀ i, i < xP M → M3 52 i = xO M i := by
    intro i hi
    rw [← hM3, ob_ne (by decide), up_ne (by decide), ← hM2, ob_eq]
    unfold xO vO
    have hi2 : i < vP (M 4) (xn1 M) := hi
    rw [if_pos hi2]
    unfold vP at hi2
    by_cases ho : oF (M 4) (xn1 M) (xn1 M) 0 = -1
    · rw [if_pos ho] at hi2
      rw [hg2 ho i hi2, b1 i hi2]
    · rw [if_neg ho] at hi2; omega
  have f53 : ∀ i, i < xW M → M3 53 i = xL M i := by
    intro i hi
    rw [← hM3, ob_eq]
    unfold xL vL
    have hi2 : i < vW (M 6) (xn2 M) := hi
    rw [if_pos hi2]
    unfold vW at hi2
    by_cases ho : wF (M 6) (xn2 M) (xn2 M) = -1
    · rw [if_pos ho] at hi2
      rw [hg3 ho i hi2, b2 i hi2]
    · rw [if_neg ho] at hi2; omega
  have f9 : M3 44 9 = xP M := by
    rw [← hM3, ob_ne (by decide), up_eq, set_ne (by decide), ← hM2, ob_ne (by decide), up_eq, set_eq]
    unfold xP vP
    split <;> rfl
  have f11 : M3 44 11 = xW M := by
    rw [← hM3, ob_ne (by decide), up_eq, set_eq]
    unfold xW vW
    split <;> rfl
  have f4 : ∀ j, ¬ j = 7 → ¬ j = 9 → ¬ j = 11 → M3 44 j = M 44 j := by
    intro j a b c
    rw [← hM3, ob_ne (by decide), up_eq, set_ne c, ← hM2, ob_ne (by decide), up_eq, set_ne b, ← hM1, ob_ne (by decide), up_eq, set_ne a]
  have f54 : M3 54 0 = M 20 2 := by rw [k3 54 (by decide) (by decide) (by decide) (by decide), es]
  have hw40 : xW M ≤ 40 := by have := vW_le (M 6) (xn2 M); unfold xW; omega
  refine ct_walks (D := xD M) (lt := xL M) (n := xW M) f51 (fun p => (dn_rng _ _ p).2) (by rw [f54]; exact hB.2.2.2.2.2.2.2) f11 hw40 (fun i hi => ⟨f53 i hi, vL_rng _ _ _⟩) ?_
  rw [f54]
  intro g4 hg4
  have eN : wdn (xD M) (xL M) (M 20 2) (xW M) 0 = xN M := rfl
  rw [eN] at hg4 ⊢
  have hs : sc M (am_ob (am_up M3 44 17 (xN M)) 58 g4) := by
    refine ⟨fun o ho => ?_, ?_, ?_⟩
    · unfold keep at ho
      rw [ob_ne (by omega), up_ne (by omega), k3 o (by omega) (by omega) (by omega) (by omega)]
    · rw [ob_ne (by decide), up_eq, set_ne (by decide), f4 4 (by decide) (by decide) (by decide)]
    · rw [ob_ne (by decide), up_eq, set_ne (by decide), f4 28 (by decide) (by decide) (by decide)]
  refine h _ hs ?_
  have kk : ∀ o, keep o → (am_ob (am_up M3 44 17 (xN M)) 58 g4) o = M o := hs.1
  have hbe : xbe M (am_ob (am_up M3 44 17 (xN M)) 58 g4) := by
    refine ⟨kk 2 (by unfold keep; decide), kk 4 (by unfold keep; decide), kk 6 (by unfold keep; decide), ?_, ?_, ?_, ?_, ?_, ?_, ?_⟩
    · rw [kk 1 (by unfold keep; decide)]
    · rw [kk 1 (by unfold keep; decide)]
    · rw [kk 3 (by unfold keep; decide)]
    · rw [kk 3 (by unfold keep; decide)]
    · rw [kk 5 (by unfold keep; decide)]
    · rw [kk 5 (by unfold keep; decide)]
    · rw [kk 20 (by unfold keep; decide)]
  unfold RD
  rw [hbe.D, hbe.P, hbe.O, hbe.W, hbe.L, hbe.N, hbe.Q]
  refine ⟨?_, ?_, ?_, ?_, ?_, ?_, ?_⟩
  · intro p hp; rw [ob_ne (by decide), up_ne (by decide)]; exact f51 p hp
  · rw [ob_ne (by decide), up_eq, set_ne (by decide)]; exact f9
  · intro i hi; rw [ob_ne (by decide), up_ne (by decide)]; exact f52 i hi
  · rw [ob_ne (by decide), up_eq, set_ne (by decide)]; exact f11
  · intro i hi; rw [ob_ne (by decide), up_ne (by decide)]; exact f53 i hi
  · rw [ob_ne (by decide), up_eq, set_eq]
  · intro j hj; rw [ob_eq]; exact hg4 j hj
