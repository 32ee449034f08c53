/-! type, wipe, undo, fault, set: class and reference alike -/
theorem XC.congr {M M' : am_M} (h : XC M) (e : ∀ o, o = 1 ∨ o = 2 ∨ o = 3 ∨ o = 4 ∨ o = 5 ∨ o = 6 ∨ o = 7 ∨ o = 8 ∨ o = 9 ∨ o = 15 ∨ o = 19 ∨ o = 20 ∨ o = 21 ∨ o = 22 → M' o = M o) : XC M' := by
  have a1 := e 1 (by decide)
  have a2 := e 2 (by decide)
  have a3 := e 3 (by decide)
  have a4 := e 4 (by decide)
  have a5 := e 5 (by decide)
  have a6 := e 6 (by decide)
  have a7 := e 7 (by decide)
  have a8 := e 8 (by decide)
  have a9 := e 9 (by decide)
  have a15 := e 15 (by decide)
  have a19 := e 19 (by decide)
  have a20 := e 20 (by decide)
  have a21 := e 21 (by decide)
  have a22 := e 22 (by decide)
  unfold XC XB XF XO XWy XN xN xQ xD xP xO xW xL xn0 xn1 xn2 at *
  rw [a1, a2, a3, a4, a5, a6, a7, a8, a9, a15, a19, a20, a21, a22]
  exact h
/-- the cells of all that isn't text or start -/
def oth (o : Nat) : Prop := o = 31 ∨ o = 0 ∨ o = 16 ∨ o = 17 ∨ o = 18 ∨ o = 27 ∨ o = 28 ∨ o = 29 ∨ o = 35 ∨ o = 36 ∨ o = 37 ∨ o = 38 ∨ o = 39 ∨ o = 40 ∨ o = 41 ∨ o = 42 ∨ o = 44 ∨ o = 45 ∨ o = 46 ∨ o = 47 ∨ o = 55 ∨ o = 56 ∨ o = 57 ∨ o = 64
theorem J.newT {M M' : am_M} (h : J M) (hT' : JT M') (k : ∀ o, oth o → M' o = M o) (e1 : M' 54 1 = M 54 1) (e2 : M' 54 2 = M 54 2) : J M' := by
  obtain ⟨hT, hS, hG, hH, hP, hL, hE, hF⟩ := h
  refine ⟨hT', ?_, ?_, ?_, ?_, ?_, ?_, ?_⟩
  · unfold JS at *; rw [k 0 (by unfold oth; decide), e1, e2]; exact hS
  · unfold JG at *; rw [k 16 (by unfold oth; decide), k 55 (by unfold oth; decide)]; exact hG
  · unfold JH at *; rw [k 17 (by unfold oth; decide), k 56 (by unfold oth; decide)]; exact hH
  · unfold JP at *; rw [k 18 (by unfold oth; decide), k 57 (by unfold oth; decide)]; exact hP
  · unfold JL at *; rw [k 27 (by unfold oth; decide), k 28 (by unfold oth; decide), k 29 (by unfold oth; decide), k 64 (by unfold oth; decide), k 44 (by unfold oth; decide)]; exact hL
  · intro s hs
    have := hE s hs
    rw [k (35 + s) (by unfold oth; omega), k (35 + s + 4) (by unfold oth; omega), k 45 (by unfold oth; decide), k 46 (by unfold oth; decide), k 47 (by unfold oth; decide)]
    exact this
  · unfold JF at *; rw [k 0 (by unfold oth; decide), k 44 (by unfold oth; decide), k 31 (by unfold oth; decide)]; exact hF
theorem xcf.at {M M' : am_M} (h : xcf M M') {o : Nat} (ho : ¬ (o = 1 ∨ o = 3 ∨ o = 5 ∨ o = 7 ∨ o = 8 ∨ o = 9 ∨ o = 15 ∨ o = 19 ∨ o = 20 ∨ o = 21 ∨ o = 22)) : M' o = M o := h.1 o (by omega) (by omega) (by omega) (by omega) (by omega) (by omega) (by omega) (by omega) (by omega) (by omega) (by omega)
theorem XF.hi {M : am_M} (h : XF M) : (∀ j, 64 ≤ j → M 8 j = -1) ∧ ∀ j, 256 ≤ j → M 9 j = -1 := by
  refine ⟨fun j hj => ?_, fun j hj => ?_⟩
  · rw [h.2.1]; unfold xD dn; split
    · exact fpAll_hi _ _ hj
    · rfl
  · rw [h.2.2.2]; unfold nbT; rw [if_neg (by omega)]
/-- the answers of both are the same int, and all holds on -/
def eqI (r1 r2 : am_V) : Prop := ∃ v : Int, r1 = aI v ∧ r2 = aI v
def eqL (r1 r2 : am_V) : Prop := ∃ v : Int, r1 = aL v ∧ r2 = aL v

theorem re_0 {q : am_Q} {M : am_M} {bb : Nat → Int} {nn : Nat} (hJ : J M) (hnn : nn ≤ 71) (hb : ∀ j, j < nn → 0 ≤ bb j ∧ bb j < 256)
    (h : ∀ M1, XC M1 → xcf (am_ob (am_up M 1 2 (nn : Int)) 2 bb) M1 → q aJ M1) : S11_reread [aR 0, aI 0] (am_ob (am_up M 1 2 (nn : Int)) 2 bb) q := by
  obtain ⟨⟨⟨hB, hF, hO, hW, hN⟩, -⟩, -⟩ := hJ
  generalize hMa : am_ob (am_up M 1 2 (nn : Int)) 2 bb = Ma at *
  have en : xn0 Ma = nn := by unfold xn0; rw [← hMa, ob_ne (by decide), up_eq, set_eq]; rfl
  have eb : Ma 2 = bb := by rw [← hMa, ob_eq]
  have k : ∀ o, ¬ o = 1 → ¬ o = 2 → Ma o = M o := by intro o h1 h2; rw [← hMa, ob_ne h2, up_ne h1]
  have e0 : Ma 1 0 = M 1 0 := by rw [← hMa, ob_ne (by decide), up_eq, set_ne (by decide)]
  have e2 : Ma 1 2 = nn := by rw [← hMa, ob_ne (by decide), up_eq, set_eq]
  have hBa : XB Ma := by
    obtain ⟨⟨a1, a2, a3⟩, b1, b2, b3, c1, c2, c3, c4⟩ := hB
    unfold XB
    rw [k 3 (by decide) (by decide), k 5 (by decide) (by decide), k 20 (by decide) (by decide), k 4 (by decide) (by decide), k 6 (by decide) (by decide), e0, e2, en, eb]
    have n1 : xn1 Ma = xn1 M := by unfold xn1; rw [k 3 (by decide) (by decide)]
    have n2 : xn2 Ma = xn2 M := by unfold xn2; rw [k 5 (by decide) (by decide)]
    rw [n1, n2]
    exact ⟨⟨a1, a2, a3⟩, by omega, b2, b3, hb, c2, c3, c4⟩
  refine ct_reread0 hBa ?_ ?_ ?_ ?_ (fun M' h1 h2 => h M' h2 h1)
  · unfold XO xP xO xn1 at *; rw [k 3 (by decide) (by decide), k 4 (by decide) (by decide), k 15 (by decide) (by decide), k 19 (by decide) (by decide)]; exact hO
  · unfold XWy xW xL xn2 at *; rw [k 5 (by decide) (by decide), k 6 (by decide) (by decide), k 20 (by decide) (by decide), k 21 (by decide) (by decide)]; exact hW
  · rw [k 8 (by decide) (by decide)]; exact hF.hi.1
  · rw [k 9 (by decide) (by decide)]; exact hF.hi.2

theorem jn_0 {M M1 : am_M} {bb gg : Nat → Int} {nn : Nat} (hJ : J M) (hC : XC M1) (hx : xcf (am_ob (am_up M 1 2 (nn : Int)) 2 bb) M1) (hgr : ∀ j, j < 240 → 0 ≤ gg j ∧ gg j < 256) (hnn : nn ≤ 71)
    (hsame : ∀ j, j < 240 → ¬ (0 ≤ j ∧ j < 0 + 80) → gg j = M 49 j) (hbb : ∀ j, j < nn → bb j = gg (0 + j)) : J (am_up (am_ob M1 49 gg) 50 0 (nn : Int)) := by
  generalize hM2 : am_up (am_ob M1 49 gg) 50 0 (nn : Int) = M2
  have k2 : ∀ o, ¬ o = 49 → ¬ o = 50 → M2 o = M1 o := by intro o h1 h2; rw [← hM2, up_ne h2, ob_ne h1]
  have k1 : ∀ o, ¬ (o = 1 ∨ o = 3 ∨ o = 5 ∨ o = 7 ∨ o = 8 ∨ o = 9 ∨ o = 15 ∨ o = 19 ∨ o = 20 ∨ o = 21 ∨ o = 22) → ¬ o = 2 → M1 o = M o := by
    intro o h1 h2
    rw [hx.at h1, ob_ne h2, up_ne (by omega)]
  have e49 : M2 49 = gg := by rw [← hM2, up_ne (by decide), ob_eq]
  have e50 : ∀ j, M2 50 j = if j = 0 then (nn : Int) else M 50 j := by
    intro j
    rw [← hM2, up_eq, ob_ne (by decide), k1 50 (by omega) (by decide)]
    rfl
  obtain ⟨hT, -⟩ := id hJ
  obtain ⟨hC0, hby, s0, s1, s2, r0, r1, r2, es⟩ := hT
  have hC2 : XC M2 := hC.congr (fun o ho => k2 o (by omega) (by omega))
  have sz : ∀ j, ¬ j = 3 → M2 1 j = (am_ob (am_up M 1 2 (nn : Int)) 2 bb) 1 j ∧ M2 3 j = (am_ob (am_up M 1 2 (nn : Int)) 2 bb) 3 j ∧ M2 5 j = (am_ob (am_up M 1 2 (nn : Int)) 2 bb) 5 j := by
    intro j hj
    rw [k2 1 (by decide) (by decide), k2 3 (by decide) (by decide), k2 5 (by decide) (by decide)]
    exact hx.2.1 j hj
  have z := sz 2 (by decide)
  have z0 : M2 1 2 = (nn : Int) := by rw [z.1]; simp [am_ob, am_up, am_set]
  have z1 : M2 3 2 = M 3 2 := by rw [z.2.1]; simp [am_ob, am_up, am_set]
  have z2 : M2 5 2 = M 5 2 := by rw [z.2.2]; simp [am_ob, am_up, am_set]
  have m0 : xn0 M2 = nn := by unfold xn0; rw [z0]; rfl
  have m1 : xn1 M2 = xn1 M := by unfold xn1; rw [z1]
  have m2 : xn2 M2 = xn2 M := by unfold xn2; rw [z2]
  have b0 : M2 2 = bb := by rw [k2 2 (by decide) (by decide), hx.at (by decide)]; simp [am_ob, am_up]
  have b1 : M2 4 = M 4 := by rw [k2 4 (by decide) (by decide), hx.at (by decide)]; simp [am_ob, am_up]
  have b2 : M2 6 = M 6 := by rw [k2 6 (by decide) (by decide), hx.at (by decide)]; simp [am_ob, am_up]
  have hn0 := hC0.1.2.1
  have hn1 := hC0.1.2.2.1
  have hn2 := hC0.1.2.2.2.1
  have l0 : xn0 M ≤ 71 := by unfold xn0; omega
  have l1 : xn1 M ≤ 5 := by unfold xn1; omega
  have l2 : xn2 M ≤ 40 := by unfold xn2; omega
  refine hJ.newT ⟨hC2, by rw [e49]; exact hgr, ?_, ?_, ?_, ?_, ?_, ?_, ?_⟩ ?_ ?_ ?_
  · rw [z0, e50]; rfl
  · rw [z1, e50]; exact s1
  · rw [z2, e50]; exact s2
  · rw [m0, b0, e49]; exact fun j hj => by have := hbb j hj; rwa [Nat.zero_add] at this
  · rw [m1, b1, e49]; intro j hj; rw [r1 j hj, hsame (80 + j) (by omega) (by omega)]
  · rw [m2, b2, e49]; intro j hj; rw [r2 j hj, hsame (160 + j) (by omega) (by omega)]
  · rw [k2 20 (by decide) (by decide), hx.2.2, k2 54 (by decide) (by decide), k1 54 (by omega) (by decide)]; simp [am_ob, am_up]; exact es
  · intro o ho; unfold oth at ho; rw [k2 o (by omega) (by omega), k1 o (by omega) (by omega)]
  · rw [k2 54 (by decide) (by decide), k1 54 (by omega) (by decide)]
  · rw [k2 54 (by decide) (by decide), k1 54 (by omega) (by decide)]

theorem re_1 {q : am_Q} {M : am_M} {bb : Nat → Int} {nn : Nat} (hJ : J M) (hnn : nn ≤ 5) (hb : ∀ j, j < nn → 0 ≤ bb j ∧ bb j < 256)
    (h : ∀ M1, XC M1 → xcf (am_ob (am_up M 3 2 (nn : Int)) 4 bb) M1 → q aJ M1) : S11_reread [aR 0, aI 1] (am_ob (am_up M 3 2 (nn : Int)) 4 bb) q := by
  obtain ⟨⟨⟨hB, hF, hO, hW, hN⟩, -⟩, -⟩ := hJ
  generalize hMa : am_ob (am_up M 3 2 (nn : Int)) 4 bb = Ma at *
  have en : xn1 Ma = nn := by unfold xn1; rw [← hMa, ob_ne (by decide), up_eq, set_eq]; rfl
  have eb : Ma 4 = bb := by rw [← hMa, ob_eq]
  have k : ∀ o, ¬ o = 3 → ¬ o = 4 → Ma o = M o := by intro o h1 h2; rw [← hMa, ob_ne h2, up_ne h1]
  have e0 : Ma 3 0 = M 3 0 := by rw [← hMa, ob_ne (by decide), up_eq, set_ne (by decide)]
  have e2 : Ma 3 2 = nn := by rw [← hMa, ob_ne (by decide), up_eq, set_eq]
  have hBa : XB Ma := by
    obtain ⟨⟨a1, a2, a3⟩, b1, b2, b3, c1, c2, c3, c4⟩ := hB
    unfold XB
    rw [k 1 (by decide) (by decide), k 5 (by decide) (by decide), k 20 (by decide) (by decide), k 2 (by decide) (by decide), k 6 (by decide) (by decide), e0, e2, en, eb]
    have n1 : xn0 Ma = xn0 M := by unfold xn0; rw [k 1 (by decide) (by decide)]
    have n2 : xn2 Ma = xn2 M := by unfold xn2; rw [k 5 (by decide) (by decide)]
    rw [n1, n2]
    exact ⟨⟨a1, a2, a3⟩, b1, by omega, b3, c1, hb, c3, c4⟩
  have eD : xD Ma = xD M := by unfold xD xn0; rw [k 1 (by decide) (by decide), k 2 (by decide) (by decide)]
  have eL : xL Ma = xL M := by unfold xL xn2; rw [k 5 (by decide) (by decide), k 6 (by decide) (by decide)]
  have eW : xW Ma = xW M := by unfold xW xn2; rw [k 5 (by decide) (by decide), k 6 (by decide) (by decide)]
  refine ct_reread1 hBa ?_ ?_ ?_ (fun M' h1 h2 => h M' h2 h1)
  · unfold XF xn0 at *; rw [eD, k 1 (by decide) (by decide), k 2 (by decide) (by decide), k 7 (by decide) (by decide), k 8 (by decide) (by decide), k 9 (by decide) (by decide)]; exact hF
  · unfold XWy xn2 at *; rw [eW, eL, k 5 (by decide) (by decide), k 6 (by decide) (by decide), k 20 (by decide) (by decide), k 21 (by decide) (by decide)]; exact hW
  · unfold XN xN xQ at *; rw [eD, eL, eW, k 20 (by decide) (by decide), k 22 (by decide) (by decide)]; exact hN

theorem jn_1 {M M1 : am_M} {bb gg : Nat → Int} {nn : Nat} (hJ : J M) (hC : XC M1) (hx : xcf (am_ob (am_up M 3 2 (nn : Int)) 4 bb) M1) (hgr : ∀ j, j < 240 → 0 ≤ gg j ∧ gg j < 256) (hnn : nn ≤ 5)
    (hsame : ∀ j, j < 240 → ¬ (80 ≤ j ∧ j < 80 + 80) → gg j = M 49 j) (hbb : ∀ j, j < nn → bb j = gg (80 + j)) : J (am_up (am_ob M1 49 gg) 50 1 (nn : Int)) := by
  generalize hM2 : am_up (am_ob M1 49 gg) 50 1 (nn : Int) = M2
  have k2 : ∀ o, ¬ o = 49 → ¬ o = 50 → M2 o = M1 o := by intro o h1 h2; rw [← hM2, up_ne h2, ob_ne h1]
  have k1 : ∀ o, ¬ (o = 1 ∨ o = 3 ∨ o = 5 ∨ o = 7 ∨ o = 8 ∨ o = 9 ∨ o = 15 ∨ o = 19 ∨ o = 20 ∨ o = 21 ∨ o = 22) → ¬ o = 4 → M1 o = M o := by
    intro o h1 h2
    rw [hx.at h1, ob_ne h2, up_ne (by omega)]
  have e49 : M2 49 = gg := by rw [← hM2, up_ne (by decide), ob_eq]
  have e50 : ∀ j, M2 50 j = if j = 1 then (nn : Int) else M 50 j := by
    intro j
    rw [← hM2, up_eq, ob_ne (by decide), k1 50 (by omega) (by decide)]
    rfl
  obtain ⟨hT, -⟩ := id hJ
  obtain ⟨hC0, hby, s0, s1, s2, r0, r1, r2, es⟩ := hT
  have hC2 : XC M2 := hC.congr (fun o ho => k2 o (by omega) (by omega))
  have sz : ∀ j, ¬ j = 3 → M2 1 j = (am_ob (am_up M 3 2 (nn : Int)) 4 bb) 1 j ∧ M2 3 j = (am_ob (am_up M 3 2 (nn : Int)) 4 bb) 3 j ∧ M2 5 j = (am_ob (am_up M 3 2 (nn : Int)) 4 bb) 5 j := by
    intro j hj
    rw [k2 1 (by decide) (by decide), k2 3 (by decide) (by decide), k2 5 (by decide) (by decide)]
    exact hx.2.1 j hj
  have z := sz 2 (by decide)
  have z0 : M2 1 2 = M 1 2 := by rw [z.1]; simp [am_ob, am_up, am_set]
  have z1 : M2 3 2 = (nn : Int) := by rw [z.2.1]; simp [am_ob, am_up, am_set]
  have z2 : M2 5 2 = M 5 2 := by rw [z.2.2]; simp [am_ob, am_up, am_set]
  have m0 : xn0 M2 = xn0 M := by unfold xn0; rw [z0]
  have m1 : xn1 M2 = nn := by unfold xn1; rw [z1]; rfl
  have m2 : xn2 M2 = xn2 M := by unfold xn2; rw [z2]
  have b0 : M2 2 = M 2 := by rw [k2 2 (by decide) (by decide), hx.at (by decide)]; simp [am_ob, am_up]
  have b1 : M2 4 = bb := by rw [k2 4 (by decide) (by decide), hx.at (by decide)]; simp [am_ob, am_up]
  have b2 : M2 6 = M 6 := by rw [k2 6 (by decide) (by decide), hx.at (by decide)]; simp [am_ob, am_up]
  have hn0 := hC0.1.2.1
  have hn1 := hC0.1.2.2.1
  have hn2 := hC0.1.2.2.2.1
  have l0 : xn0 M ≤ 71 := by unfold xn0; omega
  have l1 : xn1 M ≤ 5 := by unfold xn1; omega
  have l2 : xn2 M ≤ 40 := by unfold xn2; omega
  refine hJ.newT ⟨hC2, by rw [e49]; exact hgr, ?_, ?_, ?_, ?_, ?_, ?_, ?_⟩ ?_ ?_ ?_
  · rw [z0, e50]; exact s0
  · rw [z1, e50]; rfl
  · rw [z2, e50]; exact s2
  · rw [m0, b0, e49]; intro j hj; rw [r0 j hj, hsame j (by omega) (by omega)]
  · rw [m1, b1, e49]; exact hbb
  · rw [m2, b2, e49]; intro j hj; rw [r2 j hj, hsame (160 + j) (by omega) (by omega)]
  · rw [k2 20 (by decide) (by decide), hx.2.2, k2 54 (by decide) (by decide), k1 54 (by omega) (by decide)]; simp [am_ob, am_up]; exact es
  · intro o ho; unfold oth at ho; rw [k2 o (by omega) (by omega), k1 o (by omega) (by omega)]
  · rw [k2 54 (by decide) (by decide), k1 54 (by omega) (by decide)]
  · rw [k2 54 (by decide) (by decide), k1 54 (by omega) (by decide)]

theorem re_2 {q : am_Q} {M : am_M} {bb : Nat → Int} {nn : Nat} (hJ : J M) (hnn : nn ≤ 40) (hb : ∀ j, j < nn → 0 ≤ bb j ∧ bb j < 256)
    (h : ∀ M1, XC M1 → xcf (am_ob (am_up M 5 2 (nn : Int)) 6 bb) M1 → q aJ M1) : S11_reread [aR 0, aI 2] (am_ob (am_up M 5 2 (nn : Int)) 6 bb) q := by
  obtain ⟨⟨⟨hB, hF, hO, hW, hN⟩, -⟩, -⟩ := hJ
  generalize hMa : am_ob (am_up M 5 2 (nn : Int)) 6 bb = Ma at *
  have en : xn2 Ma = nn := by unfold xn2; rw [← hMa, ob_ne (by decide), up_eq, set_eq]; rfl
  have eb : Ma 6 = bb := by rw [← hMa, ob_eq]
  have k : ∀ o, ¬ o = 5 → ¬ o = 6 → Ma o = M o := by intro o h1 h2; rw [← hMa, ob_ne h2, up_ne h1]
  have e0 : Ma 5 0 = M 5 0 := by rw [← hMa, ob_ne (by decide), up_eq, set_ne (by decide)]
  have e2 : Ma 5 2 = nn := by rw [← hMa, ob_ne (by decide), up_eq, set_eq]
  have hBa : XB Ma := by
    obtain ⟨⟨a1, a2, a3⟩, b1, b2, b3, c1, c2, c3, c4⟩ := hB
    unfold XB
    rw [k 1 (by decide) (by decide), k 3 (by decide) (by decide), k 20 (by decide) (by decide), k 2 (by decide) (by decide), k 4 (by decide) (by decide), e0, e2, en, eb]
    have n1 : xn0 Ma = xn0 M := by unfold xn0; rw [k 1 (by decide) (by decide)]
    have n2 : xn1 Ma = xn1 M := by unfold xn1; rw [k 3 (by decide) (by decide)]
    rw [n1, n2]
    exact ⟨⟨a1, a2, a3⟩, b1, b2, by omega, c1, c2, hb, c4⟩
  have eD : xD Ma = xD M := by unfold xD xn0; rw [k 1 (by decide) (by decide), k 2 (by decide) (by decide)]
  refine ct_reread2 hBa ?_ ?_ (fun M' h1 h2 => h M' h2 h1)
  · unfold XF xn0 at *; rw [eD, k 1 (by decide) (by decide), k 2 (by decide) (by decide), k 7 (by decide) (by decide), k 8 (by decide) (by decide), k 9 (by decide) (by decide)]; exact hF
  · unfold XO xP xO xn1 at *; rw [k 3 (by decide) (by decide), k 4 (by decide) (by decide), k 15 (by decide) (by decide), k 19 (by decide) (by decide)]; exact hO

theorem jn_2 {M M1 : am_M} {bb gg : Nat → Int} {nn : Nat} (hJ : J M) (hC : XC M1) (hx : xcf (am_ob (am_up M 5 2 (nn : Int)) 6 bb) M1) (hgr : ∀ j, j < 240 → 0 ≤ gg j ∧ gg j < 256) (hnn : nn ≤ 40)
    (hsame : ∀ j, j < 240 → ¬ (160 ≤ j ∧ j < 160 + 80) → gg j = M 49 j) (hbb : ∀ j, j < nn → bb j = gg (160 + j)) : J (am_up (am_ob M1 49 gg) 50 2 (nn : Int)) := by
  generalize hM2 : am_up (am_ob M1 49 gg) 50 2 (nn : Int) = M2
  have k2 : ∀ o, ¬ o = 49 → ¬ o = 50 → M2 o = M1 o := by intro o h1 h2; rw [← hM2, up_ne h2, ob_ne h1]
  have k1 : ∀ o, ¬ (o = 1 ∨ o = 3 ∨ o = 5 ∨ o = 7 ∨ o = 8 ∨ o = 9 ∨ o = 15 ∨ o = 19 ∨ o = 20 ∨ o = 21 ∨ o = 22) → ¬ o = 6 → M1 o = M o := by
    intro o h1 h2
    rw [hx.at h1, ob_ne h2, up_ne (by omega)]
  have e49 : M2 49 = gg := by rw [← hM2, up_ne (by decide), ob_eq]
  have e50 : ∀ j, M2 50 j = if j = 2 then (nn : Int) else M 50 j := by
    intro j
    rw [← hM2, up_eq, ob_ne (by decide), k1 50 (by omega) (by decide)]
    rfl
  obtain ⟨hT, -⟩ := id hJ
  obtain ⟨hC0, hby, s0, s1, s2, r0, r1, r2, es⟩ := hT
  have hC2 : XC M2 := hC.congr (fun o ho => k2 o (by omega) (by omega))
  have sz : ∀ j, ¬ j = 3 → M2 1 j = (am_ob (am_up M 5 2 (nn : Int)) 6 bb) 1 j ∧ M2 3 j = (am_ob (am_up M 5 2 (nn : Int)) 6 bb) 3 j ∧ M2 5 j = (am_ob (am_up M 5 2 (nn : Int)) 6 bb) 5 j := by
    intro j hj
    rw [k2 1 (by decide) (by decide), k2 3 (by decide) (by decide), k2 5 (by decide) (by decide)]
    exact hx.2.1 j hj
  have z := sz 2 (by decide)
  have z0 : M2 1 2 = M 1 2 := by rw [z.1]; simp [am_ob, am_up, am_set]
  have z1 : M2 3 2 = M 3 2 := by rw [z.2.1]; simp [am_ob, am_up, am_set]
  have z2 : M2 5 2 = (nn : Int) := by rw [z.2.2]; simp [am_ob, am_up, am_set]
  have m0 : xn0 M2 = xn0 M := by unfold xn0; rw [z0]
  have m1 : xn1 M2 = xn1 M := by unfold xn1; rw [z1]
  have m2 : xn2 M2 = nn := by unfold xn2; rw [z2]; rfl
  have b0 : M2 2 = M 2 := by rw [k2 2 (by decide) (by decide), hx.at (by decide)]; simp [am_ob, am_up]
  have b1 : M2 4 = M 4 := by rw [k2 4 (by decide) (by decide), hx.at (by decide)]; simp [am_ob, am_up]
  have b2 : M2 6 = bb := by rw [k2 6 (by decide) (by decide), hx.at (by decide)]; simp [am_ob, am_up]
  have hn0 := hC0.1.2.1
  have hn1 := hC0.1.2.2.1
  have hn2 := hC0.1.2.2.2.1
  have l0 : xn0 M ≤ 71 := by unfold xn0; omega
  have l1 : xn1 M ≤ 5 := by unfold xn1; omega
  have l2 : xn2 M ≤ 40 := by unfold xn2; omega
  refine hJ.newT ⟨hC2, by rw [e49]; exact hgr, ?_, ?_, ?_, ?_, ?_, ?_, ?_⟩ ?_ ?_ ?_
  · rw [z0, e50]; exact s0
  · rw [z1, e50]; exact s1
  · rw [z2, e50]; rfl
  · rw [m0, b0, e49]; intro j hj; rw [r0 j hj, hsame j (by omega) (by omega)]
  · rw [m1, b1, e49]; intro j hj; rw [r1 j hj, hsame (80 + j) (by omega) (by omega)]
  · rw [m2, b2, e49]; exact hbb
  · rw [k2 20 (by decide) (by decide), hx.2.2, k2 54 (by decide) (by decide), k1 54 (by omega) (by decide)]; simp [am_ob, am_up]; exact es
  · intro o ho; unfold oth at ho; rw [k2 o (by omega) (by omega), k1 o (by omega) (by omega)]
  · rw [k2 54 (by decide) (by decide), k1 54 (by omega) (by decide)]
  · rw [k2 54 (by decide) (by decide), k1 54 (by omega) (by decide)]
