/-! the reference's distances -/
def sm (F : Nat → Int) : Nat → Int
  | 0 => 0
  | k + 1 => sm F k + F k
theorem sm_set {F : Nat → Int} {j : Nat} {x : Int} : ∀ n, sm (am_set F j x) n = sm F n + if j < n then x - F j else 0 := by
  intro n
  induction n with
  | zero => rw [if_neg (by omega)]; rfl
  | succ n ih =>
    show sm (am_set F j x) n + am_set F j x n = sm F n + F n + _
    rw [ih]
    unfold am_set
    by_cases e : n = j
    · subst e
      rw [if_neg (by omega), if_pos rfl, if_pos (by omega)]; omega
    · rw [if_neg e]
      by_cases e2 : j < n
      · rw [if_pos e2, if_pos (by omega)]; omega
      · rw [if_neg e2, if_neg (by omega)]; omega
theorem sm_nn {F : Nat → Int} (h : ∀ j, j < 64 → 0 ≤ F j) : ∀ n, n ≤ 64 → 0 ≤ sm F n := by
  intro n
  induction n with
  | zero => intro _; exact Int.le_refl _
  | succ n ih =>
    intro hn
    have := ih (by omega)
    have := h n (by omega)
    show 0 ≤ sm F n + F n
    omega
def fI (d : Nat → Int) (K to : Int) (F : Nat → Int) : Prop := F to.toNat = 0 ∧ (∀ p, isP d p → F p.toNat = 1000000 ∨ ∃ (n : Nat) (c : Int), wk d to n c p ∧ F p.toNat = K * c + n) ∧ (∀ j, j < 64 → 0 ≤ F j ∧ F j ≤ 1000000) ∧ ∀ j, j < 64 → d j = -1 → F j = 1000000
def okE (d : Nat → Int) (K : Int) (F : Nat → Int) (p l : Nat) : Prop := isP d (p : Int) → ¬ bs d (p : Int) (l : Int) = -1 → F p ≤ F (bs d (p : Int) (l : Int)).toNat + K * d (bs d (p : Int) (l : Int)).toNat + 1
theorem set_id {f : Nat → Int} {j : Nat} {x : Int} (h : x = f j) : am_set f j x = f := by
  funext i; unfold am_set; by_cases e : i = j
  · rw [if_pos e, e, h]
  · rw [if_neg e]
def iF (to : Int) (i : Nat) (f : Nat → Int) : Nat → Int := fun j => if j < i then (if (j : Int) = to then 0 else 1000000) else f j
theorem iF_in {to : Int} {i j : Nat} {f : Nat → Int} (h : j < i) : iF to i f j = if (j : Int) = to then 0 else 1000000 := by unfold iF; rw [if_pos h]
theorem iF_set {to x : Int} {i : Nat} {f : Nat → Int} (hx : x = if (i : Int) = to then 0 else 1000000) : am_set (iF to i f) i x = iF to (i + 1) f := by
  funext j
  unfold am_set iF
  by_cases c : j = i
  · subst c; rw [if_pos rfl, if_pos (by omega), hx]
  · rw [if_neg c]
    by_cases c2 : j < i
    · rw [if_pos c2, if_pos (show j < i + 1 by omega)]
    · rw [if_neg c2, if_neg (show ¬ j < i + 1 by omega)]
theorem ct_findFar {q : am_Q} {M : am_M} {d : Nat → Int} {to K : Int} (hm : ∀ p, p < 64 → M 51 p = fm (d p)) (hd : dR d) (hto : isP d to) (hK : K = 0 ∨ K = 1000)
    (h : ∀ F : Nat → Int, (∀ p, isP d p → F p.toNat = if fF d K to p = -1 then 1000000 else fF d K to p) → (∀ j, j < 64 → d j = -1 → F j = 1000000) → q aJ (am_ob M 59 F)) : S12_findFar [aR 44, aI to, aI K] M q := by
  have hK0 : 0 ≤ K := by omega
  have hKd : ∀ r, isP d r → 0 ≤ K * d r.toNat ∧ K * d r.toNat ≤ 9000 := by
    intro r hr
    have h1 := hd r.toNat
    have h2 := hr.2.2
    rcases hK with e | e <;> rw [e] <;> omega
  have pass : ∀ (F0 : Nat → Int), (∀ (F : Nat → Int) (v3 : Int), fI d K to F → (v3 = 0 → ∀ p l : Nat, p < 64 → l < 4 → okE d K F p l) → (¬ v3 = 0 → sm F 64 < sm F0 64) → am_R K12_findFar q 33 [aR 44, aJ, aI K, aI v3, aJ, aJ, aJ, aJ] [] (am_ob M 59 F)) →
      ∀ (a p : Nat), p + a = 64 → ∀ (F : Nat → Int) (v3 : Int), fI d K to F → (v3 = 0 → F = F0 ∧ ∀ p' l : Nat, p' < p → l < 4 → okE d K F0 p' l) → (¬ v3 = 0 → sm F 64 < sm F0 64) → am_R K12_findFar q 42 [aR 44, aJ, aI K, aI v3, aI (p : Int), aJ, aJ, aJ] [] (am_ob M 59 F) := by
    intro F0 next a
    induction a with
    | zero =>
      intro p hp F v3 hF h1 h2
      refine g12_findFar_42 ⟨fun _ => next F v3 hF (fun hz p' l hp' hl => ?_) h2, fun hc => absurd hc (by omega)⟩
      have := h1 hz
      rw [this.1]
      exact this.2 p' l (by omega) hl
    | succ a iha =>
      intro p hp F v3 hF h1 h2
      have inner : ∀ (b l : Nat), l + b = 4 → ∀ (F : Nat → Int) (v3 : Int), fI d K to F → (v3 = 0 → F = F0 ∧ ∀ p' l' : Nat, (p' < p ∧ l' < 4) ∨ (p' = p ∧ l' < l) → okE d K F0 p' l') → (¬ v3 = 0 → sm F 64 < sm F0 64) → am_R K12_findFar q 52 [aR 44, aJ, aI K, aI v3, aI (p : Int), aI (l : Int), aJ, aJ] [] (am_ob M 59 F) := by
        intro b
        induction b with
        | zero =>
          intro l hl F v3 hF h1 h2
          refine g12_findFar_52 ⟨fun _ => ⟨by omega, iha (p + 1) (by omega) F v3 hF (fun hz => ⟨(h1 hz).1, fun p' l' hp' hl' => (h1 hz).2 p' l' (by omega)⟩) h2⟩, fun hc => absurd hc (by omega)⟩
        | succ b ihb =>
          intro l hl F v3 hF h1 h2
          refine g12_findFar_52 ?_
          have ep : ((p : Int)).toNat = p := rfl
          rw [ob_ne (by decide : (51 : Nat) ≠ 59), ob_eq, ep, hm p (by omega)]
          refine ⟨fun hc => absurd hc (by omega), fun _ => ⟨by omega, fun hpost => ⟨by omega, ?_⟩, fun hpost => ?_⟩⟩
          · have hpn : d p = -1 := by
              unfold fm at hpost
              have := hd p
              by_cases e : d p = -1
              · exact e
              · rw [if_neg e] at hpost; omega
            refine iha (p + 1) (by omega) F v3 hF (fun hz => ⟨(h1 hz).1, fun p' l' hp' hl' => ?_⟩) h2
            by_cases e : p' = p
            · subst e
              intro hP
              exact absurd hpn hP.2.2
            · exact (h1 hz).2 p' l' (by omega)
          · have hpl : ¬ d p = -1 := by
              intro e; apply hpost; unfold fm; rw [if_pos e]
            have hP : isP d (p : Int) := ⟨by omega, by omega, hpl⟩
            have e3 : f_12_beside (M 51) (p : Int) (l : Int) = bs d (p : Int) (l : Int) := mb_eq hm (fun p => (hd p).2) (by omega) (by omega) (by omega) (by omega) hpl
            rw [e3]
            have hFp := hF.2.2.1 p (by omega)
            refine ⟨mb_ob (by omega) (by omega), fun x3 hx3 => ?_⟩
            by_cases hn : x3 = -1
            · refine ⟨fun hc => absurd hn hc, fun x5 hx5 x8 hx8 x10 hx10 => ⟨by omega, ?_⟩⟩
              rw [if_pos hn] at hx5
              rw [if_pos (by omega)] at hx10
              rw [up_ob_eq, set_id hx10]
              refine ihb (l + 1) (by omega) F x8 hF (fun hz => ?_) (fun hz => ?_)
              · have hv : v3 = 0 := by
                  by_cases e : v3 = 0
                  · exact e
                  · rw [if_pos (Or.inl e)] at hx8; omega
                refine ⟨(h1 hv).1, fun p' l' hpl' => ?_⟩
                by_cases e : p' = p ∧ l' = l
                · obtain ⟨e1, e2⟩ := e
                  subst e1; subst e2
                  intro _ hb
                  exact absurd (hx3.symm.trans hn) hb
                · exact (h1 hv).2 p' l' (by omega)
              · refine h2 (fun hv => hz ?_)
                rw [if_neg (by omega)] at hx8; exact hx8
            · have hb : ¬ bs d (p : Int) (l : Int) = -1 := by rw [← hx3]; exact hn
              have hr := bs_pl hb
              rw [← hx3] at hr
              have hkd := hKd x3 hr
              have hFr := hF.2.2.1 x3.toNat (by have := hr.2.1; omega)
              have e51 : M 51 x3.toNat = d x3.toNat := by
                rw [hm _ (by have := hr.2.1; omega)]; unfold fm; rw [if_neg hr.2.2]
              rw [e51]
              refine ⟨fun _ => ⟨⟨hr.1, hr.2.1⟩, by omega, by omega, by omega⟩, fun x5 hx5 x8 hx8 x10 hx10 => ⟨by omega, ?_⟩⟩
              rw [if_neg hn] at hx5
              rw [up_ob_eq]
              by_cases hle : F p ≤ x5
              · rw [if_pos hle] at hx10
                rw [set_id hx10]
                refine ihb (l + 1) (by omega) F x8 hF (fun hz => ?_) (fun hz => ?_)
                · have hv : v3 = 0 := by
                    by_cases e : v3 = 0
                    · exact e
                    · rw [if_pos (Or.inl e)] at hx8; omega
                  refine ⟨(h1 hv).1, fun p' l' hpl' => ?_⟩
                  by_cases e : p' = p ∧ l' = l
                  · obtain ⟨e1, e2⟩ := e
                    subst e1; subst e2
                    intro _ _
                    rw [← hx3, ← (h1 hv).1]
                    omega
                  · exact (h1 hv).2 p' l' (by omega)
                · refine h2 (fun hv => hz ?_)
                  rw [if_neg (by omega)] at hx8; exact hx8
              · rw [if_neg hle] at hx10
                rw [if_pos (Or.inr hle)] at hx8
                have hsm := sm_set (F := F) (j := p) (x := x10) 64
                rw [if_pos (by omega)] at hsm
                refine ihb (l + 1) (by omega) _ x8 ⟨?_, ?_, ?_, ?_⟩ (fun hz => by omega) (fun _ => ?_)
                · have e : to.toNat ≠ p := by
                    intro e
                    have := hF.1
                    rw [e] at this
                    omega
                  rw [set_ne e]; exact hF.1
                · intro r hrP
                  by_cases e : r.toNat = p
                  · right
                    have er : r = (p : Int) := by have := hrP.1; omega
                    rw [e, set_eq, hx10, hx5]
                    rcases hF.2.1 x3 hr with hfar | ⟨n, c, hw, he⟩
                    · omega
                    · refine ⟨n + 1, c + d x3.toNat, ?_, ?_⟩
                      · rw [er]
                        refine ⟨l, by omega, hb, ?_⟩
                        rw [← hx3, show c + d x3.toNat - d x3.toNat = c by omega]
                        exact hw
                      · rw [Int.mul_add]
                        have : ((n + 1 : Nat) : Int) = (n : Int) + 1 := rfl
                        omega
                  · rw [set_ne e]; exact hF.2.1 r hrP
                · intro j hj
                  by_cases e : j = p
                  · subst e; rw [set_eq]; omega
                  · rw [set_ne e]; exact hF.2.2.1 j hj
                · intro j hj hjd
                  have e : j ≠ p := by intro e; subst e; exact hpl hjd
                  rw [set_ne e]; exact hF.2.2.2 j hj hjd
                · by_cases hv : v3 = 0
                  · have := (h1 hv).1
                    rw [← this]; omega
                  · have := h2 hv
                    omega
      exact g12_findFar_42 ⟨fun hc => absurd hc (by omega), fun _ => inner 4 0 (by omega) F v3 hF (fun hz => ⟨(h1 hz).1, fun p' l' hp' => (h1 hz).2 p' l' (by omega) (by omega)⟩) h2⟩
  have main : ∀ (m : Nat) (F : Nat → Int) (v3 : Int), sm F 64 ≤ m → fI d K to F → (v3 = 0 → ∀ p l : Nat, p < 64 → l < 4 → okE d K F p l) → am_R K12_findFar q 33 [aR 44, aJ, aI K, aI v3, aJ, aJ, aJ, aJ] [] (am_ob M 59 F) := by
    have fin : ∀ (F : Nat → Int), fI d K to F → (∀ p l : Nat, p < 64 → l < 4 → okE d K F p l) → q aJ (am_ob M 59 F) := by
      intro F hF hok
      refine h F ?_ hF.2.2.2
      refine F_fix hd hK0 (by omega) hF.1 (fun p hp l hl hb => ?_) hF.2.1
      have e : ((p.toNat : Nat) : Int) = p := by have := hp.1; omega
      have := hok p.toNat l (by have := hp.2.1; omega) hl
      unfold okE at this
      rw [e] at this
      exact this hp hb
    intro m
    induction m with
    | zero =>
      intro F v3 hm0 hF hok
      refine g12_findFar_33 ⟨fun hz => fin F hF (hok hz), fun hz => ?_⟩
      refine pass F (fun F' v3' hF' h1' h2' => ?_) 64 0 (by omega) F 0 hF (fun _ => ⟨rfl, fun p' l hp' => by omega⟩) (fun hc => absurd rfl hc)
      have := sm_nn (F := F') (fun j hj => (hF'.2.2.1 j hj).1) 64 (by omega)
      by_cases hv : v3' = 0
      · exact g12_findFar_33 ⟨fun _ => fin F' hF' (h1' hv), fun hc => absurd hv hc⟩
      · have := h2' hv; omega
    | succ m ih =>
      intro F v3 hm0 hF hok
      refine g12_findFar_33 ⟨fun hz => fin F hF (hok hz), fun hz => ?_⟩
      refine pass F (fun F' v3' hF' h1' h2' => ?_) 64 0 (by omega) F 0 hF (fun _ => ⟨rfl, fun p' l hp' => by omega⟩) (fun hc => absurd rfl hc)
      by_cases hv : v3' = 0
      · exact g12_findFar_33 ⟨fun _ => fin F' hF' (h1' hv), fun hc => absurd hv hc⟩
      · have := h2' hv
        exact ih F' v3' (by omega) hF' h1'
  have init : ∀ (k i : Nat), i + k = 64 → am_R K12_findFar q 2 [aR 44, aI to, aI K, aI (i : Int), aJ, aJ, aJ, aJ] [] (am_ob M 59 (iF to i (M 59))) := by
    intro k
    induction k with
    | zero =>
      intro i hi
      refine g12_findFar_2 ⟨fun _ => ?_, fun hc => absurd hc (by omega)⟩
      have ht : ((to.toNat : Nat) : Int) = to := by have := hto.1; omega
      have ht2 : to.toNat < 64 := by have := hto.2.1; omega
      have hi' : i = 64 := by omega
      subst hi'
      refine main (sm (iF to 64 (M 59)) 64).toNat (iF to 64 (M 59)) 1 (by omega) ⟨?_, ?_, ?_, ?_⟩ (fun hc => by omega)
      · rw [iF_in ht2, if_pos ht]
      · intro p hp
        have e : ((p.toNat : Nat) : Int) = p := by have := hp.1; omega
        have := hp.2.1
        rw [iF_in (by omega), e]
        by_cases e2 : p = to
        · right; rw [if_pos e2]; exact ⟨0, 0, ⟨e2, rfl⟩, by rw [Int.mul_zero]; rfl⟩
        · left; rw [if_neg e2]
      · intro j hj
        rw [iF_in hj]
        split <;> omega
      · intro j hj hjd
        rw [iF_in hj, if_neg]
        intro e
        have := hto.2.2
        rw [← e] at this
        exact this hjd
    | succ k ih =>
      intro i hi
      refine g12_findFar_2 ⟨fun hc => absurd hc (by omega), fun _ x3 hx3 => ⟨by omega, by omega, ?_⟩⟩
      have := ih (i + 1) (by omega)
      rw [up_ob_eq, Int.toNat_natCast, iF_set hx3]
      exact this
  refine e12_findFar ?_
  have := init 64 0 (by omega)
  have e0 : am_ob M 59 (iF to 0 (M 59)) = M := ob_id' (by funext j; unfold iF; rw [if_neg (by omega)])
  rw [e0] at this
  exact this
/-- how near -/
noncomputable def nr (d : Nat → Int) (q p : Int) : Int := if (0 ≤ q ∧ q < 64 ∧ ¬ d q.toNat = -1) ∧ (0 ≤ p ∧ p < 64 ∧ ¬ d p.toNat = -1) then fF d 0 q p else -1
theorem nr_rng {d : Nat → Int} (hd : dR d) (q p : Int) : -1 ≤ nr d q p ∧ nr d q p ≤ 63 := by
  unfold nr
  by_cases h : (0 ≤ q ∧ q < 64 ∧ ¬ d q.toNat = -1) ∧ (0 ≤ p ∧ p < 64 ∧ ¬ d p.toNat = -1)
  · rw [if_pos h]
    have h1 := fF_up hd (K := 0) (q := q) (p := p) (Int.le_refl 0) h.2
    have h2 := fF_nn hd (K := 0) (q := q) (p := p) (Int.le_refl 0)
    omega
  · rw [if_neg h]; omega
theorem nr_sym {d : Nat → Int} (hd : dR d) (q p : Int) : nr d q p = nr d p q := by
  unfold nr
  by_cases h : (0 ≤ q ∧ q < 64 ∧ ¬ d q.toNat = -1) ∧ (0 ≤ p ∧ p < 64 ∧ ¬ d p.toNat = -1)
  · rw [if_pos h, if_pos ⟨h.2, h.1⟩]; exact fF_sym hd h.2 h.1
  · rw [if_neg h, if_neg (fun h2 => h ⟨h2.2, h2.1⟩)]
theorem nr_pl {d : Nat → Int} {q p : Int} (h : ¬ nr d q p = -1) : isP d q ∧ isP d p := by
  unfold nr at h
  by_cases h2 : (0 ≤ q ∧ q < 64 ∧ ¬ d q.toNat = -1) ∧ (0 ≤ p ∧ p < 64 ∧ ¬ d p.toNat = -1)
  · exact h2
  · rw [if_neg h2] at h; exact absurd rfl h
theorem nr_zero {d : Nat → Int} (hd : dR d) {q : Int} (h : isP d q) : nr d q q = 0 := by
  unfold nr; rw [if_pos ⟨h, h⟩]; exact fF_z hd (Int.le_refl 0)
def rF (v : Int) : Int := if v = -1 then 1000000 else v
theorem ct_findNear {q : am_Q} {M : am_M} {d : Nat → Int} {to : Int} (hm : ∀ p, p < 64 → M 51 p = fm (d p)) (hd : dR d) (hto : isP d to)
    (h : ∀ F : Nat → Int, (∀ j : Nat, j < 64 → F j = rF (nr d to (j : Int))) → q aJ (am_ob M 59 F)) : S12_findFar [aR 44, aI to, aI 0] M q := by
  refine ct_findFar hm hd hto (Or.inl rfl) (fun F h1 h2 => h F (fun j hj => ?_))
  have e : ((j : Int)).toNat = j := rfl
  by_cases hp : d j = -1
  · have hn : nr d to (j : Int) = -1 := by unfold nr; rw [if_neg (fun hx => hx.2.2.2 hp)]
    unfold rF
    rw [hn, if_pos rfl]; exact h2 j hj hp
  · have hP : isP d (j : Int) := ⟨by omega, by omega, hp⟩
    have := h1 (j : Int) hP
    have hn : nr d to (j : Int) = fF d 0 to (j : Int) := by unfold nr; rw [if_pos ⟨hto, hP⟩]
    unfold rF
    rw [hn]
    exact this
