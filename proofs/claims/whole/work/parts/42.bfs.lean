/-! the class's distances -/
theorem cnt_set {s : Nat → Int} {j : Nat} {x : Int} (hs : s j = -1) (hx : ¬ x = -1) : ∀ n, cntP (am_set s j x) n = cntP s n + if j < n then 1 else 0 := by
  intro n
  induction n with
  | zero => rw [if_neg (by omega)]; rfl
  | succ n ih =>
    show cntP (am_set s j x) n + (if am_set s j x n = -1 then 0 else 1) = cntP s n + (if s n = -1 then 0 else 1) + _
    rw [ih]
    by_cases e : n = j
    · subst e
      rw [set_eq, if_neg (by omega), if_neg hx, if_pos hs, if_pos (by omega)]
    · rw [set_ne e]
      by_cases e2 : j < n
      · rw [if_pos e2, if_pos (show j < n + 1 by omega)]; omega
      · rw [if_neg e2, if_neg (show ¬ j < n + 1 by omega)]; omega
def bI (d : Nat → Int) (q : Int) (s R : Nat → Int) (e : Nat) : Prop :=
  (1 ≤ e ∧ e ≤ 64 ∧ cntP s 64 = (e : Int)) ∧ (∀ i, i < e → isP d (R i) ∧ 0 ≤ s (R i).toNat ∧ s (R i).toNat ≤ i) ∧ (∀ j, j < 64 → ¬ s j = -1 → ∃ i, i < e ∧ R i = (j : Int)) ∧ (∀ i j, i ≤ j → j < e → s (R i).toNat ≤ s (R j).toNat) ∧ (∀ j : Nat, j < 64 → s j = -1 ∨ (0 ≤ s j ∧ ∃ c, wk d q (s j).toNat c (j : Int))) ∧ s q.toNat = 0
def bC (d : Nat → Int) (s R : Nat → Int) (i l : Nat) : Prop := ∀ l' : Nat, l' < l → ¬ bs d (R i) (l' : Int) = -1 → ¬ s (bs d (R i) (l' : Int)).toNat = -1 ∧ s (bs d (R i) (l' : Int)).toNat ≤ s (R i).toNat + 1
theorem ct_measure {q : am_Q} {M : am_M} {d : Nat → Int} {v1 : Int} (h8 : M 8 = d) (h9 : M 9 = nbT d) (hd : dR d)
    (h : ∀ g r : Nat → Int, (∀ j : Nat, j < 64 → g j = nr d v1 (j : Int)) → q aJ (am_ob (am_ob M 11 g) 12 r)) : S0_measureFrom [aR 10, aI v1] M q := by
  refine e0_measureFrom (ct_fillI (N := 64) rfl (by decide) ?_)
  rw [ob_ne (by decide : (8 : Nat) ≠ 11), h8]
  refine ⟨fun hP => ⟨by omega, ?_⟩, fun hP => ?_⟩
  · have hq : isP d v1 := ⟨by omega, by omega, hP.2.2⟩
    have fin : ∀ (s R : Nat → Int) (e : Nat), bI d v1 s R e → (∀ i, i < e → bC d s R i 4) → q aJ (am_ob (am_ob M 11 s) 12 R) := by
      intro s R e hI hC
      obtain ⟨⟨he1, he2, hcn⟩, hR, hin, hmo, hwk, h0⟩ := hI
      have hle : ∀ j, j < 64 → s j ≤ 63 := by
        intro j hj
        by_cases c : s j = -1
        · omega
        · obtain ⟨i, hi, hRi⟩ := hin j hj c
          have := hR i hi
          rw [hRi] at this
          have e : ((j : Int)).toNat = j := rfl
          rw [e] at this
          omega
      refine h s R (fun j hj => ?_)
      have key := F_fix hd (K := 0) (S := 1000) (q := v1) (Int.le_refl 0) (by decide) (F := fun j => if s j = -1 then 1000 else s j) (by show (if s v1.toNat = -1 then 1000 else s v1.toNat) = 0; rw [h0]; rfl) (fun p hp l hl hb => ?_) (fun p hp => ?_)
      · have e : ((j : Int)).toNat = j := rfl
        unfold nr
        by_cases hp : d j = -1
        · rw [if_neg (fun hx => hx.2.2.2 hp)]
          by_cases c : s j = -1
          · exact c
          · obtain ⟨i, hi, hRi⟩ := hin j hj c
            have := (hR i hi).1.2.2
            rw [hRi, e] at this
            exact absurd hp this
        · have hPj : isP d (j : Int) := ⟨by omega, by omega, hp⟩
          rw [if_pos ⟨hq, hPj⟩]
          have h2 := key (j : Int) hPj
          have h3 : (if s j = -1 then 1000 else s j) = if fF d 0 v1 (j : Int) = -1 then 1000 else fF d 0 v1 (j : Int) := h2
          have h4 := hle j hj
          have h5 := fF_up hd (K := 0) (q := v1) (Int.le_refl 0) hPj
          by_cases c : s j = -1
          · rw [if_pos c] at h3
            by_cases c2 : fF d 0 v1 (j : Int) = -1
            · rw [c, c2]
            · rw [if_neg c2] at h3; omega
          · rw [if_neg c] at h3
            by_cases c2 : fF d 0 v1 (j : Int) = -1
            · rw [if_pos c2] at h3; omega
            · rw [if_neg c2] at h3; exact h3
      · show (if s p.toNat = -1 then 1000 else s p.toNat) ≤ (if s (bs d p (l : Int)).toNat = -1 then 1000 else s (bs d p (l : Int)).toNat) + 0 * d (bs d p (l : Int)).toNat + 1
        have h4 := hle p.toNat (by have := hp.2.1; omega)
        have hr := bs_pl hb
        by_cases c : s (bs d p (l : Int)).toNat = -1
        · rw [if_pos c]; split <;> omega
        · rw [if_neg c]
          obtain ⟨i, hi, hRi⟩ := hin _ (by have := hr.2.1; omega) c
          have er : (((bs d p (l : Int)).toNat : Nat) : Int) = bs d p (l : Int) := by have := hr.1; omega
          rw [er] at hRi
          obtain ⟨l', hl', hb'⟩ := bs_sym hp hl hb
          have := hC i hi l' hl' (by rw [hRi, hb']; have := hp.1; omega)
          rw [hRi, hb'] at this
          rw [if_neg this.1]
          omega
      · show (if s p.toNat = -1 then 1000 else s p.toNat) = 1000 ∨ ∃ (n : Nat) (c : Int), wk d v1 n c p ∧ (if s p.toNat = -1 then 1000 else s p.toNat) = 0 * c + n
        have e : ((p.toNat : Nat) : Int) = p := by have := hp.1; omega
        rcases hwk p.toNat (by have := hp.2.1; omega) with c | ⟨c1, c, hw⟩
        · left; rw [if_pos c]
        · right
          rw [e] at hw
          refine ⟨_, c, hw, ?_⟩
          rw [if_neg (by omega)]
          omega
    have outer : ∀ (a k e : Nat) (s R : Nat → Int), k + a = 64 → k ≤ e → bI d v1 s R e → (∀ i, i < k → bC d s R i 4) → (k < e → ∀ j, j < e → s (R j).toNat ≤ s (R k).toNat + 1) → am_R K0_measureFrom q 38 [aR 10, aJ, aI (e : Int), aI (k : Int), aJ, aJ, aJ] [] (am_ob (am_ob M 11 s) 12 R) := by
      intro a
      induction a with
      | zero =>
        intro k e s R hk hke hI hC hm
        have he2 := hI.1.2.1
        have ek : k = e := by omega
        subst ek
        exact g0_measureFrom_38 ⟨fun _ => fin s R k hI hC, fun hc => absurd hc (by omega)⟩
      | succ a ih =>
        intro k e s R hk hke hI hC hm
        by_cases hke2 : k = e
        · subst hke2
          exact g0_measureFrom_38 ⟨fun _ => fin s R k hI hC, fun hc => absurd hc (by omega)⟩
        · refine g0_measureFrom_38 ⟨fun hc => absurd hc (by omega), fun _ => ⟨fun hc => absurd hc (by omega), fun _ => ⟨by omega, fun x3 hx3 => ?_⟩⟩⟩
          rw [ob_eq] at hx3
          have hx3' : x3 = R k := hx3
          have inner : ∀ (b l e : Nat) (s R : Nat → Int), l + b = 4 → k < e → bI d v1 s R e → (∀ i, i < k → bC d s R i 4) → bC d s R k l → (∀ j, j < e → s (R j).toNat ≤ s (R k).toNat + 1) → x3 = R k → am_R K0_measureFrom q 60 [aR 10, aJ, aI (e : Int), aI (k : Int), aI x3, aI (l : Int), aJ] [] (am_ob (am_ob M 11 s) 12 R) := by
            intro b
            induction b with
            | zero =>
              intro l e s R hl hke hI hC hCk hm hx3
              have el : l = 4 := by omega
              subst el
              refine g0_measureFrom_60 ⟨fun _ => ⟨by omega, ih (k + 1) e s R (by omega) (by omega) hI (fun i hi => ?_) (fun hk1 j hj => ?_)⟩, fun hc => absurd hc (by omega)⟩
              · by_cases c : i = k
                · rw [c]; exact hCk
                · exact hC i (by omega)
              · have h1 := hm j hj
                have h2 := hI.2.2.2.1 k (k + 1) (by omega) hk1
                omega
            | succ b ihb =>
              intro l e s R hl hke hI hC hCk hm hx3
              have hI0 := hI
              obtain ⟨⟨he1, he2, hcn⟩, hR, hin, hmo, hwk, h0⟩ := hI
              have hRk := hR k hke
              rw [← hx3] at hRk
              refine g0_measureFrom_60 ?_
              have e9 : (am_ob (am_ob M 11 s) 12 R) 9 = nbT d := by rw [ob_ne (by decide), ob_ne (by decide), h9]
              have e11 : (am_ob (am_ob M 11 s) 12 R) 11 = s := by rw [ob_ne (by decide), ob_eq]
              rw [e9, e11]
              have skip : (¬ bs d x3 (l : Int) = -1 → ¬ s (bs d x3 (l : Int)).toNat = -1) → am_R K0_measureFrom q 60 [aR 10, aJ, aI (e : Int), aI (k : Int), aI x3, aI ((l : Int) + 1), aJ] [] (am_ob (am_ob M 11 s) 12 R) := by
                intro hs
                refine ihb (l + 1) e s R (by omega) hke hI0 hC (fun l' hl' hb' => ?_) hm hx3
                by_cases c : l' = l
                · subst c
                  rw [← hx3] at hb' ⊢
                  have hs2 := hs hb'
                  have hr := bs_pl hb'
                  refine ⟨hs2, ?_⟩
                  obtain ⟨i, hi, hRi⟩ := hin _ (by have := hr.2.1; omega) hs2
                  have er : (((bs d x3 (l' : Int)).toNat : Nat) : Int) = bs d x3 (l' : Int) := by have := hr.1; omega
                  rw [er] at hRi
                  have := hm i hi
                  rw [hRi, ← hx3] at this
                  exact this
                · exact hCk l' (by omega) hb'
              refine ⟨fun hc => absurd hc (by omega), fun _ => ⟨ob_bs (by have := hRk.1.1; omega) hRk.1.2.1 (by omega) (by omega), fun x2 hx2 => ?_⟩⟩
              have hx2' : x2 = bs d x3 (l : Int) := hx2
              have hrng := bs_rng d x3 (l : Int)
              refine ⟨fun hneg => ⟨by omega, skip (fun hb => ?_)⟩, fun hnn => ⟨fun hbig => ⟨by omega, skip (fun hb => ?_)⟩, fun hsm => ⟨by omega, fun hnew => ⟨fun hfull => ?_, fun hnf => ⟨⟨hRk.1.1, hRk.1.2.1⟩, ⟨by omega, by omega⟩, fun x7 hx7 => ⟨by omega, by omega, by omega, ?_⟩⟩⟩, fun hold => ⟨by omega, skip (fun hb => ?_)⟩⟩⟩⟩
              · omega
              · omega
              · have := cnt_63 (f := s) (j := x2.toNat) (by omega) hnew
                omega
              · have hb : ¬ bs d x3 (l : Int) = -1 := by omega
                have hP2 := bs_pl hb
                rw [← hx2'] at hP2
                have hne : ∀ i, i < e → ¬ (R i).toNat = x2.toNat := by
                  intro i hi e1
                  have := (hR i hi).2.1
                  rw [e1, hnew] at this
                  omega
                have ex2 : ((x2.toNat : Nat) : Int) = x2 := by omega
                have eT : ((e : Int)).toNat = e := rfl
                rw [eT, up_ob_ne (by decide), up_ob_eq, up_ob_eq]
                have hRi : ∀ i, i < e → am_set R e x2 i = R i := fun i hi => set_ne (by omega)
                have hsi : ∀ i, i < e → am_set s x2.toNat x7 (R i).toNat = s (R i).toNat := fun i hi => set_ne (hne i hi)
                have hRe : am_set R e x2 e = x2 := set_eq
                have hse : am_set s x2.toNat x7 x2.toNat = x7 := set_eq
                have hkk : s (R k).toNat + 1 = x7 := by rw [← hx3]; omega
                have hCn : ∀ i, i < e → ∀ l0, bC d s R i l0 → bC d (am_set s x2.toNat x7) (am_set R e x2) i l0 := by
                  intro i hi l0 hCi l' hl' hb'
                  rw [hRi i hi] at hb' ⊢
                  have h1 := hCi l' hl' hb'
                  have hn2 : (bs d (R i) (l' : Int)).toNat ≠ x2.toNat := by
                    intro e1; rw [e1] at h1; exact h1.1 hnew
                  rw [set_ne hn2, hsi i hi]
                  exact h1
                refine ihb (l + 1) (e + 1) _ _ (by omega) (by omega) ⟨⟨by omega, by omega, ?_⟩, ?_, ?_, ?_, ?_, ?_⟩ ?_ ?_ ?_ ?_
                · rw [cnt_set hnew (by omega), if_pos (by omega), hcn]; rfl
                · intro i hi
                  by_cases c : i = e
                  · subst c
                    rw [hRe, hse]
                    have h3 := (hR k hke).2
                    exact ⟨hP2, by omega, by omega⟩
                  · rw [hRi i (by omega), hsi i (by omega)]
                    exact hR i (by omega)
                · intro j hj hsj
                  by_cases c : j = x2.toNat
                  · exact ⟨e, by omega, by rw [hRe, c, ex2]⟩
                  · rw [set_ne c] at hsj
                    obtain ⟨i, hi, h1⟩ := hin j hj hsj
                    exact ⟨i, by omega, by rw [hRi i hi]; exact h1⟩
                · intro i j hij hj
                  by_cases c : j = e
                  · subst c
                    rw [hRe, hse]
                    by_cases c2 : i = j
                    · subst c2; rw [hRe, hse]; exact Int.le_refl _
                    · rw [hRi i (by omega), hsi i (by omega)]
                      have := hm i (by omega)
                      omega
                  · rw [hRi i (by omega), hsi i (by omega), hRi j (by omega), hsi j (by omega)]
                    exact hmo i j hij (by omega)
                · intro j hj
                  by_cases c : j = x2.toNat
                  · right
                    rw [c, hse, ex2]
                    refine ⟨by omega, ?_⟩
                    rcases hwk x3.toNat (by have := hRk.1.2.1; omega) with w | ⟨w1, cc, w2⟩
                    · omega
                    · have e3 : ((x3.toNat : Nat) : Int) = x3 := by have := hRk.1.1; omega
                      rw [e3] at w2
                      obtain ⟨l', hl', hb'⟩ := bs_sym hRk.1 (show l < 4 by omega) hb
                      rw [← hx2'] at hb'
                      refine ⟨cc + d x3.toNat, ?_⟩
                      have en : x7.toNat = (s x3.toNat).toNat + 1 := by omega
                      rw [en]
                      refine ⟨l', hl', by rw [hb']; have := hRk.1.1; omega, ?_⟩
                      rw [hb', show cc + d x3.toNat - d x3.toNat = cc by omega]
                      exact w2
                  · rw [set_ne c]; exact hwk j hj
                · have : v1.toNat ≠ x2.toNat := by intro e1; rw [← e1, h0] at hnew; omega
                  rw [set_ne this]; exact h0
                · intro i hi; exact hCn i (by omega) 4 (hC i hi)
                · intro l' hl' hb'
                  by_cases c : l' = l
                  · subst c
                    rw [hRi k hke] at hb' ⊢
                    rw [← hx3, ← hx2', hse, hx3, hsi k hke]
                    exact ⟨by omega, by omega⟩
                  · exact hCn k hke l hCk l' (by omega) hb'
                · intro j hj
                  rw [hRi k hke, hsi k hke]
                  by_cases c : j = e
                  · subst c; rw [hRe, hse]; omega
                  · rw [hRi j (by omega), hsi j (by omega)]; exact hm j (by omega)
                · rw [hRi k hke]; exact hx3
              · rw [← hx2']; exact hold
          exact inner 4 0 e s R (by omega) (by omega) hI hC (fun l' hl' => by omega) (hm (by omega)) hx3'
    have hv : ((v1.toNat : Nat) : Int) = v1 := by omega
    rw [up_ob_eq]
    have e0 : am_up (am_ob M 11 (am_set (am_fl (M 11) 64 (-1)) v1.toNat 0)) 12 0 v1 = am_ob (am_ob M 11 (am_set (am_fl (M 11) 64 (-1)) v1.toNat 0)) 12 (am_set (M 12) 0 v1) := by rw [up_as, ob_ne (by decide)]
    rw [e0]
    have fl : ∀ j, j < 64 → am_fl (M 11) 64 (-1) j = -1 := fun j hj => by unfold am_fl; rw [if_pos hj]
    have R0 : am_set (M 12) 0 v1 0 = v1 := set_eq
    refine outer 64 0 1 _ _ (by omega) (by omega) ⟨⟨by omega, by omega, ?_⟩, ?_, ?_, ?_, ?_, ?_⟩ (fun i hi => by omega) ?_
    · rw [cnt_set (fl _ (by omega)) (by decide), if_pos (by omega)]
      have hz : ∀ n, n ≤ 64 → cntP (am_fl (M 11) 64 (-1)) n = 0 := by
        intro n
        induction n with
        | zero => intro _; rfl
        | succ n ih =>
          intro hn
          show cntP _ n + (if am_fl (M 11) 64 (-1) n = -1 then 0 else 1) = 0
          rw [ih (by omega), fl n (by omega)]; rfl
      rw [hz 64 (by omega)]; rfl
    · intro i hi
      have : i = 0 := by omega
      subst this
      rw [R0, set_eq]
      exact ⟨hq, by omega, by omega⟩
    · intro j hj hs
      by_cases c : j = v1.toNat
      · exact ⟨0, by omega, by rw [R0, c, hv]⟩
      · rw [set_ne c, fl j hj] at hs; exact absurd rfl hs
    · intro i j hij hj
      have e1 : j = 0 := by omega
      have e2 : i = 0 := by omega
      subst e1; subst e2
      exact Int.le_refl _
    · intro j hj
      by_cases c : j = v1.toNat
      · right; rw [c, set_eq, hv]; exact ⟨by omega, 0, rfl, rfl⟩
      · left; rw [set_ne c, fl j hj]
    · exact set_eq
    · intro _ j hj
      have : j = 0 := by omega
      subst this
      omega
  · have e12 : am_ob M 11 (am_fl (M 11) 64 (-1)) = am_ob (am_ob M 11 (am_fl (M 11) 64 (-1))) 12 (M 12) := by
      rw [ob_comm (by decide), ob_id]
    rw [e12]
    refine h _ _ (fun j hj => ?_)
    unfold am_fl nr
    rw [if_pos hj, if_neg]
    rintro ⟨⟨a, b, c⟩, -⟩
    exact hP ⟨by omega, by omega, c⟩
