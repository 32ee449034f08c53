/-! answers in pairs: what both sides answer from a state, however the cells that a call works with stand -/
/-- the class answers a -/
def aC (S : am_E) (as : List am_V) (M : am_M) (a : am_V) : Prop := ∀ (N : am_M) (q : am_Q), J N → sc1 M N → (∀ N', J N' → sc1 M N' → q a N') → S as N q
/-- the reference answers a, and has read -/
def aM (S : am_E) (as : List am_V) (M : am_M) (a : am_V) : Prop := ∀ (N : am_M) (q : am_Q), J N → sc1 M N → (∀ N', J N' → RD N' → sc1 M N' → q a N') → S as N q
/-- the reference, once it has read, answers a -/
def aD (S : am_E) (as : List am_V) (M : am_M) (a : am_V) : Prop := ∀ (N : am_M) (q : am_Q), J N → RD N → sc1 M N → (∀ N', J N' → RD N' → sc1 M N' → q a N') → S as N q
theorem lcI {S1 S2 : am_E} {as1 as2 : List am_V} {M : am_M} {v : Int} (hJ : J M) (h1 : aC S1 as1 M (aI v)) (h2 : aM S2 as2 M (aI v)) : S1 as1 M (fun r1 M1 => S2 as2 M1 (fun r2 M2 => eqI r1 r2 ∧ J M2)) :=
  h1 M _ hJ (sc1.rf M) (fun N hN s => h2 N _ hN s (fun N' hN' _ _ => ⟨⟨_, rfl, rfl⟩, hN'⟩))
theorem lcL {S1 S2 : am_E} {as1 as2 : List am_V} {M : am_M} {v : Int} (hJ : J M) (h1 : aC S1 as1 M (aL v)) (h2 : aM S2 as2 M (aL v)) : S1 as1 M (fun r1 M1 => S2 as2 M1 (fun r2 M2 => eqL r1 r2 ∧ J M2)) :=
  h1 M _ hJ (sc1.rf M) (fun N hN s => h2 N _ hN s (fun N' hN' _ _ => ⟨⟨_, rfl, rfl⟩, hN'⟩))
theorem sc1.of {M N : am_M} (h : sc M N) : sc1 M N := by
  have e : am_ob N 31 (M 31) = N := ob_id' (h.1 31 (by unfold keep; decide)).symm
  unfold sc1; rw [e]; exact h
theorem sc1.tr {M N N' : am_M} (h : sc1 M N) (h' : sc N N') : sc1 M N' := by
  unfold sc1 at *
  refine ⟨fun o ho => ?_, ?_, ?_⟩
  · by_cases e : o = 31
    · subst e; rw [ob_eq]
    · have h1 := h.1 o ho
      rw [ob_ne e] at h1 ⊢
      rw [h'.1 o ho, h1]
  · have h1 := h.2.1
    rw [ob_ne (by decide)] at h1 ⊢
    rw [h'.2.1, h1]
  · have h1 := h.2.2
    rw [ob_ne (by decide)] at h1 ⊢
    rw [h'.2.2, h1]
theorem sc1.tr1 {M N N' : am_M} (h : sc1 M N) (h' : sc1 N N') : sc1 M N' := by
  have e : am_ob N' 31 (N 31) = am_ob N' 31 (N 31) := rfl
  have h2 : sc1 M (am_ob N' 31 (N 31)) := h.tr h'
  unfold sc1 at h2 ⊢
  rw [ob_ob] at h2
  exact h2
/-- what was read stands -/
def sp (M N : am_M) : Prop := sc M N ∧ N 51 = M 51 ∧ N 52 = M 52 ∧ N 53 = M 53 ∧ N 58 = M 58 ∧ N 44 9 = M 44 9 ∧ N 44 11 = M 44 11 ∧ N 44 17 = M 44 17
theorem sp.rf (M : am_M) : sp M M := ⟨sc.rf M, rfl, rfl, rfl, rfl, rfl, rfl, rfl⟩
theorem sp.tr {M N P : am_M} (h : sp M N) (h' : sp N P) : sp M P := ⟨h.1.tr h'.1, h'.2.1.trans h.2.1, h'.2.2.1.trans h.2.2.1, h'.2.2.2.1.trans h.2.2.2.1, h'.2.2.2.2.1.trans h.2.2.2.2.1, h'.2.2.2.2.2.1.trans h.2.2.2.2.2.1, h'.2.2.2.2.2.2.1.trans h.2.2.2.2.2.2.1, h'.2.2.2.2.2.2.2.trans h.2.2.2.2.2.2.2⟩
theorem RD.sp {M N : am_M} (hR : RD M) (h : sp M N) : RD N := by
  obtain ⟨s, e51, e52, e53, e58, e9, e11, e17⟩ := h
  unfold RD at *
  rw [s.be.D, s.be.P, s.be.O, s.be.W, s.be.L, s.be.N, s.be.Q, e51, e52, e53, e58, e9, e11, e17]
  exact hR
theorem sp_ob {M : am_M} {o : Nat} {f : Nat → Int} (ho : ¬ keep o) (h : o ≠ 44 ∧ o ≠ 51 ∧ o ≠ 52 ∧ o ≠ 53 ∧ o ≠ 58) : sp M (am_ob M o f) := by
  obtain ⟨h1, h2, h3, h4, h5⟩ := h
  refine ⟨sc_ob ho h1, ?_, ?_, ?_, ?_, ?_, ?_, ?_⟩
  all_goals (rw [ob_ne (by omega)])
theorem sp_44 {M : am_M} {f : Nat → Int} (h : ∀ i, i = 4 ∨ i = 28 ∨ i = 9 ∨ i = 11 ∨ i = 17 → f i = M 44 i) : sp M (am_ob M 44 f) := by
  refine ⟨sc_44 (h 4 (by omega)) (h 28 (by omega)), ?_, ?_, ?_, ?_, ?_, ?_, ?_⟩
  · rw [ob_ne (by decide)]
  · rw [ob_ne (by decide)]
  · rw [ob_ne (by decide)]
  · rw [ob_ne (by decide)]
  · rw [ob_eq]; exact h 9 (by omega)
  · rw [ob_eq]; exact h 11 (by omega)
  · rw [ob_eq]; exact h 17 (by omega)
theorem sp_fw {M : am_M} {F w : Nat → Int} : sp M (am_ob (am_ob M 59 F) 65 w) := (sp_ob (by unfold keep; decide) (by decide)).tr (sp_ob (by unfold keep; decide) (by decide))
theorem sp_fb {M : am_M} {c : Int} {r : Nat → Int} : sp M (am_ob (am_up M 44 32 c) 61 r) := by
  have h1 : sp M (am_up M 44 32 c) := by rw [up_as]; exact sp_44 (fun i hi => set_ne (by omega))
  exact h1.tr (sp_ob (by unfold keep; decide) (by decide))
/-- a public answer of the reference out of one that has read -/
theorem aM_of {S : am_E} {as : List am_V} {M : am_M} {a : am_V} {S' : am_E} {as' : List am_V} (h : aD S' as' M a) (hr : ∀ (N : am_M) (q : am_Q), J N → sc1 M N → (∀ N', J N' → RD N' → sc1 M N' → S' as' N' q) → S as N q) : aM S as M a :=
  fun N q hN s k => hr N q hN s (fun N' hN' hR' s' => h N' q hN' hR' s' k)
theorem rd_reads {q : am_Q} {M N : am_M} (hN : J N) (s : sc1 M N) (h : ∀ N', J N' → RD N' → sc1 M N' → q aJ N') : S12_reads [aR 44] N q := ct_reads hN.1 (fun N' hs hR => h N' (hN.sc hs) hR (s.tr hs))
/-! rows: the best there is -/
theorem isC_ex {s : Nat} (hs : s < 32) (h0 : ¬ s = 0) (g : Nat → Int) : ∃ d, isC s g d := by
  have scan : ∀ k, k ≤ 5 → (∀ d, d < k → ¬ hasB s d) ∨ ∃ d, d < k ∧ hasB s d ∧ (∀ e, e < k → hasB s e → g d ≤ g e) ∧ ∀ e, e < d → hasB s e → g d < g e := by
    intro k
    induction k with
    | zero => intro _; left; intro d hd; omega
    | succ k ih =>
      intro hk
      by_cases hb : hasB s k
      · right
        rcases ih (by omega) with h1 | ⟨d, h1, h2, h3, h4⟩
        · refine ⟨k, by omega, hb, fun e he hbe => ?_, fun e he hbe => absurd hbe (h1 e he)⟩
          by_cases c : e = k
          · rw [c]; exact Int.le_refl _
          · exact absurd hbe (h1 e (by omega))
        · by_cases c : g d ≤ g k
          · refine ⟨d, by omega, h2, fun e he hbe => ?_, h4⟩
            by_cases c2 : e = k
            · rw [c2]; exact c
            · exact h3 e (by omega) hbe
          · refine ⟨k, by omega, hb, fun e he hbe => ?_, fun e he hbe => ?_⟩
            · by_cases c2 : e = k
              · rw [c2]; exact Int.le_refl _
              · have := h3 e (by omega) hbe; omega
            · have := h3 e (by omega) hbe; omega
      · rcases ih (by omega) with h1 | ⟨d, h1, h2, h3, h4⟩
        · left
          intro d hd
          by_cases c : d = k
          · rw [c]; exact hb
          · exact h1 d (by omega)
        · right
          refine ⟨d, by omega, h2, fun e he hbe => ?_, h4⟩
          by_cases c : e = k
          · rw [c] at hbe; exact absurd hbe hb
          · exact h3 e (by omega) hbe
  rcases scan 5 (by omega) with h1 | ⟨d, h1, h2, h3, h4⟩
  · obtain ⟨d, hd, hb⟩ := some_b hs h0
    exact absurd hb (h1 d hd)
  · exact ⟨d, h1, h2, h3, h4⟩
theorem isB_ex (lg : Nat → Nat → Int) (W : Nat → Int) : ∀ (m s f : Nat), s < 32 → cb (s : Int) = m → ∃ v c, isB lg W m f s v c := by
  intro m
  induction m with
  | zero =>
    intro s f hs hm
    have e : s = 0 := cb_zero ⟨s, hs⟩ hm
    subst e
    exact ⟨0, 0, isB_zero lg W f⟩
  | succ m ih =>
    intro s f hs hm
    have h0 : ¬ s = 0 := by
      intro e; subst e
      have : cb ((0 : Nat) : Int) = 0 := rfl
      omega
    have hV : ∀ e, e < 5 → hasB s e → ∃ c, isB lg W m e (rm s e) (Classical.epsilon (fun v => ∃ c, isB lg W m e (rm s e) v c)) c := by
      intro e he hb
      have r := rm_f hs he
      have r2 := r.2.2 hb
      have := ih (rm s e) e r.2.1 (by omega)
      exact Classical.epsilon_spec (p := fun v => ∃ c, isB lg W m e (rm s e) v c) this
    obtain ⟨d, hd⟩ := isC_ex hs h0 (fun e => lg f e * W s + (fun e => Classical.epsilon (fun v => ∃ c, isB lg W m e (rm s e) v c)) e)
    obtain ⟨c', h1, h2⟩ := isB_greedy (V := fun e => Classical.epsilon (fun v => ∃ c, isB lg W m e (rm s e) v c)) hV hd
    exact ⟨_, _, h2⟩
/-- the legs from a stand and between looks -/
noncomputable def lgS (M : am_M) (st : Int) : Nat → Nat → Int := fun f d => if f < 5 then nr (xD M) (lkP M f) (lkP M d) else nr (xD M) st (lkP M d)
def isV (M : am_M) (st : Int) (s : Nat) (v : Int) (c : Nat) : Prop := isB (lgS M st) (fun t => wS (lkW M) t (lkN M)) (cb (s : Int)).toNat 5 s v c
noncomputable def vV (M : am_M) (st : Int) (s : Nat) : Int := Classical.epsilon (fun v => ∃ c, isV M st s v c)
noncomputable def cV (M : am_M) (st : Int) (s : Nat) : Nat := Classical.epsilon (fun c => isV M st s (vV M st s) c)
theorem isV_spec (M : am_M) (st : Int) {s : Nat} (hs : s < 32) : isV M st s (vV M st s) (cV M st s) := by
  have hcr := cb_rng (s : Int)
  have h1 : ∃ v c, isV M st s v c := isB_ex _ _ _ s 5 hs (by omega)
  have h2 : ∃ c, isV M st s (vV M st s) c := Classical.epsilon_spec (p := fun v => ∃ c, isV M st s v c) h1
  exact Classical.epsilon_spec (p := fun c => isV M st s (vV M st s) c) h2
theorem isV_un {M : am_M} {st : Int} {s : Nat} (hs : s < 32) {v : Int} {c : Nat} (h : isV M st s v c) : v = vV M st s ∧ c = cV M st s := isB_un h (isV_spec M st hs)
/-- the class's table, by its legs -/
theorem isV_class {M N : am_M} {st : Int} {f0 s : Nat} (hL : JL M) (hf0 : 5 ≤ f0) (hs : s < 32) (hP : ∀ d, d < 5 → hasB s d → d < lkN M)
    (h31 : ∀ k d, k < lkN M → d < lkN M → N 31 (k * 5 + d) = nr (xD M) (lkP M k) (lkP M d)) (hf : ∀ d, d < lkN M → N 31 (f0 * 5 + d) = nr (xD M) st (lkP M d)) (h32 : ∀ s, s < 32 → N 32 s = wS (lkW M) s (lkN M)) {v : Int} {c : Nat}
    (h : isB (lgM N) (N 32) (cb (s : Int)).toNat f0 s v c) : isV M st s v c := by
  have hn := lkN_le hL
  refine isB_congr (P := fun d => d < lkN M) (f0 := f0) (f1 := 5) (fun g d hg hd5 hdn => ?_) (by omega) h32 hs hP h
  by_cases e : g = f0
  · rw [if_pos e, e]
    have e1 : lgS M st 5 d = nr (xD M) st (lkP M d) := by unfold lgS; rw [if_neg (by omega)]
    rw [e1]; exact hf d hdn
  · rw [if_neg e]
    have hgn : g < lkN M := by
      rcases hg with x | x
      · exact absurd x e
      · exact x
    have e1 : lgS M st g d = nr (xD M) (lkP M g) (lkP M d) := by unfold lgS; rw [if_pos (by omega)]
    rw [e1]; exact h31 g d hgn hdn
/-- the reference's ways -/
theorem isV_ways {M : am_M} {w : Nat → Int} {st : Int} {s : Nat} (hd : dR (xD M)) (hL : JL M) (hok : okS M st) (hs : s < 32) (hP : ∀ d, d < 5 → hasB s d → d < lkN M) (hw : ∀ d, d < lkN M → w (25 + d) = nr (xD M) st (lkP M d) ∧ ∀ a, a < lkN M → w (5 * a + d) = rF (nr (xD M) (lkP M a) (lkP M d))) {v : Int} {c : Nat}
    (h : isV M st s v c) : isB (fun f d => w (5 * f + d)) (fun t => wS (lkW M) t (lkN M)) (cb (s : Int)).toNat 5 s v c := by
  have hn := lkN_le hL
  refine isB_congr (P := fun d => d < lkN M) (f0 := 5) (f1 := 5) (fun g d hg hd5 hdn => ?_) (by omega) (fun _ _ => rfl) hs hP h
  have e0 : (if g = 5 then 5 else g) = g := by split <;> omega
  rw [e0]
  unfold lgS
  by_cases e : g = 5
  · rw [if_neg (by omega), e]; exact (hw d hdn).1.symm
  · have hgn : g < lkN M := by
      rcases hg with x | x
      · exact absurd x e
      · exact x
    rw [if_pos (by omega)]
    have e2 := (hw d hdn).2 g hgn
    unfold rF at e2
    rw [if_neg (nr_conn hd (hok g hgn) (hok d hdn))] at e2
    exact e2.symm
theorem vV_nn {M : am_M} {st : Int} {s : Nat} (hd : dR (xD M)) (hL : JL M) (hok : okS M st) (hs : s < 32) (hP : ∀ d, d < 5 → hasB s d → d < lkN M) : 0 ≤ vV M st s := by
  have hn := lkN_le hL
  have h := isV_spec M st hs
  have := cst_nn (lg := lgS M st) (W := fun t => wS (lkW M) t (lkN M)) (P := fun d => d < lkN M) (f0 := 5) (fun g d hg hd5 hdn => ?_) (fun t ht => (wS_rng ht hn.1 (fun k hk => (lk_f hL hk).2.2.2.2) (lkN M) (Nat.le_refl _)).1) _ 5 s _ (Or.inl rfl) hs h.1 h.2.1 hP
  · rw [h.2.2.1] at this; exact this
  · unfold lgS
    by_cases e : g < 5
    · have hgn : g < lkN M := by
        rcases hg with x | x
        · omega
        · exact x
      rw [if_pos e]
      have h2 := nr_rng hd (lkP M g) (lkP M d)
      have h3 := nr_conn hd (hok g hgn) (hok d hdn)
      omega
    · rw [if_neg e]
      have h2 := nr_rng hd st (lkP M d)
      have h3 := hok d hdn
      omega
theorem vV_up {M : am_M} {st : Int} {s : Nat} (hL : JL M) (hs : s < 32) : vV M st s ≤ 14175 := by
  have hn := lkN_le hL
  have h := isV_spec M st hs
  have hc := cb_rng (s : Int)
  have := cst_rng2 (lg := lgS M st) (W := fun t => wS (lkW M) t (lkN M)) (fun f d _ _ => by
    unfold lgS
    split
    · exact nr_rng (hdx M) _ _
    · exact nr_rng (hdx M) _ _) (fun t ht => by
    have := wS_rng (w := lkW M) ht hn.1 (fun k hk => (lk_f hL hk).2.2.2.2) (lkN M) (Nat.le_refl _)
    omega) _ 5 s _ (by omega) hs h.1
  rw [h.2.2.1] at this
  omega
