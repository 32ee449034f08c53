/-! easiest -/
theorem fF_step {d : Nat → Int} (hd : dR d) {K q p : Int} (hK : 0 ≤ K) (hpq : ¬ p = q) (h0 : ¬ fF d K q p = -1) : ∃ l : Nat, l < 4 ∧ ¬ bs d p (l : Int) = -1 ∧ ¬ fF d K q (bs d p (l : Int)) = -1 ∧ fF d K q (bs d p (l : Int)) + K * d (bs d p (l : Int)).toNat + 1 = fF d K q p := by
  obtain ⟨n, c, hw, he⟩ := fF_wk hd hK h0
  cases n with
  | zero => exact absurd hw.1 hpq
  | succ n =>
    obtain ⟨l, hl, hb, hw2⟩ := hw
    have h1 := fF_le hd hK hw2
    have hne : ¬ fF d K q (bs d p (l : Int)) = -1 := by omega
    have h2 := fF_tri hd (q := q) hK hl hb hne
    rw [Int.mul_sub] at h1
    have hc : ((n + 1 : Nat) : Int) = (n : Int) + 1 := rfl
    exact ⟨l, hl, hb, hne, by omega⟩
def okL (d : Nat → Int) (K q p : Int) (l : Nat) : Prop := ¬ bs d p (l : Int) = -1 ∧ ¬ fF d K q (bs d p (l : Int)) = -1 ∧ fF d K q (bs d p (l : Int)) + K * d (bs d p (l : Int)).toNat + 1 = fF d K q p
theorem okL_eq {d : Nat → Int} (hd : dR d) {q p : Int} {l : Nat} (hp : isP d p) (h0 : ¬ fF d 64 q p = -1) : okL d 64 q p l ↔ okL d 1000 q p l := by
  unfold okL
  by_cases hb : bs d p (l : Int) = -1
  · exact ⟨fun h => absurd hb h.1, fun h => absurd hb h.1⟩
  · have hr := bs_pl hb
    have hdr := hd (bs d p (l : Int)).toNat
    have hdn := hr.2.2
    have tz := fF_z hd (K := 64) (q := q) (by decide)
    have tz2 := fF_z hd (K := 1000) (q := q) (by decide)
    rcases fF_two hd (q := q) hp with h1 | ⟨C, N, h1, h2, h3, h4, h5, h6, h7⟩
    · exact absurd h1.1 h0
    · rcases fF_two hd (q := q) hr with g1 | ⟨C', N', g1, g2, g3, g4, g5, g6, g7⟩
      · exact ⟨fun h => absurd g1.1 h.2.1, fun h => absurd g1.2 h.2.1⟩
      · have hz : N = 0 → C = 0 := by
          intro e
          have := h7 e
          rw [this] at h5
          omega
        generalize d (bs d p (l : Int)).toNat = x at *
        rw [h5, h6, g5, g6]
        constructor
        · rintro ⟨a, b, c⟩; exact ⟨a, by omega, by omega⟩
        · rintro ⟨a, b, c⟩; exact ⟨a, by omega, by omega⟩
noncomputable def flt (d : Nat → Int) (q p : Int) : Nat → Nat → Int
  | 0, _ => -1
  | k + 1, l => if ¬ bs d p (l : Int) = -1 ∧ ¬ fF d 64 q (bs d p (l : Int)) = -1 ∧ fF d 64 q (bs d p (l : Int)) + 64 * d (bs d p (l : Int)).toNat + 1 = fF d 64 q p then (l : Int) else flt d q p k (l + 1)
theorem flt_ok {d : Nat → Int} {q p : Int} {k l : Nat} (h : okL d 64 q p l) : flt d q p (k + 1) l = (l : Int) := by
  unfold okL at h
  unfold flt; rw [if_pos h]
theorem flt_no {d : Nat → Int} {q p : Int} {k l : Nat} (h : ¬ okL d 64 q p l) : flt d q p (k + 1) l = flt d q p k (l + 1) := by
  have e : flt d q p (k + 1) l = if ¬ bs d p (l : Int) = -1 ∧ ¬ fF d 64 q (bs d p (l : Int)) = -1 ∧ fF d 64 q (bs d p (l : Int)) + 64 * d (bs d p (l : Int)).toNat + 1 = fF d 64 q p then (l : Int) else flt d q p k (l + 1) := rfl
  unfold okL at h
  rw [e, if_neg h]
theorem flt_rng {d : Nat → Int} {q p : Int} : ∀ k l, k + l = 4 → flt d q p k l = -1 ∨ ∃ l' : Nat, l' < 4 ∧ flt d q p k l = (l' : Int) ∧ okL d 64 q p l' := by
  intro k
  induction k with
  | zero => intro l _; exact Or.inl rfl
  | succ k ih =>
    intro l hl
    by_cases c : okL d 64 q p l
    · right; exact ⟨l, by omega, flt_ok c, c⟩
    · rw [flt_no c]; exact ih (l + 1) (by omega)
theorem flt_ex {d : Nat → Int} {q p : Int} {l0 : Nat} (h : okL d 64 q p l0) : ∀ k l, k + l = 4 → l ≤ l0 → l0 < 4 → ¬ flt d q p k l = -1 := by
  intro k
  induction k with
  | zero => intro l h1 h2 h3; omega
  | succ k ih =>
    intro l h1 h2 h3
    by_cases c : okL d 64 q p l
    · rw [flt_ok c]; omega
    · rw [flt_no c]
      have : l ≠ l0 := fun e => c (e ▸ h)
      exact ih (l + 1) (by omega) (by omega) h3
/-- the i-th letter from p on, k behind -/
noncomputable def lan (d : Nat → Int) (q i : Int) : Nat → Nat → Int → Int
  | 0, _, _ => -1
  | f + 1, k, p => if flt d q p 4 0 = -1 then -1 else if (k : Int) = i then flt d q p 4 0 else lan d q i f (k + 1) (bs d p (flt d q p 4 0))
theorem lan_s (d : Nat → Int) (q i : Int) (f k : Nat) (p : Int) : lan d q i (f + 1) k p = if flt d q p 4 0 = -1 then -1 else if (k : Int) = i then flt d q p 4 0 else lan d q i f (k + 1) (bs d p (flt d q p 4 0)) := rfl
theorem ct_first {q : am_Q} {M : am_M} {d T : Nat → Int} {to p : Int} (h8 : M 8 = d) (h9 : M 9 = nbT d) (h14 : M 14 = T) (hd : dR d) (hT : ∀ p, isP d p → T p.toNat = if fF d 64 to p = -1 then 1073741824 else fF d 64 to p) (hp : isP d p) (hr : ¬ fF d 64 to p = -1)
    (h : q (aI (flt d to p 4 0)) M) : S1_firstLetter [aR 13, aI p] M q := by
  have p1 := hp.1
  have p2 := hp.2.1
  have up : ∀ r, isP d r → fF d 64 to r ≤ 36351 ∧ -1 ≤ fF d 64 to r := by
    intro r hr
    have h1 := fF_up hd (K := 64) (q := to) (by decide) hr
    have h2 := fF_nn hd (K := 64) (q := to) (p := r) (by decide)
    omega
  have hTp : T p.toNat = fF d 64 to p := by rw [hT p hp, if_neg hr]
  have u := up p hp
  have loop : ∀ (k l : Nat), k + l = 4 → flt d to p k l = flt d to p 4 0 → am_R K1_firstLetter q 12 [aR 13, aI p, aI (l : Int), aJ] [] M := by
    intro k
    induction k with
    | zero =>
      intro l hl he
      have : flt d to p 0 l = -1 := rfl
      rw [this] at he
      rw [← he] at h
      exact g1_firstLetter_12 ⟨fun _ => h, fun hc => absurd hc (by omega)⟩
    | succ k ih =>
      intro l hl he
      refine g1_firstLetter_12 ?_
      rw [h8, h9, h14]
      refine ⟨fun hc => absurd hc (by omega), fun _ => ⟨ob_bs (by omega) (by omega) (by omega) (by omega), fun x2 hx2 => ?_⟩⟩
      have hx2' : x2 = bs d p (l : Int) := hx2
      have hrng := bs_rng d p (l : Int)
      by_cases hb : bs d p (l : Int) = -1
      · have hn : ¬ okL d 64 to p l := fun hx => hx.1 hb
        rw [flt_no hn] at he
        exact ⟨fun hx => absurd hx.1 (by omega), fun _ => ⟨by omega, ih (l + 1) (by omega) he⟩⟩
      · have hP2 := bs_pl hb
        rw [← hx2'] at hP2
        have hu := up x2 hP2
        have hTx := hT x2 hP2
        have hdx2 := hd x2.toNat
        have hdn := hP2.2.2
        have et : f_1_tollInto d x2 = d x2.toNat * 64 + 1 := by unfold f_1_tollInto; rw [dens_in hP2]
        have eo : ob_1_tollInto d x2 := by unfold ob_1_tollInto; rw [dens_in hP2]; omega
        rw [et, hTp]
        by_cases hfr : fF d 64 to x2 = -1
        · have hn : ¬ okL d 64 to p l := fun hx => hx.2.1 (by rw [← hx2']; exact hfr)
          rw [flt_no hn] at he
          rw [if_pos hfr] at hTx
          exact ⟨fun hx => absurd hx.2 (by omega), fun _ => ⟨by omega, ih (l + 1) (by omega) he⟩⟩
        · rw [if_neg hfr] at hTx
          rw [hTx]
          have x1 := hP2.1
          have x2' := hP2.2.1
          refine ⟨fun _ => ⟨by omega, eo, by omega, by omega, fun heq => ?_, fun hne => ⟨by omega, ?_⟩⟩, fun hx => absurd (show (¬ (x2 < 0) ∧ ¬ (64 ≤ x2)) ∧ ¬ (1073741824 ≤ fF d 64 to x2) by omega) hx⟩
          · have hok : okL d 64 to p l := by
              unfold okL; rw [← hx2']; exact ⟨by omega, hfr, by omega⟩
            rw [flt_ok hok] at he
            rw [he]; exact h
          · have hn : ¬ okL d 64 to p l := by
              intro hx
              unfold okL at hx
              rw [← hx2'] at hx
              exact hne (by omega)
            rw [flt_no hn] at he
            exact ih (l + 1) (by omega) he
  refine e1_firstLetter ?_
  rw [h14, hTp]
  exact ⟨fun _ => loop 4 0 (by omega) rfl, fun hx => absurd (show (¬ (p < 0) ∧ ¬ (64 ≤ p)) ∧ ¬ (1073741824 ≤ fF d 64 to p) by omega) hx⟩
theorem ct_letterAt {q : am_Q} {M : am_M} {d T : Nat → Int} {to p i : Int} (h8 : M 8 = d) (h9 : M 9 = nbT d) (h14 : M 14 = T) (hd : dR d) (hT : ∀ p, isP d p → T p.toNat = if fF d 64 to p = -1 then 1073741824 else fF d 64 to p) (hp : isP d p) (hr : ¬ fF d 64 to p = -1)
    (h : q (aI (lan d to i 64 0 p)) M) : S1_letterAt [aR 13, aI p, aI i] M q := by
  have loop : ∀ (f k : Nat) (p : Int), k + f = 64 → isP d p → ¬ fF d 64 to p = -1 → q (aI (lan d to i f k p)) M → am_R K1_letterAt q 5 [aR 13, aJ, aI i, aI p, aI (k : Int), aJ] [] M := by
    intro f
    induction f with
    | zero =>
      intro k p hk hp hr h
      exact g1_letterAt_5 ⟨fun _ => h, fun hc => absurd hc (by omega)⟩
    | succ f ih =>
      intro k p hk hp hr h
      have p1 := hp.1
      have p2 := hp.2.1
      rw [lan_s] at h
      refine g1_letterAt_5 ⟨fun hc => absurd hc (by omega), fun _ => ct_first h8 h9 h14 hd hT hp hr ⟨_, rfl, fun hn => ?_, fun hn => ?_⟩⟩
      · rw [if_pos hn] at h; rw [hn]; exact h
      · rw [if_neg hn] at h
        refine ⟨fun hk => ?_, fun hk => ?_⟩
        · rw [if_pos hk] at h; exact h
        · rw [if_neg hk] at h
          rcases flt_rng (d := d) (q := to) (p := p) 4 0 (by omega) with e | ⟨l', hl', e, hok⟩
          · exact absurd e hn
          · rw [e] at h ⊢
            rw [h9]
            refine ⟨ob_bs (by omega) (by omega) (by omega) (by omega), fun x8 hx8 => ⟨by omega, ?_⟩⟩
            have ex : x8 = bs d p (l' : Int) := hx8
            rw [ex]
            exact ih (k + 1) _ (by omega) (bs_pl hok.1) hok.2.1 h
  exact e1_letterAt (loop 64 0 p (by omega) hp hr h)
/-- the reference's letters -/
theorem ct_easyWalk {q : am_Q} {M : am_M} {d F : Nat → Int} {to i : Int} (hi : 0 ≤ i) (hm : ∀ p, p < 64 → M 51 p = fm (d p)) (hd : dR d) (h59 : M 59 = F) (hF : ∀ p, isP d p → F p.toNat = if fF d 1000 to p = -1 then 1000000 else fF d 1000 to p) :
    ∀ (N f k : Nat) (p v5 : Int), isP d p → ¬ fF d 64 to p = -1 → (∀ C n : Int, 0 ≤ n → n ≤ 63 → fF d 64 to p = 64 * C + n → n ≤ N) → N < f → N + k ≤ 63 → (k : Int) ≤ i → q (aI (lan d to i f k p)) M → am_R K12_easiestOf q 77 [aR 44, aJ, aI to, aI i, aI p, aI v5, aI (k : Int), aJ] [] M := by
  intro N
  induction N with
  | zero =>
    intro f k p v5 hp hr hN hf hk hki h
    have p1 := hp.1
    have p2 := hp.2.1
    have hto : p = to := by
      rcases fF_two hd (q := to) hp with h1 | ⟨C, n, h1, h2, h3, h4, h5, h6, h7⟩
      · exact absurd h1.1 hr
      · have := hN C n h3 h4 h5
        exact h7 (by omega)
    obtain ⟨f, rfl⟩ : ∃ f', f = f' + 1 := ⟨f - 1, by omega⟩
    have hl : flt d to p 4 0 = -1 := by
      rcases flt_rng (d := d) (q := to) (p := p) 4 0 (by omega) with e | ⟨l', hl', e, hok⟩
      · exact e
      · exfalso
        have hz := fF_z hd (K := 64) (q := to) (by decide)
        have hok2 := hok.2
        rw [hto, hz] at hok2
        have hP2 := bs_pl hok.1
        rw [hto] at hP2
        have h1 := fF_nn hd (K := 64) (q := to) (p := bs d to (l' : Int)) (by decide)
        have h2 := hd (bs d to (l' : Int)).toNat
        have h3 := hP2.2.2
        omega
    rw [lan_s, if_pos hl] at h
    exact g12_easiestOf_77 ⟨fun hc => absurd hc (by omega), fun _ => ⟨fun _ => h, fun hc => absurd hto hc⟩⟩
  | succ N ih =>
    intro f k p v5 hp hr hN hf hk hki h
    have p1 := hp.1
    have p2 := hp.2.1
    obtain ⟨f, rfl⟩ : ∃ f', f = f' + 1 := ⟨f - 1, by omega⟩
    by_cases hto : p = to
    · have hl : flt d to p 4 0 = -1 := by
        rcases flt_rng (d := d) (q := to) (p := p) 4 0 (by omega) with e | ⟨l', hl', e, hok⟩
        · exact e
        · exfalso
          have hz := fF_z hd (K := 64) (q := to) (by decide)
          have hok2 := hok.2
          rw [hto, hz] at hok2
          have hP2 := bs_pl hok.1
          rw [hto] at hP2
          have h1 := fF_nn hd (K := 64) (q := to) (p := bs d to (l' : Int)) (by decide)
          have h2 := hd (bs d to (l' : Int)).toNat
          have h3 := hP2.2.2
          omega
      rw [lan_s, if_pos hl] at h
      exact g12_easiestOf_77 ⟨fun hc => absurd hc (by omega), fun _ => ⟨fun _ => h, fun hc => absurd hto hc⟩⟩
    · obtain ⟨l0, hl0, hok0⟩ := fF_step hd (K := 64) (q := to) (by decide) hto hr
      have hok0' : okL d 64 to p l0 := hok0
      have hne := flt_ex hok0' 4 0 (by omega) (by omega) hl0
      have hr1000 : ¬ fF d 1000 to p = -1 := by
        rcases fF_two hd (q := to) hp with h1 | ⟨C, n, h1, h2, h3, h4, h5, h6, h7⟩
        · exact absurd h1.1 hr
        · omega
      have hFp : F p.toNat = fF d 1000 to p := by rw [hF p hp, if_neg hr1000]
      have upF : ∀ r, isP d r → 0 ≤ F r.toNat ∧ F r.toNat ≤ 1000000 := by
        intro r hr
        have h1 := fF_up hd (K := 1000) (q := to) (by decide) hr
        have h2 := fF_nn hd (K := 1000) (q := to) (p := r) (by decide)
        rw [hF r hr]
        split <;> omega
      have mb : ∀ l : Nat, l < 4 → f_12_beside (M 51) p (l : Int) = bs d p (l : Int) := fun l hl => mb_eq hm (fun p => (hd p).2) p1 p2 (by omega) (by omega) hp.2.2
      have find : ∀ (c l : Nat), c + l = 4 → l ≤ l0 → flt d to p c l = flt d to p 4 0 → am_R K12_easiestOf q 103 [aR 44, aJ, aI to, aI i, aI p, aI (l : Int), aI (k : Int), aI (bs d p (l : Int))] [] M := by
        intro c
        induction c with
        | zero => intro l h1 h2 _; omega
        | succ c ihc =>
          intro l hl hl0' he
          have next : ¬ okL d 64 to p l → ob_12_beside (M 51) p ((l : Int) + 1) ∧ ∀ x2 : Int, x2 = f_12_beside (M 51) p ((l : Int) + 1) → am_R K12_easiestOf q 103 [aR 44, aJ, aI to, aI i, aI p, aI ((l : Int) + 1), aI (k : Int), aI x2] [] M := by
            intro hn
            rw [flt_no hn] at he
            have hll : l ≠ l0 := fun e => hn (e ▸ hok0')
            refine ⟨mb_ob p1 p2, fun x2 hx2 => ?_⟩
            have hx : x2 = bs d p ((l + 1 : Nat) : Int) := by rw [hx2]; exact mb (l + 1) (by omega)
            rw [hx]
            exact ihc (l + 1) (by omega) (by omega) he
          refine g12_easiestOf_103 ⟨fun hb => ⟨by omega, next (fun hx => hx.1 hb)⟩, fun hb => ?_⟩
          have hP2 := bs_pl hb
          have b1 := hP2.1
          have b2 := hP2.2.1
          have hdr := hd (bs d p (l : Int)).toNat
          have hdn := hP2.2.2
          have e51 : M 51 (bs d p (l : Int)).toNat = d (bs d p (l : Int)).toNat := by
            rw [hm _ (by omega)]; unfold fm; rw [if_neg hdn]
          have u := upF _ hP2
          rw [e51, h59]
          refine ⟨by omega, by omega, by omega, by omega, by omega, fun heq => ⟨by omega, ?_⟩, fun hneq => ⟨by omega, next (fun hx => hneq ?_)⟩⟩
          · have hrr : ¬ fF d 1000 to (bs d p (l : Int)) = -1 := by
              intro e
              have h3 := hF _ hP2
              rw [if_pos e] at h3
              have h4 := fF_up hd (K := 1000) (q := to) (by decide) hp
              omega
            have hFr : F (bs d p (l : Int)).toNat = fF d 1000 to (bs d p (l : Int)) := by rw [hF _ hP2, if_neg hrr]
            have hok : okL d 64 to p l := (okL_eq hd hp hr).mpr ⟨hb, hrr, by omega⟩
            rw [flt_ok hok] at he
            rw [lan_s, if_neg hne, ← he] at h
            by_cases hk2 : (k : Int) = i
            · rw [if_pos hk2] at h
              exact g12_easiestOf_77 ⟨fun _ => h, fun hc => absurd hc (by omega)⟩
            · rw [if_neg hk2] at h
              refine ih f (k + 1) _ (l : Int) hP2 hok.2.1 (fun C n n0 n63 hCn => ?_) (by omega) (by omega) (by omega) h
              rcases fF_two hd (q := to) hp with h1 | ⟨C2, n2, h1, h2, h3, h4, h5, h6, h7⟩
              · exact absurd h1.1 hr
              · have g1 := hN C2 n2 h3 h4 h5
                have g2 := hok.2.2
                have h8 := fF_nn hd (K := 64) (q := to) (p := bs d p (l : Int)) (by decide)
                have hz : n2 = 0 → False := fun e => hto (h7 e)
                omega
          · have := (okL_eq hd hp hr).mp hx
            have h3 := this.2
            rw [hFp, hF _ hP2, if_neg h3.1]
            omega
      refine g12_easiestOf_77 ⟨fun hc => absurd hc (by omega), fun _ => ⟨fun hc => absurd hc hto, fun _ => ⟨mb_ob p1 p2, fun x3 hx3 => ?_⟩⟩⟩
      have hx : x3 = bs d p ((0 : Nat) : Int) := by rw [hx3]; exact mb 0 (by omega)
      rw [hx]
      exact find 4 0 (by omega) (by omega) rfl
theorem lc_easiest {M : am_M} {v1 v2 v3 : Int} (hJ : J M) : S11_easiest [aR 0, aI v1, aI v2, aI v3] M (fun r1 M1 => S12_easiest [aR 44, aI v1, aI v2, aI v3] M1 (fun r2 M2 => eqI r1 r2 ∧ J M2)) := by
  have hC := hJ.1.1
  have hd := hdx M
  have bad : ¬ (isP (xD M) v1 ∧ isP (xD M) v2 ∧ -2 ≤ v3) → S12_easiest [aR 44, aI v1, aI v2, aI v3] M (fun r2 M2 => eqI (aI (-2)) r2 ∧ J M2) := by
    intro hb
    refine e12_easiest (ct_reads hJ.1 (fun M1 hs hR => ?_))
    have e := hs.be.D
    rw [← e] at hb
    refine ⟨fun h1 => ⟨fun h2 => ⟨fun _ => ⟨⟨_, rfl, rfl⟩, hJ.sc hs⟩, fun h3 => absurd ⟨(rpl hR).mp h1, (rpl hR).mp h2, by omega⟩ hb⟩, fun _ => ⟨⟨_, rfl, rfl⟩, hJ.sc hs⟩⟩, fun _ => ⟨⟨_, rfl, rfl⟩, hJ.sc hs⟩⟩
  refine e11_easiest ⟨fun h1 => ⟨fun h2 => ⟨fun h3 => ?_, fun h3 => bad (fun hx => h3 hx.2.2)⟩, fun h2 => bad (fun hx => h2 ((cpl hC).mpr hx.2.1))⟩, fun h1 => bad (fun hx => h1 ((cpl hC).mpr hx.1))⟩
  have p1 := (cpl hC).mp h1
  have p2 := (cpl hC).mp h2
  refine ct_measureTo hC.2.1.2.1 hC.2.1.2.2.2 hd p2 (fun s T hT hT0 => ?_)
  have s1 : sc M (am_ob (am_ob M 13 s) 14 T) := (sc_ob (by unfold keep; decide) (by decide)).tr (sc_ob (by unfold keep; decide) (by decide))
  have v1a := p1.1
  have v1b := p1.2.1
  have ref : ∀ v : Int, v = (if fF (xD M) 64 v2 v1 = -1 then -1 else if v3 = -2 then fF (xD M) 64 v2 v1 / 64 else if v3 = -1 then fF (xD M) 64 v2 v1 % 64 else lan (xD M) v2 v3 64 0 v1) → S12_easiest [aR 44, aI v1, aI v2, aI v3] (am_ob (am_ob M 13 s) 14 T) (fun r2 M2 => eqI (aI v) r2 ∧ J M2) := by
    intro v hv
    refine e12_easiest (ct_reads (hJ.sc s1).1 (fun M1 hs hR => ?_))
    have s2 := s1.tr hs
    have e := s2.be.D
    have p1' : isP (xD M1) v1 := by rw [e]; exact p1
    have p2' : isP (xD M1) v2 := by rw [e]; exact p2
    refine ⟨fun _ => ⟨fun _ => ⟨fun hc => absurd hc (by omega), fun _ => e12_easiestOf ?_⟩, fun hc => absurd ((rpl hR).mpr p2') hc⟩, fun hc => absurd ((rpl hR).mpr p1') hc⟩
    refine ct_findFar hR.1 (hdx M1) p2' (Or.inr rfl) (fun F hF hF0 => ?_)
    rw [e] at hF hF0
    have hJ3 : J (am_ob M1 59 F) := hJ.sc (s2.tr sc_59)
    rw [ob_eq]
    have hFv := hF v1 p1
    have hup := fF_up hd (K := 1000) (q := v2) (by decide) p1
    have h51 : ∀ p, p < 64 → (am_ob M1 59 F) 51 p = fm (xD M p) := by rw [ob_ne (by decide)]; rw [← e]; exact hR.1
    rcases fF_two hd (q := v2) p1 with g1 | ⟨C, N, g1, g2, g3, g4, g5, g6, g7⟩
    · rw [if_pos g1.2] at hFv
      rw [if_pos g1.1] at hv
      rw [hFv]
      refine ⟨by omega, fun _ => ⟨fun hc => absurd hc (by omega), fun x8 hx8 => ⟨_, rfl, ⟨_, rfl, ?_⟩, hJ3⟩⟩, fun hc => absurd hc (by omega)⟩
      rw [hx8, hv, if_neg (by omega)]
    · rw [if_neg (by omega)] at hFv hv
      rw [hFv]
      refine ⟨by omega, fun hc => absurd hc (by omega), fun _ => ⟨fun h0 => ?_, fun h0 => ⟨fun _ => ⟨fun _ => by omega, fun _ => by omega⟩, fun x12 hx12 => ⟨_, rfl, ⟨_, rfl, ?_⟩, hJ3⟩⟩⟩⟩
      · rw [if_neg (by omega), if_neg (by omega)] at hv
        exact ct_easyWalk (d := xD M) h0 h51 hd ob_eq hF 63 64 0 v1 (-1) p1 (by omega) (fun _ n _ h63 _ => h63) (by omega) (by omega) (by omega) ⟨_, rfl, ⟨_, rfl, by rw [hv]⟩, hJ3⟩
      · rw [hx12, if_pos (by omega), hv]
        congr 1
        by_cases c : v3 = -2
        · rw [if_pos c, if_pos c, g5, g6]; omega
        · rw [if_neg c, if_neg c, if_pos (by omega), g5, g6]; omega
  have hJ1 := hJ.sc s1
  have e14 : (am_ob (am_ob M 13 s) 14 T) 14 = T := ob_eq
  have hTv := hT v1 p1
  have hup := fF_up hd (K := 64) (q := v2) (by decide) p1
  have hnn := fF_nn hd (K := 64) (q := v2) (p := v1) (by decide)
  rw [e14]
  refine ⟨fun c => ⟨?_, ref _ ?_⟩, fun c => ⟨fun c2 => ⟨?_, ref _ ?_⟩, fun c2 => ?_⟩⟩
  · unfold ob_1_densityFrom
    rw [hTv]
    intro hx
    refine ⟨by omega, ?_⟩
    split <;> omega
  · unfold f_1_densityFrom
    rw [hTv]
    by_cases e : fF (xD M) 64 v2 v1 = -1
    · rw [if_pos e, if_neg (by omega), if_pos e]
    · rw [if_neg e, if_neg e, if_pos (by omega), if_pos c]
  · unfold ob_1_stepsFrom
    rw [hTv]
    intro hx
    refine ⟨by omega, ?_⟩
    split <;> omega
  · unfold f_1_stepsFrom
    rw [hTv]
    by_cases e : fF (xD M) 64 v2 v1 = -1
    · rw [if_pos e, if_neg (by omega), if_pos e]
    · rw [if_neg e, if_neg e, if_pos (by omega), if_neg c, if_pos c2]
  · have m8 : (am_ob (am_ob M 13 s) 14 T) 8 = xD M := by rw [ob_ne (by decide), ob_ne (by decide)]; exact hC.2.1.2.1
    have m9 : (am_ob (am_ob M 13 s) 14 T) 9 = nbT (xD M) := by rw [ob_ne (by decide), ob_ne (by decide)]; exact hC.2.1.2.2.2
    by_cases e : fF (xD M) 64 v2 v1 = -1
    · refine e1_letterAt (g1_letterAt_5 ⟨fun hc => absurd hc (by omega), fun _ => e1_firstLetter ⟨fun hx => ?_, fun _ => ⟨_, rfl, fun _ => ⟨_, rfl, ref _ (by rw [if_pos e])⟩, fun hc => absurd rfl hc⟩⟩⟩)
      exfalso
      have := hx.2
      rw [e14, hTv, if_pos e] at this
      exact this (Int.le_refl _)
    · refine ct_letterAt m8 m9 e14 hd hT p1 e ⟨_, rfl, ref _ ?_⟩
      rw [if_neg e, if_neg c, if_neg c2]
