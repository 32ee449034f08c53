/-! best -/
def lgO (M : am_M) : Nat → Nat → Int := fun f d => if f < 5 then 16 - M 55 (5 * f + d) else 0
theorem lgO_rng {M : am_M} (hG : JG M) : ∀ f d, f < 7 → d < 5 → 0 ≤ lgO M f d ∧ lgO M f d ≤ 63 := by
  intro f d hf hd
  unfold lgO
  by_cases c : f < 5
  · rw [if_pos c]; have := hG (5 * f + d) (by omega); omega
  · rw [if_neg c]; omega
theorem ct_putLeg {q : am_Q} {M : am_M} {f d : Nat} {x : Int} (hf : f < 7) (hd : d < 5) (h : q aJ (am_up M 31 (f * 5 + d) x)) : S6_putLeg [aR 30, aI (f : Int), aI (d : Int), aI x] M q := by
  refine e6_putLeg ⟨fun hc => absurd hc (by omega), fun _ => ⟨fun hc => absurd hc (by omega), fun _ => ⟨fun hc => absurd hc (by omega), fun _ => ⟨fun hc => absurd hc (by omega), fun _ => ⟨by omega, by omega, by omega, ?_⟩⟩⟩⟩⟩
  rw [show ((f : Int) * 5 + (d : Int)).toNat = f * 5 + d by omega]
  exact h
theorem ct_layOrders {q : am_Q} {M : am_M} (hG : JG M) (h : ∀ L : Nat → Int, (∀ f d, f < 7 → d < 5 → L (f * 5 + d) = lgO M f d) → q aJ (am_ob (am_ob M 32 (am_fl (M 32) 32 1)) 31 L)) : S6_layOrders [aR 30, aR 15] M q := by
  refine e6_layOrders (ct_fillI (N := 32) rfl (by decide) ?_)
  have outer : ∀ (a b : Nat) (L : Nat → Int), b + a = 5 → (∀ f d, f < 7 → d < b → L (f * 5 + d) = lgO M f d) → am_R K6_layOrders q 10 [aR 30, aR 15, aI (b : Int), aJ] [] (am_ob (am_ob M 32 (am_fl (M 32) 32 1)) 31 L) := by
    intro a
    induction a with
    | zero =>
      intro b L hb hL
      exact g6_layOrders_10 ⟨fun _ => h L (fun f d hf hd => hL f d hf (by omega)), fun hc => absurd hc (by omega)⟩
    | succ a ih =>
      intro b L hb hL
      have inner : ∀ (c f : Nat) (L : Nat → Int), f + c = 5 → (∀ f d, f < 7 → d < b → L (f * 5 + d) = lgO M f d) → (∀ g, g < f → L (g * 5 + b) = lgO M g b) → am_R K6_layOrders q 17 [aR 30, aR 15, aI (b : Int), aI (f : Int)] [] (am_ob (am_ob M 32 (am_fl (M 32) 32 1)) 31 L) := by
        intro c
        induction c with
        | zero =>
          intro f L hf hL hLb
          have e : f = 5 := by omega
          subst e
          refine g6_layOrders_17 ⟨fun _ => ct_putLeg (f := 5) (by omega) (by omega) (ct_putLeg (f := 6) (by omega) (by omega) ⟨by omega, ?_⟩), fun hc => absurd hc (by omega)⟩
          rw [up_ob_eq, up_ob_eq]
          refine ih (b + 1) _ (by omega) (fun g d hg hd => ?_)
          by_cases e6 : g * 5 + d = 6 * 5 + b
          · have eg : g = 6 := by omega
            have ed : d = b := by omega
            subst eg; subst ed
            rw [set_eq]; rfl
          · rw [set_ne e6]
            by_cases e5 : g * 5 + d = 5 * 5 + b
            · have eg : g = 5 := by omega
              have ed : d = b := by omega
              subst eg; subst ed
              rw [set_eq]; rfl
            · rw [set_ne e5]
              by_cases ed : d = b
              · subst ed; exact hLb g (by omega)
              · exact hL g d hg (by omega)
        | succ c ihc =>
          intro f L hf hL hLb
          have eg : f_3_gripOf ((am_ob (am_ob M 32 (am_fl (M 32) 32 1)) 31 L) 16) (f : Int) (b : Int) = M 55 (5 * f + b) := by
            rw [ob_ne (by decide), ob_ne (by decide)]
            unfold f_3_gripOf
            rw [if_neg (by omega), if_neg (by omega), if_neg (by omega), if_neg (by omega), show ((f : Int) * 5 + (b : Int)).toNat = 5 * f + b by omega]
            exact (hG _ (by omega)).1
          have hg := (hG (5 * f + b) (by omega)).2
          refine g6_layOrders_17 ⟨fun hc => absurd hc (by omega), fun _ => ?_⟩
          rw [eg]
          refine ⟨by omega, ct_putLeg (by omega) (by omega) ⟨by omega, ?_⟩⟩
          rw [up_ob_eq]
          refine ihc (f + 1) _ (by omega) (fun g d hg hd => ?_) (fun g hg => ?_)
          · rw [set_ne (by omega)]; exact hL g d hg hd
          · by_cases e : g = f
            · subst e; rw [set_eq]; unfold lgO; rw [if_pos (by omega)]
            · rw [set_ne (by omega)]; exact hLb g (by omega)
      exact g6_layOrders_10 ⟨fun hc => absurd hc (by omega), fun _ => inner 5 0 L (by omega) hL (fun g hg => by omega)⟩
  have e0 : am_ob M 32 (am_fl (M 32) 32 1) = am_ob (am_ob M 32 (am_fl (M 32) 32 1)) 31 (M 31) := by
    rw [ob_id' (M := am_ob M 32 (am_fl (M 32) 32 1)) (by rw [ob_ne (by decide)])]
  rw [e0]
  exact outer 5 0 (M 31) (by omega) (fun f d hf hd => by omega)
/-- the reference's sum, from the last joint on -/
def co (M : am_M) : Nat → Nat → Int
  | 0, _ => 0
  | 1, _ => 0
  | m + 2, c => co M (m + 1) (c % 5 ^ (m + 1)) + (16 - M 55 (5 * (c / 5 ^ (m + 1)) + (c % 5 ^ (m + 1)) / 5 ^ m))
theorem co_s (M : am_M) (m c : Nat) : co M (m + 2) c = co M (m + 1) (c % 5 ^ (m + 1)) + (16 - M 55 (5 * (c / 5 ^ (m + 1)) + (c % 5 ^ (m + 1)) / 5 ^ m)) := rfl
theorem co_cst (M : am_M) : ∀ m f s c, f < 5 → c < 5 ^ m → cst (lgO M) (fun _ => 1) m f s c = co M (m + 1) (c + 5 ^ m * f) := by
  intro m
  induction m with
  | zero => intro f s c _ _; rfl
  | succ m ih =>
    intro f s c hf hc
    have hd := dg_lt hc
    have hp := p5_pos (m + 1)
    have e1 : (c + 5 ^ (m + 1) * f) / 5 ^ (m + 1) = f := by rw [Nat.add_mul_div_left _ _ hp, Nat.div_eq_of_lt hc, Nat.zero_add]
    have e2 : (c + 5 ^ (m + 1) * f) % 5 ^ (m + 1) = c := by rw [Nat.add_mul_mod_self_left, Nat.mod_eq_of_lt hc]
    have e3 : c % 5 ^ m + 5 ^ m * (c / 5 ^ m) = c := by have := Nat.div_add_mod c (5 ^ m); omega
    rw [cst_s, ih (c / 5 ^ m) (rm s (c / 5 ^ m)) (c % 5 ^ m) hd dg_mod, e3, co_s, e1, e2, Int.mul_one]
    have el : lgO M f (c / 5 ^ m) = 16 - M 55 (5 * f + c / 5 ^ m) := by unfold lgO; rw [if_pos hf]
    rw [el]; omega
theorem co_all (M : am_M) {n s c : Nat} (hn : 1 ≤ n) (hc : c < 5 ^ n) : cst (lgO M) (fun _ => 1) n 5 s c = co M n c := by
  obtain ⟨m, rfl⟩ : ∃ m, n = m + 1 := ⟨n - 1, by omega⟩
  have hd := dg_lt hc
  have e3 : c % 5 ^ m + 5 ^ m * (c / 5 ^ m) = c := by have := Nat.div_add_mod c (5 ^ m); omega
  rw [cst_s, co_cst M m _ _ _ hd dg_mod, e3]
  have el : lgO M 5 (c / 5 ^ m) = 0 := rfl
  rw [el, Int.zero_mul, Int.zero_add]
theorem co_next (M : am_M) (c m : Nat) : co M (m + 2) (c % 5 ^ (m + 2)) = co M (m + 1) (c % 5 ^ (m + 1)) + (16 - M 55 (5 * (c / 5 ^ (m + 1) % 5) + c / 5 ^ m % 5)) := by
  rw [co_s, dg_a, dg_b, dg_a]
theorem co_rng {M : am_M} (hG : JG M) : ∀ m c, 0 ≤ co M m (c % 5 ^ m) ∧ co M m (c % 5 ^ m) ≤ 16 * m := by
  intro m
  induction m with
  | zero => intro c; show 0 ≤ (0 : Int) ∧ (0 : Int) ≤ _; omega
  | succ m ih =>
    intro c
    cases m with
    | zero => show 0 ≤ (0 : Int) ∧ (0 : Int) ≤ _; omega
    | succ m =>
      rw [co_next]
      have h1 := ih c
      have h2 := hG (5 * (c / 5 ^ (m + 1) % 5) + c / 5 ^ m % 5) (by omega)
      omega
theorem ct_bestOf {q : am_Q} {M : am_M} {s n : Nat} {i v : Int} {c : Nat} (hG : JG M) (hs : s < 32) (hn : cb (s : Int) = n) (hn1 : 1 ≤ n) (hi : -1 ≤ i ∧ i < 5) (hB : isB (lgO M) (fun _ => 1) n 5 s v c)
    (h : ∀ g r : Nat → Int, q (aI (if i = -1 then v else an n c i.toNat)) (am_ob (am_ob M 60 g) 61 r)) : S12_bestOf [aR 44, aI (s : Int), aI i] M q := by
  have hcr := cb_rng (s : Int)
  have hn5 : n ≤ 5 := by omega
  have p5b : ∀ k, k ≤ 5 → 5 ^ k ≤ 3125 := by
    intro k hk
    have : k = 0 ∨ k = 1 ∨ k = 2 ∨ k = 3 ∨ k = 4 ∨ k = 5 := by omega
    rcases this with e | e | e | e | e | e <;> subst e <;> decide
  have hpn := p5b n hn5
  have cpos : ∀ k, k < 5 ^ n → 0 ≤ cst (lgO M) (fun _ => 1) n 5 s k := fun k hk => (cst_rng (lgO_rng hG) (fun _ _ => ⟨by decide, by decide⟩) n 5 s k (by omega) hs hk).1
  have scan : ∀ (a K : Nat) (v5 : Int) (g r : Nat → Int), K + a = 5 ^ n → ((v5 = -1 ∧ ∀ k, k < K → ¬ vl n s k) ∨ (∃ c0 : Nat, c0 < K ∧ vl n s c0 ∧ v5 = cst (lgO M) (fun _ => 1) n 5 s c0 ∧ (∀ k, k < K → vl n s k → v5 ≤ cst (lgO M) (fun _ => 1) n 5 s k) ∧ (∀ k, k < c0 → vl n s k → v5 < cst (lgO M) (fun _ => 1) n 5 s k) ∧ ∀ j, j < 5 → g j = an n c0 j)) → am_R K12_bestOf q 35 [aR 44, aI (s : Int), aI i, aI (n : Int), aI ((5 ^ n : Nat) : Int), aI v5, aI (K : Int), aJ, aJ, aJ, aJ] [] (am_ob (am_ob M 60 g) 61 r) := by
    intro a
    induction a with
    | zero =>
      intro K v5 g r hK hv
      refine g12_bestOf_35 ⟨fun _ => ⟨fun _ => by omega, fun x3 hx3 => ?_⟩, fun hc => absurd hc (by omega)⟩
      rcases hv with ⟨e1, e2⟩ | ⟨c0, e1, e2, e3, e4, e5, e6⟩
      · exact absurd hB.2.1 (e2 c (by have := hB.1; omega))
      · have hB2 : isB (lgO M) (fun _ => 1) n 5 s v5 c0 := ⟨by omega, e2, e3.symm, fun k hk hvk => e4 k (by omega) hvk, e5⟩
        obtain ⟨u1, u2⟩ := isB_un hB hB2
        have ex : x3 = if i = -1 then v else an n c i.toNat := by
          rw [hx3, ob_ne (by decide), ob_eq, u1, u2]
          by_cases ei : i = -1
          · rw [if_pos ei, if_pos ei]
          · rw [if_neg ei, if_neg ei, e6 i.toNat (by omega)]
        rw [ex]
        exact h g r
    | succ a ih =>
      intro K v5 g r hK hv
      have hKlt : K < 5 ^ n := by omega
      refine g12_bestOf_35 ⟨fun hc => absurd hc (by omega), fun _ => ⟨by omega, fun x4 hx4 => ?_⟩⟩
      -- decode
      have dec : ∀ (b m : Nat) (r : Nat → Int), m + b = n → (∀ j, j < m → r (n - 1 - j) = ((K / 5 ^ j % 5 : Nat) : Int)) → am_R K12_bestOf q 57 [aR 44, aI (s : Int), aI i, aI (n : Int), aI ((5 ^ n : Nat) : Int), aI v5, aI (K : Int), aI ((K / 5 ^ m : Nat) : Int), aI (orc m (K % 5 ^ m)), aI (co M m (K % 5 ^ m)), aI ((n : Int) - 1 - (m : Int))] [] (am_ob (am_ob M 60 g) 61 r) := by
        intro b
        induction b with
        | zero =>
          intro m r hm hr
          have em : m = n := by omega
          subst em
          have eK : K % 5 ^ m = K := Nat.mod_eq_of_lt hKlt
          rw [eK]
          have hov := orc_vl m s K hs hKlt hn
          have hcc := co_all M (s := s) hn1 hKlt
          have hpos := cpos K hKlt
          have next0 : am_R K12_bestOf q 35 [aR 44, aI (s : Int), aI i, aI (m : Int), aI ((5 ^ m : Nat) : Int), aI v5, aI ((K : Int) + 1), aJ, aJ, aJ, aJ] [] (am_ob (am_ob M 60 g) 61 r) ∨ (vl m s K ∧ (v5 = -1 ∨ co M m K < v5)) := by
            by_cases hvK : vl m s K ∧ (v5 = -1 ∨ co M m K < v5)
            · exact Or.inr hvK
            · left
              refine ih (K + 1) v5 g r (by omega) ?_
              rcases hv with ⟨e1, e2⟩ | ⟨c0, e1, e2, e3, e4, e5, e6⟩
              · left
                refine ⟨e1, fun k hk hvk => ?_⟩
                by_cases ek : k = K
                · rw [ek] at hvk; exact hvK ⟨hvk, Or.inl e1⟩
                · exact e2 k (by omega) hvk
              · right
                refine ⟨c0, by omega, e2, e3, fun k hk hvk => ?_, e5, e6⟩
                by_cases ek : k = K
                · rw [ek] at hvk ⊢
                  rw [hcc]
                  by_cases cl : co M m K < v5
                  · exact absurd ⟨hvk, Or.inr cl⟩ hvK
                  · omega
                · exact e4 k (by omega) hvk
          have copy : vl m s K → (v5 = -1 ∨ co M m K < v5) → ∀ (b2 k : Nat) (g : Nat → Int), k + b2 = 5 → (∀ j, j < k → g j = an m K j) → am_R K12_bestOf q 169 [aR 44, aI (s : Int), aI i, aI (m : Int), aI ((5 ^ m : Nat) : Int), aI (co M m K), aI (K : Int), aJ, aJ, aJ, aI (k : Int)] [] (am_ob (am_ob M 60 g) 61 r) := by
            intro hvK hlt b2
            induction b2 with
            | zero =>
              intro k g hk hg
              refine g12_bestOf_169 ⟨fun _ => ⟨by omega, ih (K + 1) (co M m K) g r (by omega) ?_⟩, fun hc => absurd hc (by omega)⟩
              right
              refine ⟨K, by omega, hvK, hcc.symm, fun k2 hk2 hvk => ?_, fun k2 hk2 hvk => ?_, fun j hj => hg j (by omega)⟩
              · by_cases ek : k2 = K
                · rw [ek, hcc]; exact Int.le_refl _
                · rcases hv with ⟨e1, e2⟩ | ⟨c0, e1, e2, e3, e4, e5, e6⟩
                  · exact absurd hvk (e2 k2 (by omega))
                  · have := e4 k2 (by omega) hvk
                    have h0 := cpos c0 (by omega)
                    omega
              · rcases hv with ⟨e1, e2⟩ | ⟨c0, e1, e2, e3, e4, e5, e6⟩
                · exact absurd hvk (e2 k2 (by omega))
                · have := e4 k2 (by omega) hvk
                  have h0 := cpos c0 (by omega)
                  omega
            | succ b2 ihb =>
              intro k g hk hg
              have ek : ((k : Int)).toNat = k := rfl
              refine g12_bestOf_169 ⟨fun hc => absurd hc (by omega), fun _ => ⟨fun _ => by omega, fun x3 hx3 => ⟨by omega, by omega, ?_⟩⟩⟩
              rw [ob_eq, ek] at hx3
              rw [ek, up_ob_ne (by decide), up_ob_eq]
              refine ihb (k + 1) _ (by omega) (fun j hj => ?_)
              by_cases ej : j = k
              · subst ej
                rw [set_eq, hx3, an_eq m K j hKlt]
                by_cases cj : j < m
                · rw [if_neg (by omega), if_pos cj]
                  have := hr (m - 1 - j) (by omega)
                  rw [show m - 1 - (m - 1 - j) = j by omega] at this
                  exact this
                · rw [if_pos (by omega), if_neg cj]
              · rw [set_ne ej]; exact hg j (by omega)
          refine g12_bestOf_57 ⟨fun _ => ⟨fun hh => ?_, fun hh => ⟨by omega, ?_⟩⟩, fun hc => absurd hc (by omega)⟩
          · have hvK := hov.mp hh
            refine ⟨fun e => copy hvK (Or.inl e) 5 0 g (by omega) (fun j hj => by omega), fun e => ⟨fun hle => ⟨by omega, ?_⟩, fun hgt => copy hvK (Or.inr (by omega)) 5 0 g (by omega) (fun j hj => by omega)⟩⟩
            rcases next0 with hx | hx
            · exact hx
            · rcases hx.2 with h1 | h1
              · exact absurd h1 e
              · omega
          · rcases next0 with hx | hx
            · exact hx
            · exact absurd (hov.mpr hx.1) hh
        | succ b ihb =>
          intro m r hm hr
          have ed : (((K / 5 ^ m : Nat) : Int) % 5) = ((K / 5 ^ m % 5 : Nat) : Int) := rfl
          have eq5 : (((K / 5 ^ m : Nat) : Int) / 5) = ((K / 5 ^ (m + 1) : Nat) : Int) := by
            rw [p5_s, ← Nat.div_div_eq_div_mul]; rfl
          have hx5 : K / 5 ^ m % 5 < 5 := Nat.mod_lt _ (by decide)
          have cr := co_rng hG m K
          have cr2 := co_rng hG (m + 1) K
          refine g12_bestOf_57 ⟨fun hc => absurd hc (by omega), fun _ => ⟨Int.natCast_nonneg _, fun x5 hx5' => ⟨by omega, fun x6 hx6 => ⟨by omega, fun x7 hx7 => ⟨by omega, ?_⟩⟩⟩⟩⟩
          rw [ed] at hx5'
          rw [eq5] at hx6
          have ek : ((n : Int) - 1 - (m : Int)).toNat = n - 1 - m := by omega
          have ek1 : ((n : Int) - 1 - (m : Int) + 1).toNat = n - 1 - m + 1 := by omega
          have e7 : x7 = orc (m + 1) (K % 5 ^ (m + 1)) := by rw [hx7, hx5', orc_next]
          rw [ek, ek1, up_ob_eq, ob_eq, ob_ne (by decide : (55 : Nat) ≠ 61), ob_ne (by decide : (55 : Nat) ≠ 60), set_ne (show n - 1 - m + 1 ≠ n - 1 - m by omega)]
          have hprev : ¬ ((n : Int) - 1 ≤ (n : Int) - 1 - (m : Int)) → 1 ≤ m ∧ r (n - 1 - m + 1) = ((K / 5 ^ (m - 1) % 5 : Nat) : Int) := by
            intro hx
            refine ⟨by omega, ?_⟩
            have := hr (m - 1) (by omega)
            rw [show n - 1 - (m - 1) = n - 1 - m + 1 by omega] at this
            exact this
          have hsum : ∀ x9 : Int, x9 = (if (n : Int) - 1 ≤ (n : Int) - 1 - (m : Int) then 0 else 16 - M 55 ((5 * x5 + r (n - 1 - m + 1)).toNat)) → co M m (K % 5 ^ m) + x9 = co M (m + 1) (K % 5 ^ (m + 1)) := by
            intro x9 hx9
            by_cases c0 : (n : Int) - 1 ≤ (n : Int) - 1 - (m : Int)
            · rw [if_pos c0] at hx9
              have em : m = 0 := by omega
              subst em
              rw [hx9]; rfl
            · rw [if_neg c0] at hx9
              obtain ⟨hm1, hp1⟩ := hprev c0
              obtain ⟨m', rfl⟩ : ∃ m', m = m' + 1 := ⟨m - 1, by omega⟩
              rw [co_next, hx9, hp1, hx5', show m' + 1 - 1 = m' by omega]
              have et : (5 * ((K / 5 ^ (m' + 1) % 5 : Nat) : Int) + ((K / 5 ^ m' % 5 : Nat) : Int)).toNat = 5 * (K / 5 ^ (m' + 1) % 5) + K / 5 ^ m' % 5 := by omega
              rw [et]
          refine ⟨fun hx => ?_, fun x9 hx9 => ?_⟩
          · obtain ⟨hm1, hp1⟩ := hprev hx
            rw [hp1]
            have hlt : K / 5 ^ (m - 1) % 5 < 5 := Nat.mod_lt _ (by decide)
            have et : (5 * x5 + ((K / 5 ^ (m - 1) % 5 : Nat) : Int)).toNat = 5 * (K / 5 ^ m % 5) + K / 5 ^ (m - 1) % 5 := by omega
            have hg55 := hG (5 * (K / 5 ^ m % 5) + K / 5 ^ (m - 1) % 5) (by omega)
            rw [et]
            exact ⟨by omega, by omega, by omega, by omega, by omega, by omega⟩
          · have hs9 := hsum x9 hx9
            rw [hs9]
            refine ⟨by omega, fun x10 hx10 => ⟨by omega, ?_⟩⟩
            rw [hx10, hx6, e7, show (n : Int) - 1 - (m : Int) + (-1) = (n : Int) - 1 - ((m + 1 : Nat) : Int) by omega]
            refine ihb (m + 1) _ (by omega) (fun j hj => ?_)
            by_cases ej : j = m
            · subst ej; rw [set_eq, hx5']
            · rw [set_ne (by omega)]; exact hr j (by omega)
      have e0 : ((K / 5 ^ 0 : Nat) : Int) = (K : Int) := by rw [Nat.pow_zero, Nat.div_one]
      have := dec n 0 r (by omega) (fun j hj => by omega)
      rw [e0, show (n : Int) - 1 - ((0 : Nat) : Int) = x4 by omega] at this
      exact this
  refine e12_bestOf (ct_ones (by omega) ⟨_, rfl, ?_⟩)
  have pw : ∀ (a k : Nat), k + a = n → am_R K12_bestOf q 11 [aR 44, aI (s : Int), aI i, aI (n : Int), aI ((5 ^ k : Nat) : Int), aI (k : Int), aJ, aJ, aJ, aJ, aJ] [] M := by
    intro a
    induction a with
    | zero =>
      intro k hk
      have ek : k = n := by omega
      subst ek
      refine g12_bestOf_11 ⟨fun _ => ?_, fun hc => absurd hc (by omega)⟩
      have := scan (5 ^ k) 0 (-1) (M 60) (M 61) (by omega) (Or.inl ⟨rfl, fun k hk => by omega⟩)
      have e1 : am_ob (am_ob M 60 (M 60)) 61 (M 61) = M := by rw [ob_id, ob_id]
      rw [e1] at this
      exact this
    | succ a ih =>
      intro k hk
      have pk := p5b k (by omega)
      have pk0 := p5_pos k
      refine g12_bestOf_11 ⟨fun hc => absurd hc (by omega), fun _ => ⟨by omega, fun x2 hx2 => ⟨by omega, ?_⟩⟩⟩
      have e : x2 = ((5 ^ (k + 1) : Nat) : Int) := by rw [hx2, p5_s, Int.natCast_mul]; rfl
      rw [e]
      exact ih (k + 1) (by omega)
  rw [hn]
  exact pw n 0 (by omega)
