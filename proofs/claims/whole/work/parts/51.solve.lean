/-! rows: the class -/
theorem cst_rng2 {lg : Nat → Nat → Int} {W : Nat → Int} (hl : ∀ f d, f < 7 → d < 5 → -1 ≤ lg f d ∧ lg f d ≤ 63) (hW : ∀ s, s < 32 → 0 ≤ W s ∧ W s ≤ 45) : ∀ m f s c : Nat, f < 7 → s < 32 → c < 5 ^ m → -45 * (m : Int) ≤ cst lg W m f s c ∧ cst lg W m f s c ≤ 2835 * m := by
  intro m
  induction m with
  | zero => intro f s c _ _ _; show -45 * ((0 : Nat) : Int) ≤ (0 : Int) ∧ (0 : Int) ≤ 2835 * ((0 : Nat) : Int); omega
  | succ m ih =>
    intro f s c hf hs hc
    have hd := dg_lt hc
    rw [cst_s]
    have h1 := ih (c / 5 ^ m) (rm s (c / 5 ^ m)) (c % 5 ^ m) (by omega) (rm_f hs hd).2.1 dg_mod
    have h2 := hl f _ hf hd
    have h3 := hW s hs
    have h4 : (-1) * W s ≤ lg f (c / 5 ^ m) * W s := Int.mul_le_mul_of_nonneg_right h2.1 h3.1
    have h5 : lg f (c / 5 ^ m) * W s ≤ 63 * W s := Int.mul_le_mul_of_nonneg_right h2.2 h3.1
    omega
theorem isB_greedy {lg : Nat → Nat → Int} {W : Nat → Int} {m f s d : Nat} {V : Nat → Int} (hV : ∀ e, e < 5 → hasB s e → ∃ c, isB lg W m e (rm s e) (V e) c) (hC : isC s (fun e => lg f e * W s + V e) d) : ∃ c', isB lg W m d (rm s d) (V d) c' ∧ isB lg W (m + 1) f s (lg f d * W s + V d) (c' + 5 ^ m * d) := by
  have hC2 : ∀ e, e < 5 → hasB s e → isB lg W m e (rm s e) (V e) (Classical.epsilon (fun c => isB lg W m e (rm s e) (V e) c)) := fun e he hb => Classical.epsilon_spec (p := fun c => isB lg W m e (rm s e) (V e) c) (hV e he hb)
  obtain ⟨h1, h2, h3, h4⟩ := hC
  exact ⟨_, hC2 d h1 h2, isB_step (C := fun e => Classical.epsilon (fun c => isB lg W m e (rm s e) (V e) c)) h1 h2 hC2 h3 h4⟩
/-- the legs and weights as the class holds them -/
def lgM (M : am_M) : Nat → Nat → Int := fun f d => M 31 (f * 5 + d)
def LB (M : am_M) : Prop := (∀ j, j < 35 → -1 ≤ M 31 j ∧ M 31 j ≤ 63) ∧ ∀ s, s < 32 → 0 ≤ M 32 s ∧ M 32 s ≤ 45
theorem LB.l {M : am_M} (h : LB M) : ∀ f d, f < 7 → d < 5 → -1 ≤ lgM M f d ∧ lgM M f d ≤ 63 := fun f d hf hd => h.1 _ (by omega)
/-- the table holds for a set -/
def tO (M : am_M) (T : Nat → Int) (s : Nat) : Prop := ∀ f, f < 7 → ∃ c, isB (lgM M) (M 32) (cb (s : Int)).toNat f s (T (s * 7 + f)) c
theorem tO_rng {M : am_M} (hB : LB M) {T : Nat → Int} {s f : Nat} (hs : s < 32) (hf : f < 7) (h : tO M T s) : -225 ≤ T (s * 7 + f) ∧ T (s * 7 + f) ≤ 14175 := by
  obtain ⟨c, hc⟩ := h f hf
  have h1 := cst_rng2 hB.l hB.2 _ f s c hf hs hc.1
  have h2 := cb_rng (s : Int)
  rw [hc.2.2.1] at h1
  omega
theorem costBy_in {m31 m32 m33 : Nat → Int} {f s d : Nat} (hf : f < 7) (hs : s < 32) (hd : d < 5) : f_6_costBy m31 m32 m33 (f : Int) (s : Int) (d : Int) = m31 (f * 5 + d) * m32 s + m33 (rm s d * 7 + d) := by
  have r := rm_f hs hd
  unfold f_6_costBy f_6_leastFrom
  rw [← r.1, if_neg (by omega), if_neg (by omega), if_neg (by omega), if_neg (by omega), if_neg (by omega), if_neg (by omega), if_neg (by omega), if_neg (by omega), if_neg (by omega), if_neg (by omega)]
  have e1 : ((f : Int) * 5 + (d : Int)).toNat = f * 5 + d := by omega
  have e2 : (((rm s d : Nat) : Int) * 7 + (d : Int)).toNat = rm s d * 7 + d := by omega
  rw [e1, e2]
  rfl
theorem costBy_ob {m31 m32 m33 : Nat → Int} {f s d : Nat} (hf : f < 7) (hs : s < 32) (hd : d < 5) (h1 : -1 ≤ m31 (f * 5 + d) ∧ m31 (f * 5 + d) ≤ 63) (h2 : 0 ≤ m32 s ∧ m32 s ≤ 45) (h3 : -225 ≤ m33 (rm s d * 7 + d) ∧ m33 (rm s d * 7 + d) ≤ 14175) : ob_6_costBy m31 m32 m33 (f : Int) (s : Int) (d : Int) := by
  have r := rm_f hs hd
  have h4 : (-1) * m32 s ≤ m31 (f * 5 + d) * m32 s := Int.mul_le_mul_of_nonneg_right h1.1 h2.1
  have h5 : m31 (f * 5 + d) * m32 s ≤ 63 * m32 s := Int.mul_le_mul_of_nonneg_right h1.2 h2.1
  have e1 : ((f : Int) * 5 + (d : Int)).toNat = f * 5 + d := by omega
  have es : ((s : Int)).toNat = s := rfl
  have el : f_6_leastFrom m33 (d : Int) (am_and (s : Int) (am_xor (am_shl 1 (d : Int)) (-1))) = m33 (rm s d * 7 + d) := by
    unfold f_6_leastFrom
    rw [← r.1, if_neg (by omega), if_neg (by omega), if_neg (by omega), if_neg (by omega)]
    have e2 : (((rm s d : Nat) : Int) * 7 + (d : Int)).toNat = rm s d * 7 + d := by omega
    rw [e2]
  unfold ob_6_costBy
  rw [e1, es, el]
  intro _ _ _ _ _ _
  exact ⟨by omega, by omega, by omega, by omega, by omega, by omega, by omega⟩
theorem ct_cheap6 {q : am_Q} {M : am_M} {f s : Nat} (hB : LB M) (hf : f < 7) (hs : s < 32) (hs0 : ¬ s = 0) (hT : ∀ d, d < 5 → hasB s d → -225 ≤ M 33 (rm s d * 7 + d) ∧ M 33 (rm s d * 7 + d) ≤ 14175)
    (h : ∀ d, isC s (fun e => lgM M f e * M 32 s + M 33 (rm s e * 7 + e)) d → q (aI (d : Int)) M) : S6_cheapestNext [aR 30, aI (f : Int), aI (s : Int)] M q := by
  have loop : ∀ (a i : Nat) (v3 v4 : Int), i + a = 5 → ((v3 = -1 ∧ ∀ d, d < i → ¬ hasB s d) ∨ (∃ d : Nat, v3 = (d : Int) ∧ d < i ∧ hasB s d ∧ v4 = lgM M f d * M 32 s + M 33 (rm s d * 7 + d) ∧ (∀ e, e < i → hasB s e → v4 ≤ lgM M f e * M 32 s + M 33 (rm s e * 7 + e)) ∧ ∀ e, e < d → hasB s e → v4 < lgM M f e * M 32 s + M 33 (rm s e * 7 + e))) → am_R K6_cheapestNext q 8 [aR 30, aI (f : Int), aI (s : Int), aI v3, aI v4, aI (i : Int), aJ] [] M := by
    intro a
    induction a with
    | zero =>
      intro i v3 v4 hi hv
      refine g6_cheapestNext_8 ⟨fun _ => ?_, fun hc => absurd hc (by omega)⟩
      rcases hv with ⟨e1, e2⟩ | ⟨d, e1, e2, e3, e4, e5, e6⟩
      · obtain ⟨d, hd, hb⟩ := some_b hs hs0
        exact absurd hb (e2 d (by omega))
      · rw [e1]
        rw [e4] at e5 e6
        exact h d ⟨by omega, e3, fun e he hb => e5 e (by omega) hb, e6⟩
    | succ a ih =>
      intro i v3 v4 hi hv
      refine g6_cheapestNext_8 ⟨fun hc => absurd hc (by omega), fun _ => ⟨by omega, fun hz => ⟨by omega, ih (i + 1) v3 v4 (by omega) ?_⟩, fun hz => ?_⟩⟩
      · have hn : ¬ hasB s i := fun hx => hx hz
        rcases hv with ⟨e1, e2⟩ | ⟨d, e1, e2, e3, e4, e5, e6⟩
        · left
          refine ⟨e1, fun d hd => ?_⟩
          by_cases c : d = i
          · rw [c]; exact hn
          · exact e2 d (by omega)
        · right
          refine ⟨d, e1, by omega, e3, e4, fun e he hb => ?_, e6⟩
          by_cases c : e = i
          · rw [c] at hb; exact absurd hb hn
          · exact e5 e (by omega) hb
      · have hb : hasB s i := hz
        have hTi := hT i (by omega) hb
        rw [costBy_in hf hs (by omega)]
        refine ⟨costBy_ob hf hs (by omega) (hB.1 _ (by omega)) (hB.2 s hs) hTi, fun x3 hx3 x6 hx6 x7 hx7 => ⟨by omega, ih (i + 1) x6 x7 (by omega) ?_⟩⟩
        have hx3' : x3 = lgM M f i * M 32 s + M 33 (rm s i * 7 + i) := hx3
        right
        rcases hv with ⟨e1, e2⟩ | ⟨d, e1, e2, e3, e4, e5, e6⟩
        · rw [if_pos e1] at hx6 hx7
          refine ⟨i, hx6, by omega, hb, by rw [hx7, hx3'], fun e he hbe => ?_, fun e he hbe => absurd hbe (e2 e (by omega))⟩
          by_cases c : e = i
          · rw [c, hx7, hx3']; exact Int.le_refl _
          · exact absurd hbe (e2 e (by omega))
        · rw [if_neg (by omega)] at hx6 hx7
          by_cases c : v4 ≤ x3
          · rw [if_pos c] at hx6 hx7
            rw [hx7]
            refine ⟨d, by rw [hx6, e1], by omega, e3, e4, fun e he hbe => ?_, e6⟩
            by_cases c2 : e = i
            · rw [c2]; omega
            · exact e5 e (by omega) hbe
          · rw [if_neg c] at hx6 hx7
            refine ⟨i, hx6, by omega, hb, by rw [hx7, hx3'], fun e he hbe => ?_, fun e he hbe => ?_⟩
            · by_cases c2 : e = i
              · rw [c2]; omega
              · have := e5 e (by omega) hbe; omega
            · have := e5 e (by omega) hbe; omega
  exact e6_cheapestNext (loop 5 0 (-1) 0 (by omega) (Or.inl ⟨rfl, fun d hd => by omega⟩))
theorem lgM_ob {M : am_M} {o : Nat} {f : Nat → Int} (h : 31 ≠ o) : lgM (am_ob M o f) = lgM M := by unfold lgM; rw [ob_ne h]
theorem LB_ob {M : am_M} {o : Nat} {f : Nat → Int} (h : 31 ≠ o) (h2 : 32 ≠ o) (hB : LB M) : LB (am_ob M o f) := by unfold LB at *; rw [ob_ne h, ob_ne h2]; exact hB
theorem ct_solve {q : am_Q} {M : am_M} {all : Nat} (hall : all < 32) (hB : LB M) (h : ∀ T : Nat → Int, (∀ s, s < 32 → sub_ s all → tO M T s) → q aJ (am_ob M 33 T)) : S6_solve [aR 30, aI (all : Int)] M q := by
  have outer : ∀ (a b : Nat) (T : Nat → Int), b + a = 32 → 1 ≤ b → (∀ s, s < b → sub_ s all → tO M T s) → am_R K6_solve q 10 [aR 30, aI (all : Int), aI (b : Int), aJ] [] (am_ob M 33 T) := by
    intro a
    induction a with
    | zero =>
      intro b T hb h1 hT
      exact g6_solve_10 ⟨fun _ => h T (fun s hs => hT s (by omega)), fun hc => absurd hc (by omega)⟩
    | succ a ih =>
      intro b T hb h1 hT
      refine g6_solve_10 ⟨fun hc => absurd hc (by omega), fun _ => ⟨fun hsub => ?_, fun hsub => ⟨by omega, ih (b + 1) T (by omega) (by omega) (fun s hs hss => ?_)⟩⟩⟩
      · have hsub' : sub_ b all := hsub
        have inner : ∀ (c f : Nat) (T : Nat → Int), f + c = 7 → (∀ s, s < b → sub_ s all → tO M T s) → (∀ g, g < f → ∃ c, isB (lgM M) (M 32) (cb (b : Int)).toNat g b (T (b * 7 + g)) c) → am_R K6_solve q 26 [aR 30, aI (all : Int), aI (b : Int), aI (f : Int)] [] (am_ob M 33 T) := by
          intro c
          induction c with
          | zero =>
            intro f T hf hT hTb
            refine g6_solve_26 ⟨fun _ => ⟨by omega, ih (b + 1) T (by omega) (by omega) (fun s hs hss => ?_)⟩, fun hc => absurd hc (by omega)⟩
            by_cases e : s = b
            · subst e; exact fun f' hf' => hTb f' (by omega)
            · exact hT s (by omega) hss
          | succ c ihc =>
            intro f T hf hT hTb
            have hb32 : b < 32 := by omega
            have hbd : ∀ d, d < 5 → hasB b d → tO M T (rm b d) := fun d hd hh => hT (rm b d) ((rm_f hb32 hd).2.2 hh).1 (sub_rm hb32 hall hd hsub')
            have hrg : ∀ d, d < 5 → hasB b d → -225 ≤ T (rm b d * 7 + d) ∧ T (rm b d * 7 + d) ≤ 14175 := fun d hd hh => tO_rng hB (rm_f hb32 hd).2.1 (by omega) (hbd d hd hh)
            refine g6_solve_26 ⟨fun hc => absurd hc (by omega), fun _ => ⟨by omega, by omega, ct_cheap6 (LB_ob (by decide) (by decide) hB) (by omega) hb32 (by omega) (by rw [ob_eq]; exact hrg) (fun d hd => ?_)⟩⟩
            rw [lgM_ob (by decide), ob_ne (by decide : (32 : Nat) ≠ 33), ob_eq] at hd
            have hd5 := hd.1
            have hdb := hd.2.1
            rw [ob_ne (by decide : (31 : Nat) ≠ 33), ob_ne (by decide : (32 : Nat) ≠ 33), ob_eq]
            refine ⟨_, rfl, ?_⟩
            rw [costBy_in (f := f) (by omega) hb32 hd5]
            refine ⟨costBy_ob (by omega) hb32 hd5 (hB.1 _ (by omega)) (hB.2 b hb32) (hrg d hd5 hdb), fun x6 hx6 => ⟨by omega, by omega, ?_⟩⟩
            rw [up_ob_eq, show ((b : Int) * 7 + (f : Int)).toNat = b * 7 + f by omega]
            have hcb := cb_rng (b : Int)
            have hm : ∀ e, e < 5 → hasB b e → cb ((rm b e : Nat) : Int) = cb (b : Int) - 1 := fun e he hh => ((rm_f hb32 he).2.2 hh).2
            have hm0 := hm d hd5 hdb
            have hcr := cb_rng ((rm b d : Nat) : Int)
            obtain ⟨m, em⟩ : ∃ m : Nat, (cb (b : Int)).toNat = m + 1 := ⟨(cb (b : Int)).toNat - 1, by omega⟩
            obtain ⟨c', hc1, hc2⟩ := isB_greedy (m := m) (V := fun e => T (rm b e * 7 + e)) (fun e he hh => by
              obtain ⟨c, hc⟩ := hbd e he hh e (by omega)
              have e1 := hm e he hh
              rw [show (cb ((rm b e : Nat) : Int)).toNat = m by omega] at hc
              exact ⟨c, hc⟩) hd
            refine ihc (f + 1) _ (by omega) (fun s hs hss => ?_) (fun g hg => ?_)
            · intro g hg
              rw [set_ne (by omega)]
              exact hT s hs hss g hg
            · by_cases e : g = f
              · subst e
                rw [set_eq, em, hx6]
                exact ⟨_, hc2⟩
              · rw [set_ne (by omega)]; exact hTb g (by omega)
        exact inner 7 0 T (by omega) hT (fun g hg => by omega)
      · by_cases e : s = b
        · subst e; exact absurd hss hsub
        · exact hT s (by omega) hss
  refine e6_solve (ct_fillI (N := 224) rfl (by decide) (outer 31 1 _ (by omega) (by omega) (fun s hs _ => ?_)))
  have e : s = 0 := by omega
  subst e
  intro f hf
  refine ⟨0, ?_⟩
  have ez : am_fl (M 33) 224 0 (0 * 7 + f) = 0 := by unfold am_fl; rw [if_pos (by omega)]
  rw [ez]
  exact isB_zero _ _ f
/-- the j-th digit of a row of m, -1 behind its end -/
def an : Nat → Nat → Nat → Int
  | 0, _, _ => -1
  | m + 1, c, j => if j = 0 then ((c / 5 ^ m : Nat) : Int) else an m (c % 5 ^ m) (j - 1)
theorem ct_stopAt {q : am_Q} {M : am_M} {all : Nat} (hall : all < 32) (hB : LB M) (hT : ∀ s, s < 32 → sub_ s all → tO M (M 33) s) {i : Nat} {v : Int} {c : Nat} (hc : isB (lgM M) (M 32) (cb (all : Int)).toNat 5 all v c) (h : q (aI (an (cb (all : Int)).toNat c i)) M) : S6_stopAt [aR 30, aI (all : Int), aI (i : Int)] M q := by
  have loop : ∀ (m k f s c : Nat) (v : Int), k + m ≤ 5 → k ≤ i → f < 7 → s < 32 → sub_ s all → (cb (s : Int)).toNat = m → isB (lgM M) (M 32) m f s v c → q (aI (an m c (i - k))) M → am_R K6_stopAt q 8 [aR 30, aJ, aI (i : Int), aI (f : Int), aI (s : Int), aI (k : Int), aJ] [] M := by
    intro m
    induction m with
    | zero =>
      intro k f s c v hk hki hf hs hss hcb hc h
      have hcr := cb_rng (s : Int)
      have e0 : s = 0 := cb_zero ⟨s, hs⟩ (show cb (s : Int) = 0 by omega)
      subst e0
      exact g6_stopAt_8 ⟨fun _ => h, fun _ => ⟨fun _ => h, fun hx => absurd rfl hx⟩⟩
    | succ m ih =>
      intro k f s c v hk hki hf hs hss hcb hc h
      have hs0 : ¬ s = 0 := by
        intro e; subst e
        have : (cb ((0 : Nat) : Int)).toNat = 0 := rfl
        omega
      have hbd : ∀ d, d < 5 → hasB s d → tO M (M 33) (rm s d) := fun d hd hh => hT (rm s d) (rm_f hs hd).2.1 (sub_rm hs hall hd hss)
      have hrg : ∀ d, d < 5 → hasB s d → -225 ≤ M 33 (rm s d * 7 + d) ∧ M 33 (rm s d * 7 + d) ≤ 14175 := fun d hd hh => tO_rng hB (rm_f hs hd).2.1 (by omega) (hbd d hd hh)
      refine g6_stopAt_8 ⟨fun hx => absurd hx (by omega), fun _ => ⟨fun hx => absurd hx (by omega), fun _ => ct_cheap6 hB hf hs hs0 hrg (fun d hd => ?_)⟩⟩
      have hd5 := hd.1
      have hdb := hd.2.1
      have hm : ∀ e, e < 5 → hasB s e → cb ((rm s e : Nat) : Int) = cb (s : Int) - 1 := fun e he hh => ((rm_f hs he).2.2 hh).2
      obtain ⟨c', hc1, hc2⟩ := isB_greedy (m := m) (V := fun e => M 33 (rm s e * 7 + e)) (fun e he hh => by
        obtain ⟨c, hc⟩ := hbd e he hh e (by omega)
        have e1 := hm e he hh
        rw [show (cb ((rm s e : Nat) : Int)).toNat = m by omega] at hc
        exact ⟨c, hc⟩) hd
      have hu := (isB_un hc hc2).2
      have hp := p5_pos m
      have e1 : c / 5 ^ m = d := by rw [hu, Nat.add_mul_div_left _ _ hp, Nat.div_eq_of_lt hc1.1, Nat.zero_add]
      have e2 : c % 5 ^ m = c' := by rw [hu, Nat.add_mul_mod_self_left, Nat.mod_eq_of_lt hc1.1]
      have ea : an (m + 1) c (i - k) = if i - k = 0 then ((c / 5 ^ m : Nat) : Int) else an m (c % 5 ^ m) (i - k - 1) := rfl
      rw [ea, e1, e2] at h
      refine ⟨_, rfl, fun hx => absurd hx (by omega), fun _ => ⟨fun hki2 => ?_, fun hki2 => ⟨by omega, fun x9 hx9 => ⟨by omega, ?_⟩⟩⟩⟩
      · rw [if_pos (by omega)] at h; exact h
      · rw [if_neg (by omega)] at h
        have r := rm_f hs hd5
        rw [← r.1] at hx9
        rw [hx9]
        have := hm d hd5 hdb
        refine ih (k + 1) d (rm s d) c' _ (by omega) (by omega) (by omega) r.2.1 (sub_rm hs hall hd5 hss) (by omega) hc1 ?_
        rw [show i - (k + 1) = i - k - 1 by omega]
        exact h
  have hcr := cb_rng (all : Int)
  exact e6_stopAt (loop _ 0 5 all c v (by omega) (by omega) (by omega) hall (sub_self_fin ⟨all, hall⟩).1 rfl hc h)
theorem dg_c (c : Nat) {n j : Nat} (h : j < n) : c % 5 ^ n / 5 ^ j % 5 = c / 5 ^ j % 5 := by
  obtain ⟨t, rfl⟩ : ∃ t, n = j + (t + 1) := ⟨n - j - 1, by omega⟩
  rw [Nat.pow_add, Nat.mod_mul_right_div_self, p5_s, Nat.mul_comm (5 ^ t) 5, Nat.mod_mul_right_mod]
theorem an_eq : ∀ m c j, c < 5 ^ m → an m c j = if j < m then ((c / 5 ^ (m - 1 - j) % 5 : Nat) : Int) else -1 := by
  intro m
  induction m with
  | zero => intro c j _; rw [if_neg (by omega)]; rfl
  | succ m ih =>
    intro c j hc
    show (if j = 0 then ((c / 5 ^ m : Nat) : Int) else an m (c % 5 ^ m) (j - 1)) = _
    by_cases e : j = 0
    · rw [if_pos e, if_pos (by omega), e, show m + 1 - 1 - 0 = m by omega, Nat.mod_eq_of_lt (dg_lt hc)]
    · rw [if_neg e, ih _ _ dg_mod]
      by_cases c2 : j < m + 1
      · rw [if_pos (show j - 1 < m by omega), if_pos c2, show m + 1 - 1 - j = m - 1 - (j - 1) by omega, dg_c c (by omega)]
      · rw [if_neg (show ¬ j - 1 < m by omega), if_neg c2]
