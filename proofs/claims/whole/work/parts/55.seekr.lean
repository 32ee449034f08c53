/-! seek: the reference -/
theorem ct_findWays {q : am_Q} {M : am_M} (hJ : J M) (hR : RD M) {p : Nat} (hp : p < 5)
    (h : ∀ (F w : Nat → Int) (ok : Int), (ok = 0 ∨ ok = 1) → (ok = 1 ↔ (0 < lkN M ∧ okS M (M 57 p))) → (ok = 1 → ∀ d, d < lkN M → w (25 + d) = nr (xD M) (M 57 p) (lkP M d) ∧ ∀ a, a < lkN M → w (5 * a + d) = rF (nr (xD M) (lkP M a) (lkP M d))) → q (aI ok) (am_ob (am_ob M 59 F) 65 w)) : S12_findWays [aR 44, aI (p : Int)] M q := by
  have hL := hJ.2.2.2.2.2.1
  have hP := hJ.2.2.2.2.1 p hp
  have hn := lkN_le hL
  have hd := hdx M
  have epp : ((p : Int)).toNat = p := rfl
  have main : ∀ (c b : Nat) (F w : Nat → Int) (ok : Int), b + c = lkN M → (ok = 0 ∨ ok = 1) → (ok = 0 → ¬ (0 < lkN M ∧ okS M (M 57 p))) → (ok = 1 → 0 < lkN M ∧ isP (xD M) (M 57 p) ∧ ∀ d, d < b → ¬ nr (xD M) (M 57 p) (lkP M d) = -1 ∧ w (25 + d) = nr (xD M) (M 57 p) (lkP M d) ∧ ∀ a, a < lkN M → w (5 * a + d) = rF (nr (xD M) (lkP M a) (lkP M d))) → am_R K12_findWays q 28 [aR 44, aI (p : Int), aI ok, aI (b : Int), aJ] [] (am_ob (am_ob M 59 F) 65 w) := by
    intro c
    induction c with
    | zero =>
      intro b F w ok hb hok h0 h1
      have e : b = lkN M := by omega
      refine g12_findWays_28 ?_
      rw [ob_ne (by decide : (44 : Nat) ≠ 65), ob_ne (by decide : (44 : Nat) ≠ 59), hn.2.1]
      refine ⟨fun _ => ⟨hok, h F w ok hok ⟨fun e1 => ⟨(h1 e1).1, fun d hd' => ((h1 e1).2.2 d (by omega)).1⟩, fun hx => ?_⟩ (fun e1 d hd' => ((h1 e1).2.2 d (by omega)).2)⟩, fun hc => absurd hc (by omega)⟩
      rcases hok with o | o
      · exact absurd hx (h0 o)
      · exact o
    | succ c ih =>
      intro b F w ok hb hok h0 h1
      have hbk := lk_f hL (show b < lkN M by omega)
      have eb : (2 * (b : Int)).toNat = 2 * b := by omega
      have e64 : M 64 (2 * b) = lkP M b := rfl
      refine g12_findWays_28 ?_
      rw [ob_ne (by decide : (44 : Nat) ≠ 65), ob_ne (by decide : (44 : Nat) ≠ 59), hn.2.1, ob_ne (by decide : (64 : Nat) ≠ 65), ob_ne (by decide : (64 : Nat) ≠ 59), ob_ne (by decide : (51 : Nat) ≠ 65), ob_ne (by decide : (51 : Nat) ≠ 59), eb, e64]
      refine ⟨fun hc => absurd hc (by omega), fun _ => ⟨fun e0 => ⟨hok, h F w ok hok ⟨fun e1 => by omega, fun hx => absurd hx (h0 e0)⟩ (fun e1 => by omega)⟩, fun e0 => ⟨by omega, by omega, fun x3 hx3 => ⟨fun hpl => ?_, fun hpl => ⟨by omega, ?_⟩⟩⟩⟩⟩
      · have o1 : ok = 1 := by omega
        have hk := h1 o1
        have hPb := (rpl hR).mp hpl
        refine ct_findNear (d := xD M) (by rw [ob_ne (by decide), ob_ne (by decide)]; exact hR.1) hd hPb (fun F2 hF2 => ⟨by omega, by omega, ?_⟩)
        have ebase : am_ob (am_ob (am_ob M 59 F) 65 w) 59 F2 = am_ob (am_ob M 59 F2) 65 w := by rw [ob_comm (by decide), ob_ob]
        rw [ebase, ob_ne (by decide : (57 : Nat) ≠ 65), ob_ne (by decide : (57 : Nat) ≠ 59), epp, ob_ne (by decide : (59 : Nat) ≠ 65), ob_eq]
        refine ⟨⟨hP.2.1, hP.2.2⟩, fun x9 hx9 => ⟨by omega, fun x11 hx11 => ?_⟩⟩
        rw [hF2 _ (by omega), show (((M 57 p).toNat : Nat) : Int) = M 57 p by omega, nr_sym hd] at hx9
        have nrg := nr_rng hd (M 57 p) (lkP M b)
        rw [up_ob_eq, show (25 + (b : Int)).toNat = 25 + b by omega]
        -- the inner loop
        have o11 : x11 = 0 ∨ x11 = 1 := by rw [hx11]; split <;> omega
        have inner : ∀ (e a : Nat) (w2 : Nat → Int), a + e = lkN M → (∀ d, d < b → w2 (25 + d) = nr (xD M) (M 57 p) (lkP M d) ∧ ∀ a', a' < lkN M → w2 (5 * a' + d) = rF (nr (xD M) (lkP M a') (lkP M d))) → w2 (25 + b) = x9 → (∀ a', a' < a → w2 (5 * a' + b) = rF (nr (xD M) (lkP M a') (lkP M b))) → am_R K12_findWays q 113 [aR 44, aI (p : Int), aI x11, aI (b : Int), aI (a : Int)] [] (am_ob (am_ob M 59 F2) 65 w2) := by
          have fin0 : ∀ w2 : Nat → Int, x11 = 0 → am_R K12_findWays q 28 [aR 44, aI (p : Int), aI x11, aI ((b : Int) + 1), aJ] [] (am_ob (am_ob M 59 F2) 65 w2) := by
            intro w2 e0
            refine ih (b + 1) F2 w2 x11 (by omega) o11 (fun _ hx => ?_) (fun e1 => by omega)
            have hx2 := hx.2 b (by omega)
            rw [e0] at hx11
            by_cases cc : ¬ (1000000 ≤ x9)
            · rw [if_pos cc] at hx11; omega
            · rw [hx9] at cc
              unfold rF at cc
              rw [if_neg hx2] at cc
              omega
          intro e
          induction e with
          | zero =>
            intro a w2 ha hw1 hw2 hw3
            refine g12_findWays_113 ?_
            rw [ob_ne (by decide : (44 : Nat) ≠ 65), ob_ne (by decide : (44 : Nat) ≠ 59), hn.2.1]
            refine ⟨fun _ => ⟨by omega, ?_⟩, fun hc => absurd hc (by omega)⟩
            by_cases e0 : x11 = 0
            · exact fin0 w2 e0
            · have e1 : x11 = 1 := by omega
              have hreach : ¬ nr (xD M) (M 57 p) (lkP M b) = -1 := by
                intro hneg
                rw [e1] at hx11
                by_cases cc : ¬ (1000000 ≤ x9)
                · rw [hx9] at cc; unfold rF at cc; rw [if_pos hneg] at cc; omega
                · rw [if_neg cc] at hx11; omega
              refine ih (b + 1) F2 w2 x11 (by omega) o11 (fun hz => absurd hz e0) (fun _ => ⟨hk.1, hk.2.1, fun d hd' => ?_⟩)
              by_cases ed : d = b
              · subst ed
                refine ⟨hreach, ?_, fun a' ha' => hw3 a' (by omega)⟩
                rw [hw2, hx9]; unfold rF; rw [if_neg hreach]
              · exact ⟨(hk.2.2 d (by omega)).1, hw1 d (by omega)⟩
          | succ e ihe =>
            intro a w2 ha hw1 hw2 hw3
            have hak := lk_f hL (show a < lkN M by omega)
            have e2a : (2 * (a : Int)).toNat = 2 * a := by omega
            have e64a : M 64 (2 * a) = lkP M a := rfl
            refine g12_findWays_113 ?_
            rw [ob_ne (by decide : (44 : Nat) ≠ 65), ob_ne (by decide : (44 : Nat) ≠ 59), hn.2.1, ob_ne (by decide : (64 : Nat) ≠ 65), ob_ne (by decide : (64 : Nat) ≠ 59), ob_ne (by decide : (59 : Nat) ≠ 65), ob_eq, e2a, e64a]
            refine ⟨fun hc => absurd hc (by omega), fun _ => ⟨fun e0 => ⟨by omega, fin0 w2 e0⟩, fun e0 => ⟨by omega, by omega, by omega, by omega, fun _ => ⟨hak.2.2.1, hak.2.2.2.1⟩, fun x4 hx4 => ⟨by omega, by omega, ?_⟩⟩⟩⟩
            rw [if_pos (by omega), hF2 _ (by omega), show (((lkP M a).toNat : Nat) : Int) = lkP M a by omega, nr_sym hd] at hx4
            rw [up_ob_eq, show (5 * (a : Int) + (b : Int)).toNat = 5 * a + b by omega]
            refine ihe (a + 1) _ (by omega) (fun d hd' => ⟨?_, fun a' ha' => ?_⟩) ?_ (fun a' ha' => ?_)
            · rw [set_ne (by omega)]; exact (hw1 d hd').1
            · rw [set_ne (by omega)]; exact (hw1 d hd').2 a' ha'
            · rw [set_ne (by omega)]; exact hw2
            · by_cases ea : a' = a
              · subst ea; rw [set_eq]; exact hx4
              · rw [set_ne (by omega)]; exact hw3 a' (by omega)
        refine inner (lkN M) 0 _ (by omega) (fun d hd' => ⟨?_, fun a' ha' => ?_⟩) set_eq (fun a' ha' => by omega)
        · rw [set_ne (by omega)]; exact (hk.2.2 d hd').2.1
        · rw [set_ne (by omega)]; exact (hk.2.2 d hd').2.2 a' ha'
      · rw [if_neg hpl] at hx3
        refine ih (b + 1) F w x3 (by omega) (Or.inl hx3) (fun _ hx => ?_) (fun e1 => by omega)
        have := (nr_pl (hx.2 b (by omega))).2
        exact hpl ((rpl hR).mpr this)
  refine e12_findWays ⟨fun _ => by omega, fun x3 hx3 => ?_⟩
  rw [epp, hn.2.1] at hx3
  have e0 : am_ob (am_ob M 59 (M 59)) 65 (M 65) = M := by rw [ob_id, ob_id]
  have := main (lkN M) 0 (M 59) (M 65) x3 (by omega) (by rw [hx3]; split <;> omega) (fun hz hx => ?_) (fun ho => ?_)
  · rw [e0] at this; exact this
  · by_cases c : ¬ ((lkN M : Int) ≤ 0) ∧ ((¬ (M 57 p < 0) ∧ ¬ (63 < M 57 p)) ∧ ¬ (M 51 (M 57 p).toNat = 99))
    · rw [if_pos c] at hx3; omega
    · have := (nr_pl (hx.2 0 (by omega))).1
      exact c ⟨by omega, (rpl hR).mpr this⟩
  · by_cases c : ¬ ((lkN M : Int) ≤ 0) ∧ ((¬ (M 57 p < 0) ∧ ¬ (63 < M 57 p)) ∧ ¬ (M 51 (M 57 p).toNat = 99))
    · exact ⟨by omega, (rpl hR).mp c.2, fun d hd' => by omega⟩
    · rw [if_neg c] at hx3; omega
theorem ct_weights {q : am_Q} {M : am_M} (hL : JL M) (h : q (aI (sm (lkW M) (lkN M))) M) : S12_weights [aR 44] M q := by
  have hn := lkN_le hL
  have hr : ∀ k, k ≤ lkN M → 0 ≤ sm (lkW M) k ∧ sm (lkW M) k ≤ 9 * k := by
    intro k
    induction k with
    | zero => intro _; unfold sm; omega
    | succ k ih =>
      intro hk
      have h1 := ih (by omega)
      have h2 := (lk_f hL (show k < lkN M by omega)).2.2.2.2
      unfold sm; omega
  have loop : ∀ (a k : Nat), k + a = lkN M → am_R K12_weights q 4 [aR 44, aI (sm (lkW M) k), aI (k : Int)] [] M := by
    intro a
    induction a with
    | zero =>
      intro k hk
      have e : k = lkN M := by omega
      rw [← e] at h
      refine g12_weights_4 ?_
      rw [hn.2.1]
      exact ⟨fun _ => h, fun hc => absurd hc (by omega)⟩
    | succ a ih =>
      intro k hk
      have r1 := hr k (by omega)
      have r2 := hr (k + 1) (by omega)
      have es : sm (lkW M) (k + 1) = sm (lkW M) k + lkW M k := rfl
      have e64 : M 64 (2 * (k : Int) + 1).toNat = lkW M k := by
        rw [show (2 * (k : Int) + 1).toNat = 2 * k + 1 by omega]; rfl
      refine g12_weights_4 ?_
      rw [hn.2.1, e64, ← es]
      refine ⟨fun hc => absurd hc (by omega), fun _ => ⟨by omega, by omega, by omega, by omega, fun x2 hx2 => ⟨by omega, ?_⟩⟩⟩
      rw [hx2]; exact ih (k + 1) (by omega)
  exact e12_weights (loop (lkN M) 0 (by omega))
theorem bitrm_fin : ∀ s : Fin 32, ∀ d k : Fin 5, ¬ am_and (am_shr (s.val : Int) (d.val : Int)) 1 = 0 → am_and (am_shr (am_and (s.val : Int) (am_xor (am_shl 1 (d.val : Int)) (-1))) (k.val : Int)) 1 = if k.val = d.val then 0 else am_and (am_shr (s.val : Int) (k.val : Int)) 1 := by decide +kernel
theorem wS_rm {w : Nat → Int} {s d n : Nat} (hs : s < 32) (hd : d < 5) (hb : hasB s d) : ∀ k, k ≤ 5 → wS w (rm s d) k = wS w s k - if d < k then w d else 0 := by
  intro k
  induction k with
  | zero => intro _; rw [if_neg (by omega)]; rfl
  | succ k ih =>
    intro hk
    rw [wS_s, wS_s, ih (by omega), (rm_f hs hd).1]
    have e := bitrm_fin ⟨s, hs⟩ ⟨d, hd⟩ ⟨k, by omega⟩ hb
    have e' : am_and (am_shr (am_and (s : Int) (am_xor (am_shl 1 (d : Int)) (-1))) (k : Int)) 1 = if k = d then 0 else am_and (am_shr (s : Int) (k : Int)) 1 := e
    rw [e']
    by_cases c : k = d
    · subst c
      have h1 : am_and (am_shr (s : Int) (k : Int)) 1 = 1 := by
        rcases bitk hs hd with h | h
        · exact absurd h hb
        · exact h
      rw [if_pos rfl, if_neg (by omega), if_pos (by omega), h1]
      omega
    · rw [if_neg c]
      by_cases c2 : d < k
      · rw [if_pos c2, if_pos (by omega)]; omega
      · rw [if_neg c2, if_neg (by omega)]; omega
def lgW (M : am_M) : Nat → Nat → Int := fun f d => M 65 (5 * f + d)
theorem ct_findBest {q : am_Q} {M : am_M} (hL : JL M) {s m : Nat} (hs : s < 32) (hm : cb (s : Int) = m) (hP : ∀ d, d < 5 → hasB s d → d < lkN M) (hw : ∀ f d, (f = 5 ∨ f < lkN M) → d < lkN M → 0 ≤ M 65 (5 * f + d) ∧ M 65 (5 * f + d) ≤ 63) {v : Int} {c : Nat} (hB : isB (lgW M) (fun t => wS (lkW M) t (lkN M)) m 5 s v c)
    (h : ∀ r : Nat → Int, q (aI v) (am_ob (am_up M 44 32 (c : Int)) 61 r)) : S12_findBest [aR 44, aI (s : Int)] M q := by
  have hn := lkN_le hL
  have hcr := cb_rng (s : Int)
  have hm5 : m ≤ 5 := by omega
  have p5b : ∀ k, k ≤ 5 → 5 ^ k ≤ 3125 := by
    intro k hk
    have : k = 0 ∨ k = 1 ∨ k = 2 ∨ k = 3 ∨ k = 4 ∨ k = 5 := by omega
    rcases this with e | e | e | e | e | e <;> subst e <;> decide
  have hpm := p5b m hm5
  have hwr : ∀ k, k < lkN M → 1 ≤ lkW M k ∧ lkW M k ≤ 9 := fun k hk => (lk_f hL hk).2.2.2.2
  -- what a valid row costs is not below 0
  have cpos : ∀ m f t k, (f = 5 ∨ f < lkN M) → t < 32 → k < 5 ^ m → vl m t k → (∀ d, d < 5 → hasB t d → d < lkN M) → 0 ≤ cst (lgW M) (fun t => wS (lkW M) t (lkN M)) m f t k := by
    intro m
    induction m with
    | zero => intro f t k _ _ _ _ _; exact Int.le_refl _
    | succ m ih =>
      intro f t k hf ht hk hv hPt
      have hd := dg_lt hk
      have hPd := hPt _ hd hv.1
      rw [cst_s]
      have h1 := ih _ _ _ (Or.inr hPd) (rm_f ht hd).2.1 dg_mod hv.2 (fun e he hh => hPt e he (rm_sub ht hd he hh))
      have h2 := hw f _ hf hPd
      have h3 := (wS_rng ht hn.1 hwr (lkN M) (Nat.le_refl _)).1
      have h4 : 0 ≤ lgW M f (k / 5 ^ m) * wS (lkW M) t (lkN M) := Int.mul_nonneg h2.1 h3
      omega
  have cp : ∀ k, k < 5 ^ m → vl m s k → 0 ≤ cst (lgW M) (fun t => wS (lkW M) t (lkN M)) m 5 s k := fun k hk hv => cpos m 5 s k (Or.inl rfl) hs hk hv hP
  have scan : ∀ (a K : Nat) (v4 : Int) (x : Int) (r : Nat → Int), K + a = 5 ^ m → ((v4 = -1 ∧ ∀ k, k < K → ¬ vl m s k) ∨ (∃ c0 : Nat, c0 < K ∧ vl m s c0 ∧ v4 = cst (lgW M) (fun t => wS (lkW M) t (lkN M)) m 5 s c0 ∧ (∀ k, k < K → vl m s k → v4 ≤ cst (lgW M) (fun t => wS (lkW M) t (lkN M)) m 5 s k) ∧ (∀ k, k < c0 → vl m s k → v4 < cst (lgW M) (fun t => wS (lkW M) t (lkN M)) m 5 s k) ∧ x = (c0 : Int))) → am_R K12_findBest q 32 [aR 44, aI (s : Int), aI (m : Int), aI ((5 ^ m : Nat) : Int), aI v4, aI (K : Int), aJ, aJ, aJ, aJ, aJ] [] (am_ob (am_up M 44 32 x) 61 r) := by
    intro a
    induction a with
    | zero =>
      intro K v4 x r hK hv
      refine g12_findBest_32 ⟨fun _ => ?_, fun hc => absurd hc (by omega)⟩
      rcases hv with ⟨e1, e2⟩ | ⟨c0, e1, e2, e3, e4, e5, e6⟩
      · exact absurd hB.2.1 (e2 c (by have := hB.1; omega))
      · have hB2 : isB (lgW M) (fun t => wS (lkW M) t (lkN M)) m 5 s v4 c0 := ⟨by omega, e2, e3.symm, fun k hk hvk => e4 k (by omega) hvk, e5⟩
        obtain ⟨u1, u2⟩ := isB_un hB hB2
        rw [e6, ← u1, ← u2]
        exact h r
    | succ a ih =>
      intro K v4 x r hK hv
      have hKlt : K < 5 ^ m := by omega
      refine g12_findBest_32 ⟨fun hc => absurd hc (by omega), fun _ => ⟨by omega, fun x2 hx2 => ?_⟩⟩
      have dec : ∀ (b j0 : Nat) (r : Nat → Int), j0 + b = m → (∀ j, j < j0 → r (m - 1 - j) = ((K / 5 ^ j % 5 : Nat) : Int)) → am_R K12_findBest q 50 [aR 44, aI (s : Int), aI (m : Int), aI ((5 ^ m : Nat) : Int), aI v4, aI (K : Int), aI ((K / 5 ^ j0 : Nat) : Int), aI (orc j0 (K % 5 ^ j0)), aI ((m : Int) - 1 - (j0 : Int)), aJ, aJ] [] (am_ob (am_up M 44 32 x) 61 r) := by
        intro b
        induction b with
        | zero =>
          intro j0 r hj0 hr
          have em : j0 = m := by omega
          subst em
          have eK : K % 5 ^ j0 = K := Nat.mod_eq_of_lt hKlt
          rw [eK]
          have hov := orc_vl j0 s K hs hKlt hm
          refine g12_findBest_50 ⟨fun _ => ⟨fun hh => ?_, fun hh => ⟨by omega, ?_⟩⟩, fun hc => absurd hc (by omega)⟩
          · have hvK := hov.mp hh
            have hpos := cp K hKlt hvK
            -- forward
            have fwd : ∀ (b k f t : Nat) (v8 v9 : Int), k + b = j0 → (if k = 0 then f = 5 else f < lkN M ∧ r (k - 1) = (f : Int)) → t < 32 → vl b t (K % 5 ^ b) → (∀ d, d < 5 → hasB t d → d < lkN M) → 0 ≤ v9 → v9 ≤ 63 * k → 0 ≤ v8 → v8 ≤ 2835 * k → v8 + v9 * wS (lkW M) t (lkN M) + cst (lgW M) (fun t => wS (lkW M) t (lkN M)) b f t (K % 5 ^ b) = cst (lgW M) (fun t => wS (lkW M) t (lkN M)) j0 5 s K → am_R K12_findBest q 107 [aR 44, aI (s : Int), aI (j0 : Int), aI ((5 ^ j0 : Nat) : Int), aI v4, aI (K : Int), aJ, aJ, aI v8, aI v9, aI (k : Int)] [] (am_ob (am_up M 44 32 x) 61 r) := by
              intro b
              induction b with
              | zero =>
                intro k f t v8 v9 hk hf ht hvt hPt h9a h9b h8a h8b he
                have et : t = 0 := hvt
                subst et
                have hz : ∀ i, wS (lkW M) 0 i = 0 ∨ 5 ≤ i := by
                  intro i
                  induction i with
                  | zero => left; rfl
                  | succ i ihi =>
                    by_cases ci : 5 ≤ i + 1
                    · right; exact ci
                    · left
                      have hz2 : am_and (am_shr ((0 : Nat) : Int) (i : Int)) 1 = 0 := by
                        have := zero_b (d := i) (by omega)
                        unfold hasB at this
                        exact Classical.not_not.mp this
                      rw [wS_s, hz2]
                      rcases ihi with e | e
                      · rw [e]; omega
                      · omega
                have hz5 : wS (lkW M) 0 (lkN M) = 0 := by
                  rcases hz (lkN M) with e | e
                  · exact e
                  · have e5 : lkN M = 5 := by omega
                    rw [e5, wS_s]
                    have hz2 : am_and (am_shr ((0 : Nat) : Int) ((4 : Nat) : Int)) 1 = 0 := by decide +kernel
                    rw [hz2]
                    rcases hz 4 with e' | e'
                    · rw [e']; omega
                    · omega
                have ec : cst (lgW M) (fun t => wS (lkW M) t (lkN M)) 0 f 0 (K % 5 ^ 0) = 0 := rfl
                rw [hz5, Int.mul_zero, ec] at he
                have e8 : v8 = cst (lgW M) (fun t => wS (lkW M) t (lkN M)) j0 5 s K := by omega
                have better : (v4 = -1 ∨ v8 < v4) → am_R K12_findBest q 32 [aR 44, aI (s : Int), aI (j0 : Int), aI ((5 ^ j0 : Nat) : Int), aI v8, aI ((K : Int) + 1), aJ, aJ, aJ, aJ, aJ] [] (am_up (am_ob (am_up M 44 32 x) 61 r) 44 32 (K : Int)) := by
                  intro hlt
                  have eu : am_up (am_ob (am_up M 44 32 x) 61 r) 44 32 (K : Int) = am_ob (am_up M 44 32 (K : Int)) 61 r := by
                    rw [up_ob_ne (by decide)]
                    congr 1
                    rw [up_as, up_as, up_as, ob_eq, ob_ob]
                    congr 1
                    funext i
                    unfold am_set
                    by_cases ci : i = 32
                    · rw [if_pos ci, if_pos ci]
                    · rw [if_neg ci, if_neg ci, if_neg ci]
                  rw [eu]
                  refine ih (K + 1) v8 (K : Int) r (by omega) (Or.inr ⟨K, by omega, hvK, e8, fun k2 hk2 hvk => ?_, fun k2 hk2 hvk => ?_, rfl⟩)
                  · by_cases ek : k2 = K
                    · rw [ek]; omega
                    · rcases hv with ⟨e1, e2⟩ | ⟨c0, e1, e2, e3, e4, e5, e6⟩
                      · exact absurd hvk (e2 k2 (by omega))
                      · have := e4 k2 (by omega) hvk
                        have h0 := cp c0 (by omega) e2
                        omega
                  · rcases hv with ⟨e1, e2⟩ | ⟨c0, e1, e2, e3, e4, e5, e6⟩
                    · exact absurd hvk (e2 k2 (by omega))
                    · have := e4 k2 (by omega) hvk
                      have h0 := cp c0 (by omega) e2
                      omega
                refine g12_findBest_107 ⟨fun _ => ⟨fun e => ⟨by omega, better (Or.inl e)⟩, fun e => ⟨fun hle => ⟨by omega, ?_⟩, fun hgt => ⟨by omega, better (Or.inr (by omega))⟩⟩⟩, fun hc => absurd hc (by omega)⟩
                rcases hv with ⟨e1, e2⟩ | ⟨c0, e1, e2, e3, e4, e5, e6⟩
                · exact absurd e1 e
                · refine ih (K + 1) v4 x r (by omega) (Or.inr ⟨c0, by omega, e2, e3, fun k2 hk2 hvk => ?_, e5, e6⟩)
                  by_cases ek : k2 = K
                  · rw [ek]; omega
                  · exact e4 k2 (by omega) hvk
              | succ b ihb =>
                intro k f t v8 v9 hk hf ht hvt hPt h9a h9b h8a h8b he
                have hdl : K % 5 ^ (b + 1) / 5 ^ b < 5 := dg_lt dg_mod
                have hbd := hvt.1
                have hv2 := hvt.2
                have hPd := hPt _ hdl hbd
                have hrk : r k = ((K % 5 ^ (b + 1) / 5 ^ b : Nat) : Int) := by
                  have := hr b (by omega)
                  rw [show j0 - 1 - b = k by omega] at this
                  rw [this, dg_a]
                rw [dg_b] at hv2
                rw [cst_s, dg_b] at he
                have hWrm : wS (lkW M) (rm t (K % 5 ^ (b + 1) / 5 ^ b)) (lkN M) = wS (lkW M) t (lkN M) - lkW M (K % 5 ^ (b + 1) / 5 ^ b) := by
                  rw [wS_rm (n := 0) ht hdl hbd (lkN M) hn.1, if_pos hPd]
                have hwd := hwr _ hPd
                generalize K % 5 ^ (b + 1) / 5 ^ b = d at *
                have hf5 : f = 5 ∨ f < lkN M := by
                  by_cases k0 : k = 0
                  · rw [if_pos k0] at hf; exact Or.inl hf
                  · rw [if_neg k0] at hf; exact Or.inr hf.1
                have hwv := hw f d hf5 hPd
                have ek : ((k : Int)).toNat = k := rfl
                have e64 : M 64 (2 * (d : Int) + 1).toNat = lkW M d := by
                  rw [show (2 * (d : Int) + 1).toNat = 2 * d + 1 by omega]; rfl
                refine g12_findBest_107 ?_
                rw [ob_eq, ek, hrk, ob_ne (by decide : (65 : Nat) ≠ 61), up_ne (by decide : (65 : Nat) ≠ 44), ob_ne (by decide : (64 : Nat) ≠ 61), up_ne (by decide : (64 : Nat) ≠ 44), e64]
                refine ⟨fun hc => absurd hc (by omega), fun _ => ⟨fun hk0 => ⟨by omega, by omega⟩, fun x5 hx5 => ?_⟩⟩
                have ex5 : x5 = (f : Int) := by
                  rw [hx5]
                  by_cases k0 : k = 0
                  · rw [if_pos (by omega)]
                    rw [if_pos k0] at hf
                    rw [hf]; rfl
                  · rw [if_neg (by omega)]
                    rw [if_neg k0] at hf
                    rw [show ((k : Int) - 1).toNat = k - 1 by omega]
                    exact hf.2
                have hfn : f ≤ 5 := by omega
                rw [ex5, show (5 * (f : Int) + (d : Int)).toNat = 5 * f + d by omega]
                refine ⟨by omega, by omega, by omega, by omega, by omega, fun x6 hx6 => ?_⟩
                have hx6b : 0 ≤ x6 ∧ x6 ≤ 63 * (k + 1) := by omega
                have hx6c : x6 ≤ 315 := by omega
                have hpr : 0 ≤ x6 * lkW M d ∧ x6 * lkW M d ≤ 315 * 9 := ⟨Int.mul_nonneg hx6b.1 (by omega), Int.mul_le_mul hx6c hwd.2 (by omega) (by decide)⟩
                have ek1 : ((k + 1 : Nat) : Int) = (k : Int) + 1 := rfl
                refine ⟨by omega, by omega, by omega, by omega, by omega, fun x7 hx7 => ⟨by omega, ?_⟩⟩
                refine ihb (k + 1) d (rm t d) x7 x6 (by omega) ?_ (rm_f ht hdl).2.1 hv2 (fun e he' hh => hPt e he' (rm_sub ht hdl he' hh)) hx6b.1 (by omega) (by omega) (by omega) ?_
                · rw [if_neg (by omega)]
                  exact ⟨hPd, by rw [show k + 1 - 1 = k by omega]; exact hrk⟩
                · rw [hWrm, hx7, ← he]
                  have elg : lgW M f d = M 65 (5 * f + d) := rfl
                  rw [elg]
                  have e1 : x6 * (wS (lkW M) t (lkN M) - lkW M d) = x6 * wS (lkW M) t (lkN M) - x6 * lkW M d := Int.mul_sub _ _ _
                  have e2 : x6 * wS (lkW M) t (lkN M) = v9 * wS (lkW M) t (lkN M) + M 65 (5 * f + d) * wS (lkW M) t (lkN M) := by rw [hx6, Int.add_mul]
                  omega
            have hvK' : vl j0 s (K % 5 ^ j0) := by rw [eK]; exact hvK
            refine fwd j0 0 5 s 0 0 (by omega) (by rw [if_pos rfl]) hs hvK' hP (by omega) (by omega) (by omega) (by omega) ?_
            rw [eK, Int.zero_mul]; omega
          · have hnv : ¬ vl j0 s K := fun hx => hh (hov.mpr hx)
            refine ih (K + 1) v4 x r (by omega) ?_
            rcases hv with ⟨e1, e2⟩ | ⟨c0, e1, e2, e3, e4, e5, e6⟩
            · left
              refine ⟨e1, fun k hk hvk => ?_⟩
              by_cases ek : k = K
              · rw [ek] at hvk; exact hnv hvk
              · exact e2 k (by omega) hvk
            · right
              refine ⟨c0, by omega, e2, e3, fun k hk hvk => ?_, e5, e6⟩
              by_cases ek : k = K
              · rw [ek] at hvk; exact absurd hvk hnv
              · exact e4 k (by omega) hvk
        | succ b ihb =>
          intro j0 r hj0 hr
          have ed : (((K / 5 ^ j0 : Nat) : Int) % 5) = ((K / 5 ^ j0 % 5 : Nat) : Int) := rfl
          have eq5 : (((K / 5 ^ j0 : Nat) : Int) / 5) = ((K / 5 ^ (j0 + 1) : Nat) : Int) := by
            rw [p5_s, ← Nat.div_div_eq_div_mul]; rfl
          have hx5 : K / 5 ^ j0 % 5 < 5 := Nat.mod_lt _ (by decide)
          refine g12_findBest_50 ⟨fun hc => absurd hc (by omega), fun _ => ⟨Int.natCast_nonneg _, fun x3 hx3 => ⟨by omega, fun x4 hx4 => ⟨by omega, fun x5 hx5' => ⟨by omega, ?_⟩⟩⟩⟩⟩
          rw [ed] at hx3
          rw [eq5] at hx4
          have e7 : x5 = orc (j0 + 1) (K % 5 ^ (j0 + 1)) := by rw [hx5', hx3, orc_next]
          rw [up_ob_eq, show ((m : Int) - 1 - (j0 : Int)).toNat = m - 1 - j0 by omega, hx4, e7, show (m : Int) - 1 - (j0 : Int) + (-1) = (m : Int) - 1 - ((j0 + 1 : Nat) : Int) by omega]
          refine ihb (j0 + 1) _ (by omega) (fun j hj => ?_)
          by_cases ej : j = j0
          · subst ej; rw [set_eq, hx3]
          · rw [set_ne (by omega)]; exact hr j (by omega)
      have e0 : ((K / 5 ^ 0 : Nat) : Int) = (K : Int) := by rw [Nat.pow_zero, Nat.div_one]
      have := dec m 0 r (by omega) (fun j hj => by omega)
      rw [e0, show (m : Int) - 1 - ((0 : Nat) : Int) = x2 by omega] at this
      exact this
  refine e12_findBest (ct_ones (by omega) ⟨_, rfl, ?_⟩)
  have pw : ∀ (a k : Nat), k + a = m → am_R K12_findBest q 10 [aR 44, aI (s : Int), aI (m : Int), aI ((5 ^ k : Nat) : Int), aI (k : Int), aJ, aJ, aJ, aJ, aJ, aJ] [] M := by
    intro a
    induction a with
    | zero =>
      intro k hk
      have ek : k = m := by omega
      subst ek
      refine g12_findBest_10 ⟨fun _ => ?_, fun hc => absurd hc (by omega)⟩
      have := scan (5 ^ k) 0 (-1) (M 44 32) (M 61) (by omega) (Or.inl ⟨rfl, fun k hk => by omega⟩)
      have e1 : am_ob (am_up M 44 32 (M 44 32)) 61 (M 61) = M := by
        have e2 : am_up M 44 32 (M 44 32) = M := by rw [up_as, set_id rfl, ob_id]
        rw [e2, ob_id]
      rw [e1] at this
      exact this
    | succ a ih =>
      intro k hk
      have pk := p5b k (by omega)
      have pk0 := p5_pos k
      refine g12_findBest_10 ⟨fun hc => absurd hc (by omega), fun _ => ⟨by omega, fun x2 hx2 => ⟨by omega, ?_⟩⟩⟩
      have e : x2 = ((5 ^ (k + 1) : Nat) : Int) := by rw [hx2, p5_s, Int.natCast_mul]; rfl
      rw [e]
      exact ih (k + 1) (by omega)
  rw [hm]
  exact pw m 0 (by omega)
