/-! torn, fairs -/
def lt1 (s : Int) : Int := w32 (w32 (1103515245 * s) + 12345)
def ltv (s : Int) : Int := am_ushr s 16 % 16
theorem ush_nn (x : Int) : 0 ≤ am_ushr x 16 := by
  unfold am_ushr w32
  have e : (2 : Int) ^ (16 : Int).toNat = 65536 := rfl
  rw [e]; omega
/-- how many bits -/
def cb (b : Int) : Int := b % 2 + b / 2 % 2 + b / 4 % 2 + b / 8 % 2 + b / 16 % 2
theorem bit_fin : ∀ b : Fin 16, ∀ j : Fin 4, (am_and (am_shr (b.val : Int) (j.val : Int)) 1 = 0 ∨ am_and (am_shr (b.val : Int) (j.val : Int)) 1 = 1) ∧ (am_and (am_shr (b.val : Int) (j.val : Int)) 1 = 0 → 0 ≤ am_or (b.val : Int) (am_shl 1 (j.val : Int)) ∧ am_or (b.val : Int) (am_shl 1 (j.val : Int)) < 16 ∧ cb (am_or (b.val : Int) (am_shl 1 (j.val : Int))) = cb (b.val : Int) + 1) := by decide +kernel
theorem bit_f {b : Int} {j : Nat} (hb : 0 ≤ b ∧ b < 16) (hj : j < 4) : (am_and (am_shr b (j : Int)) 1 = 0 ∨ am_and (am_shr b (j : Int)) 1 = 1) ∧ (am_and (am_shr b (j : Int)) 1 = 0 → 0 ≤ am_or b (am_shl 1 (j : Int)) ∧ am_or b (am_shl 1 (j : Int)) < 16 ∧ cb (am_or b (am_shl 1 (j : Int))) = cb b + 1) := by
  obtain ⟨n, hn⟩ : ∃ n : Nat, b = n := ⟨b.toNat, by omega⟩
  subst hn
  exact bit_fin ⟨n, by omega⟩ ⟨j, hj⟩
theorem ones_fin : ∀ b : Fin 32, b.val = 0 ∨ (0 ≤ am_and (b.val : Int) ((b.val : Int) - 1) ∧ am_and (b.val : Int) ((b.val : Int) - 1) < (b.val : Int) ∧ cb (am_and (b.val : Int) ((b.val : Int) - 1)) = cb (b.val : Int) - 1) := by decide +kernel
theorem ct_ones {q : am_Q} {M : am_M} {b : Int} (hb : 0 ≤ b ∧ b < 32) (h : q (aI (cb b)) M) : S12_ones [aI b] M q := by
  have loop : ∀ (m : Nat) (v1 v2 : Int), 0 ≤ v2 → v2 < 32 → v2 ≤ m → 0 ≤ v1 → v1 + cb v2 = cb b → am_R K12_ones q 4 [aJ, aI v1, aI v2] [] M := by
    intro m
    induction m with
    | zero =>
      intro v1 v2 h0 h32 hm h1 he
      have e : v2 = 0 := by omega
      have ec : cb v2 = 0 := by rw [e]; rfl
      refine g12_ones_4 ⟨fun _ => ?_, fun hc => absurd e hc⟩
      have : v1 = cb b := by omega
      rw [this]; exact h
    | succ m ih =>
      intro v1 v2 h0 h32 hm h1 he
      obtain ⟨n, hn⟩ : ∃ n : Nat, v2 = n := ⟨v2.toNat, by omega⟩
      have hcb : 0 ≤ cb b ∧ cb b ≤ 5 := by unfold cb; omega
      have hcv : 0 ≤ cb v2 ∧ cb v2 ≤ 5 := by unfold cb; omega
      refine g12_ones_4 ⟨fun e => ?_, fun e => ⟨by omega, by omega, fun x2 hx2 => ?_⟩⟩
      · have ec : cb v2 = 0 := by rw [e]; rfl
        have : v1 = cb b := by omega
        rw [this]; exact h
      · subst hn
        rcases ones_fin ⟨n, by omega⟩ with e0 | e1
        · exact absurd (congrArg (Nat.cast (R := Int)) e0) e
        · have e1' : 0 ≤ am_and (n : Int) ((n : Int) - 1) ∧ am_and (n : Int) ((n : Int) - 1) < (n : Int) ∧ cb (am_and (n : Int) ((n : Int) - 1)) = cb (n : Int) - 1 := e1
          rw [← hx2] at e1'
          exact ih (v1 + 1) x2 (by omega) (by omega) (by omega) (by omega) (by omega)
  exact e12_ones (loop 32 0 b hb.1 hb.2 (by omega) (by omega) (by omega))
/-- a joint tears: the state is seed, bits, first joint, its step, how many -/
def tK (k : Int) (j : Nat) (g : Nat → Int) : Nat → Int := if g 2 = -1 then am_set (am_set (am_set (am_set g 1 (am_or (g 1) (am_shl 1 (j : Int)))) 4 (g 4 + 1)) 2 (j : Int)) 3 k else am_set (am_set g 1 (am_or (g 1) (am_shl 1 (j : Int)))) 4 (g 4 + 1)
def tA (g : Nat → Int) : Nat → Int := am_set g 0 (lt1 (g 0))
def tJ (d gr k : Int) (j : Nat) (g : Nat → Int) : Nat → Int := if am_and (am_shr (g 1) (j : Int)) 1 = 0 then (if d ≤ ltv (lt1 (g 0)) then tA g else if ltv (lt1 (lt1 (g 0))) < gr then tA (tA g) else tK k j (tA (tA g))) else g
def tJs (D G : Nat → Int) (k : Nat) : Nat → (Nat → Int) → Nat → Int
  | 0, g => g
  | j + 1, g => tJ (D k) (G j) (k : Int) j (tJs D G k j g)
def tSt (D G : Nat → Int) (p : Nat) : Nat → (Nat → Int) → Nat → Int
  | 0, g => g
  | k + 1, g => tJs D G k p (tSt D G p k g)
def t0 (g : Nat → Int) : Nat → Int := am_set (am_set (am_set (am_set g 1 0) 2 (-1)) 3 (-1)) 4 0
def tFa (D G : Nat → Int) (p n : Nat) (g : Nat → Int) : Nat → Int := tSt D G p n (t0 g)
def tI (g : Nat → Int) : Prop := (0 ≤ g 1 ∧ g 1 < 16) ∧ g 4 = cb (g 1) ∧ -1 ≤ g 2 ∧ g 2 < 4
theorem tA0 (g : Nat → Int) : tA g 0 = lt1 (g 0) := set_eq
theorem tAn (g : Nat → Int) {i : Nat} (h : i ≠ 0) : tA g i = g i := set_ne h
theorem tI_A {g : Nat → Int} (h : tI g) : tI (tA g) := by
  unfold tI at *
  rw [tAn g (by decide), tAn g (by decide), tAn g (by decide)]; exact h
theorem tI_K {k : Int} {j : Nat} {g : Nat → Int} (hj : j < 4) (h : tI g) (hb : am_and (am_shr (g 1) (j : Int)) 1 = 0) : tI (tK k j g) := by
  have b := (bit_f h.1 hj).2 hb
  obtain ⟨h1, h2, h3⟩ := h
  unfold tK
  by_cases e : g 2 = -1
  · rw [if_pos e]
    unfold tI
    rw [set_ne (by decide), set_ne (by decide), set_ne (by decide), set_eq, set_ne (by decide), set_ne (by decide), set_eq, set_ne (by decide), set_eq, b.2.2, h2]
    exact ⟨⟨b.1, b.2.1⟩, rfl, by omega, by omega⟩
  · rw [if_neg e]
    unfold tI
    rw [set_ne (by decide), set_eq, set_eq, set_ne (by decide), set_ne (by decide), b.2.2, h2]
    exact ⟨⟨b.1, b.2.1⟩, rfl, h3⟩
theorem tI_J {d gr k : Int} {j : Nat} {g : Nat → Int} (hj : j < 4) (h : tI g) : tI (tJ d gr k j g) := by
  unfold tJ
  by_cases e : am_and (am_shr (g 1) (j : Int)) 1 = 0
  · rw [if_pos e]
    by_cases e2 : d ≤ ltv (lt1 (g 0))
    · rw [if_pos e2]; exact tI_A h
    · rw [if_neg e2]
      by_cases e3 : ltv (lt1 (lt1 (g 0))) < gr
      · rw [if_pos e3]; exact tI_A (tI_A h)
      · rw [if_neg e3]; exact tI_K hj (tI_A (tI_A h)) (by rw [tAn _ (by decide), tAn _ (by decide)]; exact e)
  · rw [if_neg e]; exact h
theorem tI_Js {D G : Nat → Int} {k : Nat} {g : Nat → Int} (h : tI g) : ∀ j, j ≤ 4 → tI (tJs D G k j g) := by
  intro j
  induction j with
  | zero => intro _; exact h
  | succ j ih => intro hj; exact tI_J (by omega) (ih (by omega))
theorem tI_St {D G : Nat → Int} {p : Nat} {g : Nat → Int} (hp : p ≤ 4) (h : tI g) : ∀ k, tI (tSt D G p k g) := by
  intro k
  induction k with
  | zero => exact h
  | succ k ih => exact tI_Js ih p hp
theorem tI_0 (g : Nat → Int) : tI (t0 g) := by
  unfold tI t0
  rw [set_ne (by decide), set_ne (by decide), set_ne (by decide), set_eq, set_eq, set_ne (by decide), set_ne (by decide), set_eq]
  decide
theorem tI_rng {g : Nat → Int} (h : tI g) : 0 ≤ g 4 ∧ g 4 ≤ 4 := by
  have := h.2.1
  have h1 := h.1
  unfold cb at this; omega
theorem ct_tears8 {q : am_Q} {M : am_M} {g : Nat → Int} {d gr : Int} (h1 : d ≤ ltv (lt1 (g 0)) → q (aI 0) (am_ob M 23 (tA g))) (h2 : ¬ d ≤ ltv (lt1 (g 0)) → ltv (lt1 (lt1 (g 0))) < gr → q (aI 0) (am_ob M 23 (tA (tA g)))) (h3 : ¬ d ≤ ltv (lt1 (g 0)) → ¬ ltv (lt1 (lt1 (g 0))) < gr → q (aI 1) (am_ob M 23 (tA (tA g)))) : S8_tears [aR 23, aI d, aI gr] (am_ob M 23 g) q := by
  refine e8_tears (e8_lotOfSixteen (fun x1 hx1 => ?_))
  rw [ob_eq] at hx1
  have hx1' : x1 = lt1 (g 0) := hx1
  rw [hx1', up_ob_eq]
  refine ⟨ush_nn _, _, rfl, fun h => h1 h, fun h => e8_lotOfSixteen (fun x2 hx2 => ?_)⟩
  rw [ob_eq, set_eq] at hx2
  have hx2' : x2 = lt1 (lt1 (g 0)) := hx2
  have e : am_set (am_set g 0 (lt1 (g 0))) 0 x2 = tA (tA g) := by rw [hx2']; unfold tA; rw [set_eq]
  rw [up_ob_eq, e]
  refine ⟨ush_nn _, _, rfl, fun x11 hx11 => ?_⟩
  have hx11' : x11 = (if ¬ (ltv (lt1 (lt1 (g 0))) < gr) then 1 else 0) := by rw [hx2'] at hx11; exact hx11
  clear hx11
  by_cases e3 : ltv (lt1 (lt1 (g 0))) < gr
  · rw [if_neg (fun hn => hn e3)] at hx11'
    rw [hx11']; exact h2 h e3
  · rw [if_pos e3] at hx11'
    rw [hx11']; exact h3 h e3
theorem ct_goStep {q : am_Q} {M : am_M} {g : Nat → Int} {D : Nat → Int} {k : Nat} (hJ : J M) (hg : tI g) (h : q aJ (am_ob M 23 (tJs D (jg M) k (xP M - 1) g))) : S8_goStep [aR 23, aI (k : Int), aI (D k), aR 15] (am_ob M 23 g) q := by
  have hO := hJ.1.1.2.2.1.2
  have hp := xP_le hJ.1.1.1
  have hj : f_3_joints (M 15) = ((xP M - 1 : Nat) : Int) := by
    unfold f_3_joints; rw [hO.1]; split <;> omega
  have ho : ob_3_joints (M 15) := by unfold ob_3_joints; rw [hO.1]; omega
  have loop : ∀ (m j : Nat), j + m = xP M - 1 → am_R K8_goStep q 3 [aR 23, aI (k : Int), aI (D k), aR 15, aI (j : Int)] [] (am_ob M 23 (tJs D (jg M) k j g)) := by
    intro m
    induction m with
    | zero =>
      intro j hjm
      have e : j = xP M - 1 := by omega
      refine g8_goStep_3 ?_
      rw [ob_ne (by decide), e]
      exact ⟨ho, fun _ => h, fun hc => absurd (Int.le_of_eq hj) hc⟩
    | succ m ih =>
      intro j hjm
      have gi : tI (tJs D (jg M) k j g) := tI_Js hg j (by omega)
      have nx : tJs D (jg M) k (j + 1) g = tJ (D k) (jg M j) (k : Int) j (tJs D (jg M) k j g) := rfl
      have go := ih (j + 1) (by omega)
      rw [nx] at go
      generalize tJs D (jg M) k j g = s at *
      have bf := bit_f gi.1 (j := j) (by omega)
      have h4 := tI_rng gi
      refine g8_goStep_3 ?_
      rw [ob_ne (by decide : (15 : Nat) ≠ 23), ob_ne (by decide : (16 : Nat) ≠ 23), ob_ne (by decide : (19 : Nat) ≠ 23), ob_eq, gripJ_11 hJ (by omega)]
      refine ⟨ho, fun hc => absurd hc (by omega), fun _ => ⟨by omega, fun hb => ⟨by unfold ob_3_gripOfJoint; omega, ?_⟩, fun hb => ⟨by omega, ?_⟩⟩⟩
      · unfold tJ at go
        rw [if_pos hb] at go
        refine ct_tears8 (fun c1 => ?_) (fun c1 c2 => ?_) (fun c1 c2 => ?_)
        · rw [if_pos c1] at go
          exact ⟨_, rfl, fun _ => ⟨by omega, go⟩, fun hc => absurd rfl hc⟩
        · rw [if_neg c1, if_pos c2] at go
          exact ⟨_, rfl, fun _ => ⟨by omega, go⟩, fun hc => absurd rfl hc⟩
        · rw [if_neg c1, if_neg c2] at go
          unfold tK at go
          rw [ob_eq]
          have a1 : tA (tA s) 1 = s 1 := by rw [tAn _ (by decide), tAn _ (by decide)]
          have a2 : tA (tA s) 2 = s 2 := by rw [tAn _ (by decide), tAn _ (by decide)]
          have a4 : tA (tA s) 4 = s 4 := by rw [tAn _ (by decide), tAn _ (by decide)]
          rw [a1, a2, a4] at go
          rw [a1, a2, a4]
          refine ⟨_, rfl, fun hc => absurd hc (by decide), fun _ x8 hx8 => ⟨by omega, fun x9 hx9 => ⟨fun c3 => ⟨by omega, ?_⟩, fun c3 => ⟨by omega, ?_⟩⟩⟩⟩
          · rw [if_pos c3] at go
            rw [up_ob_eq, up_ob_eq, up_ob_eq, up_ob_eq, hx8, hx9]; exact go
          · rw [if_neg c3] at go
            rw [up_ob_eq, up_ob_eq, hx8, hx9]; exact go
      · unfold tJ at go
        rw [if_neg hb] at go
        exact go
  exact e8_goStep (loop (xP M - 1) 0 (by omega))
theorem up_as {M : am_M} {o j : Nat} {x : Int} : am_up M o j x = am_ob M o (am_set (M o) j x) := rfl
theorem ct_goFair {q : am_Q} {M : am_M} {g : Nat → Int} (hJ : J M) (h : q aJ (am_ob M 23 (tFa (sd M) (jg M) (xP M - 1) (xN M) g))) : S11_goThroughFair [aR 0] (am_ob M 23 g) q := by
  have hC := hJ.1.1
  have hN := hC.2.2.2.2
  have hp := xP_le hC.1
  have hn := xN_le hC.1
  refine e11_goThroughFair (e8_startWhole ?_)
  rw [up_ob_eq, up_ob_eq, up_ob_eq, up_ob_eq]
  have loop : ∀ (m k : Nat), k + m = xN M → am_R K11_goThroughFair q 9 [aR 0, aI (k : Int)] [] (am_ob M 23 (tSt (sd M) (jg M) (xP M - 1) k (t0 g))) := by
    intro m
    induction m with
    | zero =>
      intro k hk
      refine g11_goThroughFair_9 ?_
      rw [ob_ne (by decide : (20 : Nat) ≠ 23), hN.1]
      have e : k = xN M := by omega
      exact ⟨fun _ => by rw [e]; exact h, fun hc => absurd hc (by omega)⟩
    | succ m ih =>
      intro k hk
      have go := ih (k + 1) (by omega)
      refine g11_goThroughFair_9 ?_
      rw [ob_ne (by decide : (20 : Nat) ≠ 23), ob_ne (by decide : (8 : Nat) ≠ 23), ob_ne (by decide : (22 : Nat) ≠ 23), hN.1, dstep hC (by omega)]
      refine ⟨fun hc => absurd hc (by omega), fun _ => ⟨by unfold ob_11_densityOfStep; omega, ct_goStep hJ (tI_St (by omega) (tI_0 g) k) ⟨by omega, go⟩⟩⟩
  exact loop (xN M) 0 (by omega)
/-- the reference's words for the same state -/
def tR (M : am_M) (g f : Nat → Int) : Prop := f 22 = g 0 ∧ f 23 = g 2 ∧ f 24 = g 3 ∧ ∀ i, i ≠ 22 → i ≠ 23 → i ≠ 24 → i ≠ 25 → f i = M 44 i
theorem ct_lot12 {q : am_Q} {M : am_M} {f : Nat → Int} (h : q (aI (ltv (lt1 (f 22)))) (am_ob M 44 (am_set f 22 (lt1 (f 22))))) : S12_lot [aR 44] (am_ob M 44 f) q := by
  refine e12_lot (fun x1 hx1 => ?_)
  rw [ob_eq] at hx1
  have hx1' : x1 = lt1 (f 22) := hx1
  rw [hx1', up_ob_eq]
  exact ⟨ush_nn _, h⟩
theorem tR_A {M : am_M} {g f : Nat → Int} (h : tR M g f) : tR M (tA g) (am_set f 22 (lt1 (f 22))) := by
  obtain ⟨h0, h1, h2, h3⟩ := h
  refine ⟨by rw [set_eq, tA0, h0], by rw [set_ne (by decide), tAn _ (by decide), h1], by rw [set_ne (by decide), tAn _ (by decide), h2], fun i a b c d => by rw [set_ne a]; exact h3 i a b c d⟩
theorem ct_tears12 {q : am_Q} {M : am_M} {g f : Nat → Int} (hR : RD M) (hG : JG M) (hB : XB M) (hf : tR M (t0 g) (am_set (am_set f 23 (-1)) 24 (-1)))
    (h : ∀ f' : Nat → Int, tR M (tFa (sd M) (jg M) (xP M - 1) (xN M) g) f' → f' 25 = tFa (sd M) (jg M) (xP M - 1) (xN M) g 4 → q aJ (am_ob M 44 f')) : S12_tears [aR 44] (am_ob M 44 f) q := by
  have hp := xP_le hB
  have hn := xN_le hB
  have loop2 : ∀ (k : Nat), k < xN M → (∀ (s f : Nat → Int), tI s → tR M s f → s = tSt (sd M) (jg M) (xP M - 1) (k + 1) (t0 g) → am_R K12_tears q 14 [aR 44, aI (s 1), aI ((k + 1 : Nat) : Int), aJ] [] (am_ob M 44 f)) → ∀ (m j : Nat) (f : Nat → Int), j + m = xP M - 1 → tR M (tJs (sd M) (jg M) k j (tSt (sd M) (jg M) (xP M - 1) k (t0 g))) f → am_R K12_tears q 24 [aR 44, aI (tJs (sd M) (jg M) k j (tSt (sd M) (jg M) (xP M - 1) k (t0 g)) 1), aI (k : Int), aI (j : Int)] [] (am_ob M 44 f) := by
    intro k hk next m
    induction m with
    | zero =>
      intro j f hj hf
      have hf9 : f 9 = xP M := by rw [hf.2.2.2 9 (by decide) (by decide) (by decide) (by decide)]; exact hR.2.1
      have e : j = xP M - 1 := by omega
      have gi : tI (tJs (sd M) (jg M) k j (tSt (sd M) (jg M) (xP M - 1) k (t0 g))) := tI_Js (tI_St (by omega) (tI_0 g) k) j (by omega)
      refine g12_tears_24 ?_
      rw [ob_eq, hf9]
      exact ⟨by omega, fun _ => ⟨by omega, next _ f gi hf (by rw [e]; rfl)⟩, fun hc => absurd hc (by omega)⟩
    | succ m ih =>
      intro j f hj hf
      have hf9 : f 9 = xP M := by rw [hf.2.2.2 9 (by decide) (by decide) (by decide) (by decide)]; exact hR.2.1
      have gi : tI (tJs (sd M) (jg M) k j (tSt (sd M) (jg M) (xP M - 1) k (t0 g))) := tI_Js (tI_St (by omega) (tI_0 g) k) j (by omega)
      have nx : tJs (sd M) (jg M) k (j + 1) (tSt (sd M) (jg M) (xP M - 1) k (t0 g)) = tJ (sd M k) (jg M j) (k : Int) j (tJs (sd M) (jg M) k j (tSt (sd M) (jg M) (xP M - 1) k (t0 g))) := rfl
      have go := fun f hf => ih (j + 1) f (by omega) hf
      rw [nx] at go
      generalize tJs (sd M) (jg M) k j (tSt (sd M) (jg M) (xP M - 1) k (t0 g)) = s at *
      have bf := bit_f gi.1 (j := j) (by omega)
      have hr := sd_rng (M := M) (i := k) hk
      have gj := gripJ_12 hR (i := j) (by omega) hp
      have e1 : ((k : Int) + 1).toNat = k + 1 := rfl
      have e51 : M 51 (xQ M (k + 1)).toNat = sd M k := by
        rw [hR.1 _ (by omega)]
        have : xD M (xQ M (k + 1)).toNat = sd M k := rfl
        unfold fm
        rw [this, if_neg (by omega)]
      have e58 := hR.2.2.2.2.2.2 (k + 1) (by omega)
      refine g12_tears_24 ?_
      rw [ob_eq, hf9]
      refine ⟨by omega, fun hc => absurd hc (by omega), fun _ => ⟨by unfold ob_12_isIn; omega, fun hb => ?_, fun hb => ct_lot12 ⟨_, rfl, ?_⟩⟩⟩
      · have : tJ (sd M k) (jg M j) (k : Int) j s = s := by unfold tJ; rw [if_neg (by omega)]
        rw [this] at go
        exact go f hf
      · have hb0 : am_and (am_shr (s 1) (j : Int)) 1 = 0 := by omega
        have hA := tR_A hf
        have hA2 := tR_A hA
        rw [hf.1] at hA hA2
        rw [hf.1, ob_ne (by decide : (58 : Nat) ≠ 44), ob_ne (by decide : (51 : Nat) ≠ 44), e1, e58, e51]
        refine ⟨by omega, by omega, by omega, fun c1 => ?_, fun c1 => ct_lot12 ⟨_, rfl, ?_⟩⟩
        · have : tJ (sd M k) (jg M j) (k : Int) j s = tA s := by unfold tJ; rw [if_pos hb0, if_pos c1]
          rw [this, tAn _ (by decide)] at go
          exact go _ hA
        · rw [set_eq] at hA2
          rw [set_eq, ob_ne (by decide : (55 : Nat) ≠ 44), ob_ne (by decide : (52 : Nat) ≠ 44), gj.1, ob_eq]
          refine ⟨gj.2, fun c2 => ?_, fun c2 => ⟨by omega, fun x13 hx13 x15 hx15 x17 hx17 => ?_⟩⟩
          · have : tJ (sd M k) (jg M j) (k : Int) j s = tA (tA s) := by unfold tJ; rw [if_pos hb0, if_neg c1, if_pos c2]
            rw [this, tAn _ (by decide), tAn _ (by decide)] at go
            exact go _ hA2
          · have : tJ (sd M k) (jg M j) (k : Int) j s = tK (k : Int) j (tA (tA s)) := by unfold tJ; rw [if_pos hb0, if_neg c1, if_neg c2]
            rw [this] at go
            rw [up_ob_eq, up_ob_eq]
            have a1 : tA (tA s) 1 = s 1 := by rw [tAn _ (by decide), tAn _ (by decide)]
            obtain ⟨r0, r1, r2, r3⟩ := hA2
            rw [r1] at hx15 hx17
            rw [r2] at hx15
            generalize tA (tA s) = u at *
            generalize am_set (am_set f 22 (lt1 (s 0))) 22 (lt1 (lt1 (s 0))) = w at *
            have t1 : tK (k : Int) j u 1 = x13 := by
              unfold tK; rw [hx13, a1]
              split
              · rw [set_ne (by decide), set_ne (by decide), set_ne (by decide), set_eq]
              · rw [set_ne (by decide), set_eq]
            have t0' : tK (k : Int) j u 0 = u 0 := by
              unfold tK
              split
              · rw [set_ne (by decide), set_ne (by decide), set_ne (by decide), set_ne (by decide)]
              · rw [set_ne (by decide), set_ne (by decide)]
            have t2 : tK (k : Int) j u 2 = x17 := by
              unfold tK
              by_cases c : u 2 = -1
              · rw [if_pos c] at hx17 ⊢; rw [set_ne (by decide), set_eq, hx17]
              · rw [if_neg c] at hx17 ⊢; rw [set_ne (by decide), set_ne (by decide), hx17]
            have t3 : tK (k : Int) j u 3 = x15 := by
              unfold tK
              by_cases c : u 2 = -1
              · rw [if_pos c] at hx15 ⊢; rw [set_eq, hx15]
              · rw [if_neg c] at hx15 ⊢; rw [set_ne (by decide), set_ne (by decide), hx15]
            rw [t1] at go
            refine go _ ⟨?_, ?_, ?_, fun i a b c d => ?_⟩
            · rw [set_ne (by decide), set_ne (by decide), t0', r0]
            · rw [set_eq, t2]
            · rw [set_ne (by decide), set_eq, t3]
            · rw [set_ne b, set_ne c, r3 i a b c d]
  have loop1 : ∀ (m k : Nat) (s f : Nat → Int), k + m = xN M → tI s → tR M s f → s = tSt (sd M) (jg M) (xP M - 1) k (t0 g) → am_R K12_tears q 14 [aR 44, aI (s 1), aI (k : Int), aJ] [] (am_ob M 44 f) := by
    intro m
    induction m with
    | zero =>
      intro k s f hk hi hf hs
      have hf17 : f 17 = xN M := by rw [hf.2.2.2 17 (by decide) (by decide) (by decide) (by decide)]; exact hR.2.2.2.2.2.1
      have e : k = xN M := by omega
      refine g12_tears_14 ?_
      rw [ob_eq, hf17]
      refine ⟨fun _ => ct_ones (by have := hi.1; omega) ⟨_, rfl, ?_⟩, fun hc => absurd hc (by omega)⟩
      rw [up_ob_eq]
      have es : s = tFa (sd M) (jg M) (xP M - 1) (xN M) g := by rw [hs, e]; rfl
      rw [← es] at h
      refine h _ ⟨?_, ?_, ?_, fun i a b c d => ?_⟩ ?_
      · rw [set_ne (by decide)]; exact hf.1
      · rw [set_ne (by decide)]; exact hf.2.1
      · rw [set_ne (by decide)]; exact hf.2.2.1
      · rw [set_ne d]; exact hf.2.2.2 i a b c d
      · rw [set_eq]; exact hi.2.1.symm
    | succ m ih =>
      intro k s f hk hi hf hs
      have hf17 : f 17 = xN M := by rw [hf.2.2.2 17 (by decide) (by decide) (by decide) (by decide)]; exact hR.2.2.2.2.2.1
      refine g12_tears_14 ?_
      rw [ob_eq, hf17]
      refine ⟨fun hc => absurd hc (by omega), fun _ => ?_⟩
      rw [hs] at hf ⊢
      exact loop2 k (by omega) (fun s f hi hf hs => ih (k + 1) s f (by omega) hi hf hs) (xP M - 1) 0 f (by omega) hf
  refine e12_tears ?_
  rw [up_ob_eq, up_ob_eq]
  have := loop1 (xN M) 0 (t0 g) _ (by omega) (tI_0 g) hf rfl
  have e0 : t0 g 1 = 0 := by unfold t0; rw [set_ne (by decide), set_ne (by decide), set_ne (by decide), set_eq]
  rw [e0] at this
  exact this
