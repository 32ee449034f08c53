/-! chances: the reference; is, likeliest -/
theorem ct_goesNearer {q : am_Q} {N : am_M} {D : Nat → Int} {ck : Int} {p : Nat} (hm : ∀ p, p < 64 → N 51 p = fm (D p)) (hd : dR D) (h59 : ∀ j : Nat, j < 64 → N 59 j = rF (nr D ck (j : Int))) (hp : isP D (p : Int))
    (hb1 : -9223372036854775808 ≤ N 62 p * 60 ∧ N 62 p * 60 < 9223372036854775808) (hb2 : -9223372036854775808 ≤ N 63 (gnk D ck (p : Int) 4 0).toNat + N 62 p * 60 ∧ N 63 (gnk D ck (p : Int) 4 0).toNat + N 62 p * 60 < 9223372036854775808)
    (h : q aJ (am_up N 63 (gnk D ck (p : Int) 4 0).toNat (N 63 (gnk D ck (p : Int) 4 0).toNat + N 62 p * 60))) : S12_goesNearer [aR 44, aI (p : Int)] N q := by
  have p1 := hp.1
  have p2 := hp.2.1
  have ep : ((p : Int)).toNat = p := rfl
  have hg := gnk_pl (ck := ck) hp 4 0
  have loop : ∀ l : Nat, l ≤ 4 → am_R K12_goesNearer q 4 [aR 44, aI (p : Int), aI (gnk D ck (p : Int) (4 - l) l), aI ((l : Int) - 1), aJ] [] N := by
    intro l
    induction l with
    | zero =>
      intro _
      refine g12_goesNearer_4 ⟨fun _ => ⟨⟨hg.1, hg.2.1⟩, by omega, ?_⟩, fun hc => absurd hc (by omega)⟩
      rw [ep]
      exact ⟨hb1, hb2, fun x2 hx2 => by rw [hx2]; exact h⟩
    | succ l ih =>
      intro hl
      have e3 : f_12_beside (N 51) (p : Int) (((l + 1 : Nat) : Int) - 1) = bs D (p : Int) (l : Int) := by
        rw [show ((l + 1 : Nat) : Int) - 1 = (l : Int) by omega]
        exact mb_eq hm (fun p => (hd p).2) p1 p2 (by omega) (by omega) hp.2.2
      refine g12_goesNearer_4 ⟨fun hc => absurd hc (by omega), fun _ => ⟨mb_ob p1 p2, fun x3 hx3 => ?_⟩⟩
      rw [e3] at hx3
      have hrng := bs_rng D (p : Int) (l : Int)
      refine ⟨fun hn => ⟨by omega, by omega⟩, fun x6 hx6 => ⟨by omega, ?_⟩⟩
      have e6 : x6 = gnk D ck (p : Int) (4 - l) l := by
        rw [show 4 - l = (4 - (l + 1)) + 1 by omega, gnk_s, hx6]
        by_cases c : x3 = -1
        · rw [if_pos c, if_neg (fun hx => hx.1 (hx3.symm.trans c))]
        · rw [if_neg c]
          have hb : ¬ bs D (p : Int) (l : Int) = -1 := by rw [← hx3]; exact c
          have hr := bs_pl hb
          have hnn := nr_nb hd (ck := ck) (show l < 4 by omega) hp hb
          rw [← hx3] at hnn hr
          have r1 := hr.1
          have r2 := hr.2.1
          have q1 := nr_rng hd ck (p : Int)
          have q2 := nr_rng hd ck x3
          rw [ep, h59 p (by omega), h59 x3.toNat (by omega), show ((x3.toNat : Nat) : Int) = x3 by omega, ← hx3]
          unfold rF
          generalize nr D ck (p : Int) = a at *
          generalize nr D ck x3 = b at *
          by_cases ca : a = -1
          · rw [if_pos ca, if_pos (hnn.mp ca), if_pos (Int.le_refl _), if_neg (fun hx => by omega)]
          · rw [if_neg ca, if_neg (fun hx => ca (hnn.mpr hx))]
            by_cases cc : a ≤ b
            · rw [if_pos cc, if_neg (fun hx => by omega)]
            · rw [if_neg cc, if_pos ⟨c, by omega, by omega⟩]
      rw [e6, show ((l + 1 : Nat) : Int) - 1 + (-1) = (l : Int) - 1 by omega]
      exact ih (by omega)
  exact e12_goesNearer (loop 4 (by omega))
theorem ct_roams {q : am_Q} {N : am_M} {D W : Nat → Int} {p : Nat} {B x : Int} (hm : ∀ p, p < 64 → N 51 p = fm (D p)) (hd : dR D) (hp : isP D (p : Int)) (hx : N 62 p * 60 = x) (hx0 : 0 ≤ x) (hW : ∀ j, j < 64 → N 63 j = W j) (hO : cO D B W) (hB : B + 6 * x < 9223372036854775808)
    (h : ∀ L : Nat → Int, (∀ j, j < 64 → L j = sp1 D p (x / wyk D (p : Int) 4) W j) → q aJ (am_ob N 63 L)) : S12_roams [aR 44, aI (p : Int)] N q := by
  have p1 := hp.1
  have p2 := hp.2.1
  have ep : ((p : Int)).toNat = p := rfl
  have hw4 := wyk_rng D (p : Int) 4
  have hB0 := (sm_nn hO.1 64 (by omega))
  have hB1 := hO.2.2
  have hs0 : 0 ≤ x / wyk D (p : Int) 4 := Int.ediv_nonneg hx0 (by omega)
  have hs1 : x / wyk D (p : Int) 4 ≤ x := Int.ediv_le_self _ hx0
  have hWp := cO_le hO (j := p) (by omega)
  have hO1 : cO D (B + x / wyk D (p : Int) 4) (am_set W p (W p + x / wyk D (p : Int) 4)) := cO_set hO (by omega) hp.2.2 hs0
  have mb : ∀ l : Nat, l < 4 → f_12_beside (N 51) (p : Int) (l : Int) = bs D (p : Int) (l : Int) := fun l hl => mb_eq hm (fun p => (hd p).2) p1 p2 (by omega) (by omega) hp.2.2
  have loop2 : ∀ (c l : Nat) (L : Nat → Int), l + c = 4 → (∀ j, j < 64 → L j = spr D (p : Int) (x / wyk D (p : Int) 4) l (am_set W p (W p + x / wyk D (p : Int) 4)) j) → am_R K12_roams q 60 [aR 44, aI (p : Int), aJ, aL (x / wyk D (p : Int) 4), aJ, aI (l : Int), aJ] [] (am_ob N 63 L) := by
    intro c
    induction c with
    | zero =>
      intro l L hl hL
      have e : l = 4 := by omega
      subst e
      exact g12_roams_60 ⟨fun _ => h L hL, fun hc => absurd hc (by omega)⟩
    | succ c ih =>
      intro l L hl hL
      refine g12_roams_60 ?_
      rw [ob_ne (by decide : (51 : Nat) ≠ 63), mb l (by omega), ob_eq]
      refine ⟨fun hc => absurd hc (by omega), fun _ => ⟨mb_ob p1 p2, fun x2 hx2' => ?_⟩⟩
      have hrng := bs_rng D (p : Int) (l : Int)
      refine ⟨fun hout => ⟨by omega, ih (l + 1) L (by omega) (fun j hj => ?_)⟩, fun hin => ⟨by omega, ?_⟩⟩
      · rw [spr_s, if_pos (by omega)]; exact hL j hj
      · have hb : ¬ bs D (p : Int) (l : Int) = -1 := by omega
        have hLr := hL x2.toNat (by omega)
        have hbd := spr_b (p := (p : Int)) (l := l) (by omega) hs0 hs1 hO1 (j := x2.toNat) (by omega)
        rw [← hLr] at hbd
        refine ⟨by omega, fun x4 hx4 => ⟨by omega, ?_⟩⟩
        rw [up_ob_eq]
        refine ih (l + 1) _ (by omega) (fun j hj => ?_)
        rw [spr_s, if_neg hb, ← hx2']
        exact ag_set hL (by rw [hx4, hLr]) j hj
  have loop1 : ∀ (c l : Nat), l + c = 4 → am_R K12_roams q 4 [aR 44, aI (p : Int), aI (wyk D (p : Int) l), aI (l : Int), aJ, aJ, aJ] [] N := by
    intro c
    induction c with
    | zero =>
      intro l hl
      have e : l = 4 := by omega
      subst e
      refine g12_roams_4 ⟨fun _ => ⟨by omega, ?_⟩, fun hc => absurd hc (by omega)⟩
      rw [ep, hx, hW p (by omega)]
      refine ⟨by omega, by omega, fun x2 hx2 => ⟨by omega, fun x3 hx3 => ?_⟩⟩
      rw [hx2, up_as]
      refine loop2 4 0 _ (by omega) (fun j hj => ?_)
      show am_set (N 63) p x3 j = am_set W p (W p + x / wyk D (p : Int) 4) j
      exact ag_set hW (by rw [hx3, hx2]) j hj
    | succ c ih =>
      intro l hl
      have hw := wyk_rng D (p : Int) l
      refine g12_roams_4 ?_
      rw [mb l (by omega)]
      refine ⟨fun hc => absurd hc (by omega), fun _ => ⟨mb_ob p1 p2, fun x5 hx5 => ?_⟩⟩
      have e5 : wyk D (p : Int) l + x5 = wyk D (p : Int) (l + 1) := by
        rw [wyk_s, hx5]
        by_cases c1 : bs D (p : Int) (l : Int) = -1
        · rw [if_pos c1, if_neg (fun hn => hn c1)]
        · rw [if_neg c1, if_pos c1]
      have hw' := wyk_rng D (p : Int) (l + 1)
      rw [e5]
      refine ⟨by omega, fun x6 hx6 => ⟨by omega, ?_⟩⟩
      rw [hx6]
      exact ih (l + 1) (by omega)
  exact e12_roams (loop1 4 0 (by omega))
theorem ct_findChances {q : am_Q} {M : am_M} (hJ : J M) (hR : RD M) {fr : Int} (hp : isP (xD M) fr) {n : Nat} (hn : n ≤ 5)
    (h : ∀ F c t : Nat → Int, (∀ j, j < 64 → c j = rI (xD M) (M 54 2) (M 54 1) (ind fr) n j) → q (aL (p60 n : Nat)) (am_ob (am_ob (am_ob M 59 F) 62 c) 63 t)) : S12_findChances [aR 44, aI fr, aI (n : Int)] M q := by
  have hd := hdx M
  have hS := hJ.2.1
  have fr1 := hp.1
  have fr2 := hp.2.1
  have main : ∀ F : Nat → Int, (∀ j : Nat, j < 64 → F j = rF (nr (xD M) (M 54 1) (j : Int))) → am_R K12_findChances q 62 [aR 44, aI fr, aI (n : Int), aI (M 54 2), aI 0, aJ, aJ, aJ] [] (am_ob M 59 F) := by
    intro F hF
    have minute : ∀ (a m : Nat) (c t : Nat → Int), m + a = n → (∀ j, j < 64 → c j = rI (xD M) (M 54 2) (M 54 1) (ind fr) m j) → am_R K12_findChances q 99 [aR 44, aJ, aI (n : Int), aI (M 54 2), aL (p60 m : Nat), aJ, aI (m : Int), aJ] [] (am_ob (am_ob (am_ob M 59 F) 62 c) 63 t) := by
      intro a
      induction a with
      | zero =>
        intro m c t hm hc
        have e : m = n := by omega
        subst e
        exact g12_findChances_99 ⟨fun _ => h F c t hc, fun hx => absurd hx (by omega)⟩
      | succ a iha =>
        intro m c t hm hc
        have pr := p60r m (by omega)
        have hO := cO_rI (ru := M 54 2) (ck := M 54 1) (cO_ind hp) m
        have copy : ∀ (b i : Nat) (c t : Nat → Int), i + b = 64 → (∀ j, j < 64 → t j = rI (xD M) (M 54 2) (M 54 1) (ind fr) (m + 1) j) → (∀ j, j < i → c j = t j) → am_R K12_findChances q 232 [aR 44, aJ, aI (n : Int), aI (M 54 2), aL (p60 m : Nat), aJ, aI (m : Int), aI (i : Int)] [] (am_ob (am_ob (am_ob M 59 F) 62 c) 63 t) := by
          intro b
          induction b with
          | zero =>
            intro i c t hi ht hct
            refine g12_findChances_232 ⟨fun _ => ⟨by omega, fun x2 hx2 => ⟨by omega, ?_⟩⟩, fun hx => absurd hx (by omega)⟩
            have e2 : x2 = ((p60 (m + 1) : Nat) : Int) := by rw [hx2, p60s, Int.natCast_mul]; rfl
            rw [e2]
            exact iha (m + 1) c t (by omega) (fun j hj => by rw [hct j (by omega)]; exact ht j hj)
          | succ b ihb =>
            intro i c t hi ht hct
            have ei : ((i : Int)).toNat = i := rfl
            refine g12_findChances_232 ⟨fun hx => absurd hx (by omega), fun _ => ⟨by omega, fun x3 hx3 => ⟨by omega, ?_⟩⟩⟩
            rw [ob_eq, ei] at hx3
            rw [ei, up_ob_ne (by decide), up_ob_eq]
            refine ihb (i + 1) _ t (by omega) ht (fun j hj => ?_)
            by_cases e : j = i
            · subst e; rw [set_eq, hx3]
            · rw [set_ne e]; exact hct j (by omega)
        have step : ∀ (b i : Nat) (t : Nat → Int), i + b = 64 → (∀ j, j < 64 → t j = rs (xD M) (M 54 2) (M 54 1) (rI (xD M) (M 54 2) (M 54 1) (ind fr) m) i j) → am_R K12_findChances q 132 [aR 44, aJ, aI (n : Int), aI (M 54 2), aL (p60 m : Nat), aJ, aI (m : Int), aI (i : Int)] [] (am_ob (am_ob (am_ob M 59 F) 62 c) 63 t) := by
          intro b
          induction b with
          | zero =>
            intro i t hi ht
            have e : i = 64 := by omega
            subst e
            refine g12_findChances_132 ⟨fun _ => copy 64 0 c t (by omega) ht (fun j hj => by omega), fun hx => absurd hx (by omega)⟩
          | succ b ihb =>
            intro i t hi ht
            have ei : ((i : Int)).toNat = i := rfl
            have hci := cO_le hO (j := i) (by omega)
            have hOi := cO_rsB (ru := M 54 2) (ck := M 54 1) hO (i := i) (by omega)
            have e62 : (am_ob (am_ob (am_ob M 59 F) 62 c) 63 t) 62 i = rI (xD M) (M 54 2) (M 54 1) (ind fr) m i := by rw [ob_ne (by decide), ob_eq]; exact hc i (by omega)
            have f51 : ∀ p, p < 64 → (am_ob (am_ob (am_ob M 59 F) 62 c) 63 t) 51 p = fm (xD M p) := by rw [ob_ne (by decide), ob_ne (by decide), ob_ne (by decide)]; exact hR.1
            have f59 : ∀ j : Nat, j < 64 → (am_ob (am_ob (am_ob M 59 F) 62 c) 63 t) 59 j = rF (nr (xD M) (M 54 1) (j : Int)) := by rw [ob_ne (by decide), ob_ne (by decide), ob_eq]; exact hF
            have e63 : ∀ j, j < 64 → (am_ob (am_ob (am_ob M 59 F) 62 c) 63 t) 63 j = rs (xD M) (M 54 2) (M 54 1) (rI (xD M) (M 54 2) (M 54 1) (ind fr) m) i j := by rw [ob_eq]; exact ht
            refine g12_findChances_132 ?_
            rw [ei, e62]
            have nx := rs_s (xD M) (M 54 2) (M 54 1) (rI (xD M) (M 54 2) (M 54 1) (ind fr) m) i
            refine ⟨fun hx => absurd hx (by omega), fun _ => ⟨by omega, fun h0 => ⟨fun _ => ⟨fun _ => ⟨by omega, ihb (i + 1) t (by omega) (fun j hj => ?_)⟩, fun hx => absurd h0 hx⟩, fun hx => absurd h0 hx⟩, fun h0 => ?_⟩⟩
            · rw [nx, if_pos h0]; exact ht j hj
            · have hD := hO.2.1 i (by omega) (by omega)
              have hPi : isP (xD M) (i : Int) := ⟨by omega, by omega, hD⟩
              have hti := cO_le hOi (j := i) (by omega)
              refine ⟨fun hr0 => ?_, fun hr0 => ⟨fun hx => absurd hx h0, fun _ => ⟨fun hr1 => ?_, fun hr1 => ⟨fun hx => absurd hx h0, fun _ => ?_⟩⟩⟩⟩
              · rw [e63 i (by omega)]
                refine ⟨by omega, by omega, fun x36 hx36 => ⟨by omega, ?_⟩⟩
                rw [up_ob_eq]
                refine ihb (i + 1) _ (by omega) (fun j hj => ?_)
                rw [nx, if_neg h0, if_pos hr0]
                exact ag_set ht hx36 j hj
              · refine ct_roams (D := xD M) (W := rs (xD M) (M 54 2) (M 54 1) (rI (xD M) (M 54 2) (M 54 1) (ind fr) m) i) (B := 60 * (p60 m : Nat)) (x := rI (xD M) (M 54 2) (M 54 1) (ind fr) m i * 60) f51 hd hPi (by rw [e62]) (by omega) e63 hOi (by omega) (fun L hL => ⟨by omega, ?_⟩)
                rw [ob_ob]
                refine ihb (i + 1) L (by omega) (fun j hj => ?_)
                rw [nx, if_neg h0, if_neg hr0, if_pos hr1]
                exact hL j hj
              · have hg := gnk_pl (ck := M 54 1) hPi 4 0
                have g1 := hg.1
                have g2 := hg.2.1
                have htg := cO_le hOi (j := (gnk (xD M) (M 54 1) (i : Int) 4 0).toNat) (by omega)
                have e63g := e63 (gnk (xD M) (M 54 1) (i : Int) 4 0).toNat (by omega)
                refine ct_goesNearer (D := xD M) (ck := M 54 1) f51 hd f59 hPi (by rw [e62]; omega) (by rw [e62, e63g]; omega) ⟨by omega, ?_⟩
                rw [e62, e63g, up_ob_eq]
                refine ihb (i + 1) _ (by omega) (fun j hj => ?_)
                rw [nx, if_neg h0, if_neg hr0, if_neg hr1]
                exact ag_set ht rfl j hj
        have zero : ∀ (b i : Nat) (t : Nat → Int), i + b = 64 → (∀ j, j < i → t j = 0) → am_R K12_findChances q 108 [aR 44, aJ, aI (n : Int), aI (M 54 2), aL (p60 m : Nat), aJ, aI (m : Int), aI (i : Int)] [] (am_ob (am_ob (am_ob M 59 F) 62 c) 63 t) := by
          intro b
          induction b with
          | zero =>
            intro i t hi ht
            exact g12_findChances_108 ⟨fun _ => step 64 0 t (by omega) (fun j hj => ht j (by omega)), fun hx => absurd hx (by omega)⟩
          | succ b ihb =>
            intro i t hi ht
            refine g12_findChances_108 ⟨fun hx => absurd hx (by omega), fun _ => ⟨by omega, by omega, ?_⟩⟩
            rw [up_ob_eq]
            refine ihb (i + 1) _ (by omega) (fun j hj => ?_)
            by_cases e : j = i
            · subst e; exact set_eq
            · rw [set_ne (show j ≠ ((i : Int)).toNat by omega)]; exact ht j (by omega)
        exact g12_findChances_99 ⟨fun hx => absurd hx (by omega), fun _ => zero 64 0 t (by omega) (fun j hj => by omega)⟩
    have init : ∀ (b i : Nat) (c : Nat → Int), i + b = 64 → (∀ j, j < i → c j = ind fr j) → am_R K12_findChances q 62 [aR 44, aI fr, aI (n : Int), aI (M 54 2), aI (i : Int), aJ, aJ, aJ] [] (am_ob (am_ob M 59 F) 62 c) := by
      intro b
      induction b with
      | zero =>
        intro i c hi hc
        refine g12_findChances_62 ⟨fun _ => ?_, fun hx => absurd hx (by omega)⟩
        have := minute n 0 c (M 63) (by omega) (fun j hj => hc j (by omega))
        have e : am_ob (am_ob (am_ob M 59 F) 62 c) 63 (M 63) = am_ob (am_ob M 59 F) 62 c := ob_id' (by rw [ob_ne (by decide), ob_ne (by decide)])
        rw [e] at this
        exact this
      | succ b ihb =>
        intro i c hi hc
        have ei : ((i : Int)).toNat = i := rfl
        refine g12_findChances_62 ⟨fun hx => absurd hx (by omega), fun _ x3 hx3 => ⟨by omega, by omega, ?_⟩⟩
        rw [up_ob_eq, ei]
        refine ihb (i + 1) _ (by omega) (fun j hj => ?_)
        by_cases e : j = i
        · subst e; rw [set_eq]; exact hx3
        · rw [set_ne e]; exact hc j (by omega)
    have := init 64 0 (M 62) (by omega) (fun j hj => by omega)
    have e : am_ob (am_ob M 59 F) 62 (M 62) = am_ob M 59 F := ob_id' (by rw [ob_ne (by decide)])
    rw [e] at this
    exact this
  refine e12_findChances (fun x1 hx1 => ⟨fun hP => ?_, fun hP => ?_⟩)
  · rw [hx1]
    exact ct_findNearR hR ((rpl hR).mp hP) (fun F hF => main F hF)
  · rw [hx1]
    have hnr : ∀ x, nr (xD M) (M 54 1) x = -1 := fun x => by
      unfold nr; rw [if_neg (fun hx => hP ((rpl hR).mpr hx.1))]
    have fill : ∀ (b i : Nat) (F : Nat → Int), i + b = 64 → (∀ j, j < i → F j = 1000000) → am_R K12_findChances q 37 [aR 44, aI fr, aI (n : Int), aI (M 54 2), aI (i : Int), aJ, aJ, aJ] [] (am_ob M 59 F) := by
      intro b
      induction b with
      | zero =>
        intro i F hi hF
        refine g12_findChances_37 ⟨fun _ => main F (fun j hj => ?_), fun hx => absurd hx (by omega)⟩
        rw [hnr, hF j (by omega)]; rfl
      | succ b ihb =>
        intro i F hi hF
        refine g12_findChances_37 ⟨fun hx => absurd hx (by omega), fun _ => ⟨by omega, by omega, ?_⟩⟩
        rw [up_ob_eq]
        refine ihb (i + 1) _ (by omega) (fun j hj => ?_)
        by_cases e : j = i
        · subst e; exact set_eq
        · rw [set_ne (show j ≠ ((i : Int)).toNat by omega)]; exact hF j (by omega)
    have := fill 64 0 (M 59) (by omega) (fun j hj => by omega)
    rw [ob_id] at this
    exact this
theorem sc_ch {M : am_M} {F c t : Nat → Int} : sc M (am_ob (am_ob (am_ob M 59 F) 62 c) 63 t) := ((sc_ob (by unfold keep; decide) (by decide)).tr (sc_ob (by unfold keep; decide) (by decide))).tr (sc_ob (by unfold keep; decide) (by decide))
/-- both rows of chances, up to a factor -/
theorem ch_rel {D : Nat → Int} {ru ck fr : Int} (hp : isP D fr) (n : Nat) : ∃ K : Nat, 1 ≤ K ∧ (∀ j, j < 64 → rI D ru ck (ind fr) n j = (K : Int) * (if ru = 1 then rI D 1 ck (ind fr) n j else ind (psn D ru ck fr n) j)) ∧ ((p60 n : Nat) : Int) = (K : Int) * (if ru = 1 then ((p60 n : Nat) : Int) else 1) := by
  by_cases h : ru = 1
  · refine ⟨1, by omega, fun j hj => ?_, ?_⟩
    · rw [if_pos h, h, show ((1 : Nat) : Int) = 1 from rfl, Int.one_mul]
    · rw [if_pos h, show ((1 : Nat) : Int) = 1 from rfl, Int.one_mul]
  · have h1 : 1 ≤ p60 n := by
      induction n with
      | zero => decide
      | succ m ih2 => rw [p60s]; omega
    refine ⟨p60 n, h1, fun j hj => ?_, ?_⟩
    · rw [if_neg h]; exact rI_ind h hp n j hj
    · rw [if_neg h, Int.mul_one]
theorem lc_is {M : am_M} {v1 v2 v3 v4 : Int} (hJ : J M) : S11_is [aR 0, aI v1, aI v2, aI v3, aI v4] M (fun r1 M1 => S12_is [aR 44, aI v1, aI v2, aI v3, aI v4] M1 (fun r2 M2 => eqL r1 r2 ∧ J M2)) := by
  have hC := hJ.1.1
  have bad : ¬ (isP (xD M) v1 ∧ (0 ≤ v2 ∧ v2 ≤ 5) ∧ isP (xD M) v3 ∧ (v4 = 0 ∨ v4 = 1)) → S12_is [aR 44, aI v1, aI v2, aI v3, aI v4] M (fun r2 M2 => eqL (aL (f_11_refused (-2))) r2 ∧ J M2) := by
    intro hb
    refine e12_is (ct_reads hJ.1 (fun M1 hs hR => ?_))
    have e := hs.be.D
    rw [← e] at hb
    refine ⟨fun h1 => ⟨fun h2 => ⟨fun h3 => ⟨fun h4 => absurd ⟨(rpl hR).mp h1, by omega, (rpl hR).mp h3, by omega⟩ hb, fun _ => ⟨⟨_, rfl, rfl⟩, hJ.sc hs⟩⟩, fun _ => ⟨⟨_, rfl, rfl⟩, hJ.sc hs⟩⟩, fun _ => ⟨⟨_, rfl, rfl⟩, hJ.sc hs⟩⟩, fun _ => ⟨⟨_, rfl, rfl⟩, hJ.sc hs⟩⟩
  refine e11_is ⟨fun h1 => ⟨fun h2 => ⟨fun h3 => ⟨fun h4 => ?_, fun h4 => bad (fun hx => h4 hx.2.2.2)⟩, fun h3 => bad (fun hx => h3 ((cpl hC).mpr hx.2.2.1))⟩, fun h2 => bad (fun hx => h2 (by omega))⟩, fun h1 => bad (fun hx => h1 ((cpl hC).mpr hx.1))⟩
  have p1 := (cpl hC).mp h1
  have p3 := (cpl hC).mp h3
  obtain ⟨n, hn⟩ : ∃ n : Nat, v2 = n := ⟨v2.toNat, by omega⟩
  subst hn
  have a1 := p3.1
  have a2 := p3.2.1
  obtain ⟨K, hK1, hK2, hK3⟩ := ch_rel (ru := M 54 2) (ck := M 54 1) p1 n
  have pr := p60r n (by omega)
  refine ct_lose hJ p1 (by omega) (fun M1 s1 h25 h24 => ?_)
  have eA : f_5_chanceOf (M1 25) v3 = M1 25 v3.toNat := by unfold f_5_chanceOf; rw [if_pos (by omega)]
  have hA := h25 v3.toNat (by omega)
  have hA2 := hK2 v3.toNat (by omega)
  rw [← hA] at hA2
  rw [← h24] at hK3
  have nnA : 0 ≤ M1 25 v3.toNat := by
    rw [hA]
    split
    · exact (cO_rI (ru := 1) (ck := M 54 1) (cO_ind p1) n).1 _ (by omega)
    · unfold ind; split <;> omega
  have nnB : 1 ≤ M1 24 4 ∧ M1 24 4 ≤ 777600000 := by rw [h24]; split <;> omega
  obtain ⟨A, eA2⟩ : ∃ A : Nat, M1 25 v3.toNat = A := ⟨(M1 25 v3.toNat).toNat, by omega⟩
  obtain ⟨B, eB2⟩ : ∃ B : Nat, M1 24 4 = B := ⟨(M1 24 4).toNat, by omega⟩
  rw [eA, eA2, eB2]
  refine ct_lowest (by omega) (by omega) ⟨_, rfl, ?_⟩
  refine e12_is (ct_reads (hJ.sc s1).1 (fun M2 hs hR => ?_))
  have s2 := s1.tr hs
  have e := s2.be.D
  have e54 := s2.1 54 (by unfold keep; decide)
  have p1' : isP (xD M2) v1 := by rw [e]; exact p1
  have p3' : isP (xD M2) v3 := by rw [e]; exact p3
  refine ⟨fun _ => ⟨fun _ => ⟨fun _ => ⟨fun _ => ?_, fun hx => absurd hx (by omega)⟩, fun hx => absurd ((rpl hR).mpr p3') hx⟩, fun hx => absurd hx (by omega)⟩, fun hx => absurd ((rpl hR).mpr p1') hx⟩
  refine e12_isOf (ct_findChances (hJ.sc s2) hR p1' (by omega) (fun F c t hc => ⟨_, rfl, by omega, ?_⟩))
  rw [e, e54] at hc
  have ec : c v3.toNat = ((K * A : Nat) : Int) := by rw [hc _ (by omega), hA2, eA2, Int.natCast_mul]
  have eb : ((p60 n : Nat) : Int) = ((K * B : Nat) : Int) := by rw [hK3, eB2, Int.natCast_mul]
  rw [ob_ne (by decide), ob_eq, ec, eb]
  refine ct_part (Nat.mul_pos (by omega) (by omega)) ⟨_, rfl, _, rfl, ⟨_, rfl, ?_⟩, (hJ.sc s2).sc sc_ch⟩
  rw [lt_scale (by omega)]
theorem lc_likeliest {M : am_M} {v1 v2 : Int} (hJ : J M) : S11_likeliest [aR 0, aI v1, aI v2] M (fun r1 M1 => S12_likeliest [aR 44, aI v1, aI v2] M1 (fun r2 M2 => eqI r1 r2 ∧ J M2)) := by
  have hC := hJ.1.1
  have bad : ¬ (isP (xD M) v1 ∧ (0 ≤ v2 ∧ v2 ≤ 5)) → S12_likeliest [aR 44, aI v1, aI v2] M (fun r2 M2 => eqI (aI (-2)) r2 ∧ J M2) := by
    intro hb
    refine e12_likeliest (ct_reads hJ.1 (fun M1 hs hR => ?_))
    have e := hs.be.D
    rw [← e] at hb
    refine ⟨fun h1 => ⟨fun h2 => absurd ⟨(rpl hR).mp h1, by omega⟩ hb, fun _ => ⟨⟨_, rfl, rfl⟩, hJ.sc hs⟩⟩, fun _ => ⟨⟨_, rfl, rfl⟩, hJ.sc hs⟩⟩
  refine e11_likeliest ⟨fun h1 => ⟨fun h2 => ?_, fun h2 => bad (fun hx => h2 (by omega))⟩, fun h1 => bad (fun hx => h1 ((cpl hC).mpr hx.1))⟩
  have p1 := (cpl hC).mp h1
  obtain ⟨n, hn⟩ : ∃ n : Nat, v2 = n := ⟨v2.toNat, by omega⟩
  subst hn
  obtain ⟨K, hK1, hK2, hK3⟩ := ch_rel (ru := M 54 2) (ck := M 54 1) p1 n
  refine ct_lose hJ p1 (by omega) (fun M1 s1 h25 h24 => ct_likeliest5 ⟨_, rfl, ?_⟩)
  refine e12_likeliest (ct_reads (hJ.sc s1).1 (fun M2 hs hR => ?_))
  have s2 := s1.tr hs
  have e := s2.be.D
  have e54 := s2.1 54 (by unfold keep; decide)
  have p1' : isP (xD M2) v1 := by rw [e]; exact p1
  refine ⟨fun _ => ⟨fun _ => ?_, fun hx => absurd hx (by omega)⟩, fun hx => absurd ((rpl hR).mpr p1') hx⟩
  refine e12_likeliestOf (ct_findChances (hJ.sc s2) hR p1' (by omega) (fun F c t hc => ⟨_, rfl, ?_⟩))
  rw [e, e54] at hc
  have hJ3 := (hJ.sc s2).sc (sc_ch (F := F) (c := c) (t := t))
  have e62 : (am_ob (am_ob (am_ob M2 59 F) 62 c) 63 t) 62 = c := by rw [ob_ne (by decide), ob_eq]
  have es := lk_scale (f := c) (g := M1 25) (K := K) (by omega) (fun j hj => by rw [hc j hj, hK2 j hj, h25 j hj]) 63 (by omega)
  rw [← es]
  generalize am_ob (am_ob (am_ob M2 59 F) 62 c) 63 t = N at *
  have loop : ∀ (a i : Nat), i + a = 63 → am_R K12_likeliestOf (fun r8 M7 => ∃ x9 : Int, r8 = aI x9 ∧ eqI (aI (lk c 63)) (aI x9) ∧ J M7) 12 [aR 44, aJ, aJ, aI (lk c i), aI ((i + 1 : Nat) : Int)] [] N := by
    intro a
    induction a with
    | zero =>
      intro i hi
      have e : i = 63 := by omega
      subst e
      exact g12_likeliestOf_12 ⟨fun _ => ⟨_, rfl, ⟨_, rfl, rfl⟩, hJ3⟩, fun hc => absurd hc (by omega)⟩
    | succ a ih =>
      intro i hi
      have r := lk_rng c i
      refine g12_likeliestOf_12 ?_
      rw [e62]
      refine ⟨fun hc => absurd hc (by omega), fun _ => ⟨by omega, by omega, fun x3 hx3 => ⟨by omega, ?_⟩⟩⟩
      have ex : x3 = lk c (i + 1) := hx3
      rw [ex]
      exact ih (i + 1) (by omega)
  exact loop 63 0 (by omega)
