/-! chances: the class -/
theorem sc_up {M : am_M} {o j : Nat} {x : Int} (ho : ¬ keep o) (h44 : o ≠ 44) : sc M (am_up M o j x) := sc_ob ho h44
theorem ct_startAt {q : am_Q} {N : am_M} {p : Int} (hp : 0 ≤ p ∧ p < 64) (h : ∀ N', sc N N' → N' 11 = N 11 → (∀ j, j < 64 → N' 25 j = ind p j) → N' 24 4 = 1 → q aJ N') : S5_startAt [aR 24, aI p] N q := by
  refine e5_startAt (ct_fillL (N := 64) rfl (by decide) ⟨fun _ => ⟨hp, ?_⟩, fun hc => absurd (show ¬ (p < 0) ∧ ¬ (64 ≤ p) by omega) hc⟩)
  refine h _ (((sc_ob (by unfold keep; decide) (by decide)).tr (sc_up (by unfold keep; decide) (by decide))).tr (sc_up (by unfold keep; decide) (by decide))) ?_ (fun j hj => ?_) ?_
  · rw [up_ne (by decide), up_ne (by decide), ob_ne (by decide)]
  · rw [up_eq, up_ne (by decide), ob_eq]
    unfold am_set am_fl ind
    by_cases e : j = p.toNat
    · rw [if_pos e, if_pos (by omega)]
    · rw [if_neg e, if_pos hj, if_neg (by omega)]
  · rw [up_ne (by decide), up_eq, set_eq]
theorem ag_set {L W : Nat → Int} {r : Nat} {x y : Int} (h : ∀ j, j < 64 → L j = W j) (hx : x = y) : ∀ j, j < 64 → am_set L r x j = am_set W r y j := by
  intro j hj
  unfold am_set
  by_cases e : j = r
  · rw [if_pos e, if_pos e, hx]
  · rw [if_neg e, if_neg e, h j hj]
theorem spr_b {D : Nat → Int} {B p sh x : Int} {f : Nat → Int} {l : Nat} (hl : l ≤ 4) (hs : 0 ≤ sh) (hx : sh ≤ x) (h : cO D B f) {j : Nat} (hj : j < 64) : 0 ≤ spr D p sh l f j ∧ spr D p sh l f j ≤ B + 4 * x := by
  have h1 := cO_le (cO_spr (p := p) hs h l) hj
  have hw := wyk_rng D p l
  have h2 : sh * (wyk D p l - 1) ≤ sh * 4 := Int.mul_le_mul_of_nonneg_left (by omega) hs
  omega
theorem ct_spread {q : am_Q} {N : am_M} {D W : Nat → Int} {p : Nat} {B x : Int} (h9 : N 9 = nbT D) (hp : isP D (p : Int)) (hx : N 25 p * 60 = x) (hx0 : 0 ≤ x) (hW : ∀ j, j < 64 → N 26 j = W j) (hO : cO D B W) (hB : B + 6 * x < 9223372036854775808)
    (h : ∀ L : Nat → Int, (∀ j, j < 64 → L j = sp1 D p (x / wyk D (p : Int) 4) W j) → q aJ (am_ob N 26 L)) : S5_spread [aR 24, aI (p : Int)] N q := by
  have p1 := hp.1
  have p2 := hp.2.1
  have ep : ((p : Int)).toNat = p := rfl
  have hw4 := wyk_rng D (p : Int) 4
  have hB0 := (sm_nn hO.1 64 (by omega))
  have hB1 := hO.2.2
  have hs0 : 0 ≤ x / wyk D (p : Int) 4 := Int.ediv_nonneg hx0 (by omega)
  have hs1 : x / wyk D (p : Int) 4 ≤ x := Int.ediv_le_self _ hx0
  have hWp := cO_le hO (j := p) (by omega)
  have hO1 : cO D (B + x / wyk D (p : Int) 4) (am_set W p (W p + x / wyk D (p : Int) 4)) := cO_set hO (by omega) hp.2.2 hs0
  have loop2 : ∀ (c l : Nat) (L : Nat → Int), l + c = 4 → (∀ j, j < 64 → L j = spr D (p : Int) (x / wyk D (p : Int) 4) l (am_set W p (W p + x / wyk D (p : Int) 4)) j) → am_R K5_spread q 63 [aR 24, aI (p : Int), aJ, aL (x / wyk D (p : Int) 4), aJ, aI (l : Int), aJ] [] (am_ob N 26 L) := by
    intro c
    induction c with
    | zero =>
      intro l L hl hL
      have e : l = 4 := by omega
      subst e
      exact g5_spread_63 ⟨fun _ => h L hL, fun hc => absurd hc (by omega)⟩
    | succ c ih =>
      intro l L hl hL
      refine g5_spread_63 ?_
      rw [ob_ne (by decide : (9 : Nat) ≠ 26), h9, ob_eq]
      refine ⟨fun hc => absurd hc (by omega), fun _ => ⟨ob_bs (by omega) (by omega) (by omega) (by omega), fun x2 hx2 => ?_⟩⟩
      have hx2' : x2 = bs D (p : Int) (l : Int) := hx2
      have hrng := bs_rng D (p : Int) (l : Int)
      refine ⟨fun hin => ⟨by omega, ?_⟩, fun hout => ⟨by omega, ih (l + 1) L (by omega) (fun j hj => ?_)⟩⟩
      · have hb : ¬ bs D (p : Int) (l : Int) = -1 := by omega
        have hLr := hL x2.toNat (by omega)
        have hbd := spr_b (p := (p : Int)) (l := l) (by omega) hs0 hs1 hO1 (j := x2.toNat) (by omega)
        rw [← hLr] at hbd
        refine ⟨by omega, fun x4 hx4 => ⟨by omega, ?_⟩⟩
        rw [up_ob_eq]
        refine ih (l + 1) _ (by omega) (fun j hj => ?_)
        rw [spr_s, if_neg hb, ← hx2']
        exact ag_set hL (by rw [hx4, hLr]) j hj
      · rw [spr_s, if_pos (by omega)]; exact hL j hj
  have loop1 : ∀ (c l : Nat), l + c = 4 → am_R K5_spread q 4 [aR 24, aI (p : Int), aI (wyk D (p : Int) l), aI (l : Int), aJ, aJ, aJ] [] N := by
    intro c
    induction c with
    | zero =>
      intro l hl
      have e : l = 4 := by omega
      subst e
      refine g5_spread_4 ⟨fun _ => ⟨by omega, ?_⟩, fun hc => absurd hc (by omega)⟩
      rw [ep, hx, hW p (by omega)]
      refine ⟨by omega, by omega, fun x2 hx2 => ⟨by omega, fun x3 hx3 => ?_⟩⟩
      rw [hx2, up_as]
      refine loop2 4 0 _ (by omega) (fun j hj => ?_)
      show am_set (N 26) p x3 j = am_set W p (W p + x / wyk D (p : Int) 4) j
      exact ag_set hW (by rw [hx3, hx2]) j hj
    | succ c ih =>
      intro l hl
      have hw := wyk_rng D (p : Int) l
      refine g5_spread_4 ?_
      rw [h9]
      refine ⟨fun hc => absurd hc (by omega), fun _ => ⟨ob_bs (by omega) (by omega) (by omega) (by omega), fun x5 hx5 => ?_⟩⟩
      have e5 : wyk D (p : Int) l + x5 = wyk D (p : Int) (l + 1) := by
        rw [wyk_s, hx5]
        have eb : f_2_beside (nbT D) (p : Int) (l : Int) = bs D (p : Int) (l : Int) := rfl
        rw [eb]
        by_cases c1 : bs D (p : Int) (l : Int) = -1
        · rw [if_pos c1, if_neg (fun hn => hn c1)]
        · rw [if_neg c1, if_pos c1]
      have hw' := wyk_rng D (p : Int) (l + 1)
      rw [e5]
      refine ⟨by omega, fun x6 hx6 => ⟨by omega, ?_⟩⟩
      rw [hx6]
      exact ih (l + 1) (by omega)
  exact e5_spread (loop1 4 0 (by omega))
theorem ct_wander {q : am_Q} {N : am_M} {D c : Nat → Int} {B b ck : Int} (h9 : N 9 = nbT D) (hc : ∀ j, j < 64 → N 25 j = c j) (hO : cO D B c) (hB : B ≤ 777600000) (hb : N 24 4 = b) (hb2 : 0 ≤ b ∧ b ≤ 777600000)
    (h : ∀ N', sc N N' → N' 11 = N 11 → (∀ j, j < 64 → N' 25 j = rs D 1 ck c 64 j) → N' 24 4 = b * 60 → q aJ N') : S5_wander [aR 24] N q := by
  have hB0 := (sm_nn hO.1 64 (by omega))
  have hB1 := hO.2.2
  have loop : ∀ (a i : Nat) (L : Nat → Int), i + a = 64 → (∀ j, j < 64 → L j = rs D 1 ck c i j) → am_R K5_wander q 10 [aR 24, aI (i : Int)] [] (am_ob N 26 L) := by
    intro a
    induction a with
    | zero =>
      intro i L hi hL
      have e : i = 64 := by omega
      subst e
      refine g5_wander_10 ⟨fun _ => ?_, fun hx => absurd hx (by omega)⟩
      rw [ob_ne (by decide : (24 : Nat) ≠ 26), hb, ob_eq, ob_ne (by decide : (25 : Nat) ≠ 26)]
      refine ⟨by omega, fun x2 hx2 => h _ (((sc_ob (by unfold keep; decide) (by decide)).tr (sc_ob (by unfold keep; decide) (by decide))).tr (sc_up (by unfold keep; decide) (by decide))) ?_ (fun j hj => ?_) ?_⟩
      · rw [up_ne (by decide), ob_ne (by decide), ob_ne (by decide)]
      · rw [up_ne (by decide), ob_eq]
        unfold am_cpy
        rw [if_pos (by omega), show 0 + (j - 0) = j by omega]
        exact hL j hj
      · rw [up_eq, set_eq, hx2]
    | succ a ih =>
      intro i L hi hL
      have ei : ((i : Int)).toNat = i := rfl
      have hci := cO_le hO (j := i) (by omega)
      refine g5_wander_10 ?_
      rw [ob_ne (by decide : (25 : Nat) ≠ 26), ei, hc i (by omega)]
      refine ⟨fun hx => absurd hx (by omega), fun _ => ⟨by omega, fun hz => ⟨by omega, ih (i + 1) L (by omega) (fun j hj => ?_)⟩, fun hz => ?_⟩⟩
      · rw [rs_s, if_pos (by omega)]; exact hL j hj
      · have hD := hO.2.1 i (by omega) hz
        have hOi := cO_rsB (ru := 1) (ck := ck) hO (i := i) (by omega)
        refine ct_spread (D := D) (W := rs D 1 ck c i) (B := 60 * B) (x := c i * 60) (by rw [ob_ne (by decide)]; exact h9) ⟨by omega, by omega, hD⟩ (by rw [ob_ne (by decide), hc i (by omega)]) (by omega) (by rw [ob_eq]; exact hL) hOi (by omega) (fun L' hL' => ⟨by omega, ?_⟩)
        rw [ob_ob]
        refine ih (i + 1) L' (by omega) (fun j hj => ?_)
        rw [rs_s, if_neg (by omega), if_neg (by decide), if_pos rfl]
        exact hL' j hj
  refine e5_wander (ct_fillL (N := 64) rfl (by decide) (loop 64 0 _ (by omega) (fun j hj => ?_)))
  unfold am_fl; rw [if_pos hj]; rfl
theorem ct_likeliest5 {q : am_Q} {N : am_M} (h : q (aI (lk (N 25) 63)) N) : S5_likeliestPlace [aR 24] N q := by
  have loop : ∀ (a i : Nat), i + a = 63 → am_R K5_likeliestPlace q 4 [aR 24, aI (lk (N 25) i), aI ((i + 1 : Nat) : Int)] [] N := by
    intro a
    induction a with
    | zero =>
      intro i hi
      have e : i = 63 := by omega
      subst e
      exact g5_likeliestPlace_4 ⟨fun _ => h, fun hc => absurd hc (by omega)⟩
    | succ a ih =>
      intro i hi
      have r := lk_rng (N 25) i
      refine g5_likeliestPlace_4 ⟨fun hc => absurd hc (by omega), fun _ => ⟨by omega, by omega, fun x3 hx3 => ⟨by omega, ?_⟩⟩⟩
      have ex : x3 = lk (N 25) (i + 1) := hx3
      rw [ex]
      exact ih (i + 1) (by omega)
  exact e5_likeliestPlace (loop 63 0 (by omega))
theorem nr_nb {D : Nat → Int} (hd : dR D) {ck p : Int} {l : Nat} (hl : l < 4) (hp : isP D p) (hb : ¬ bs D p (l : Int) = -1) : nr D ck p = -1 ↔ nr D ck (bs D p (l : Int)) = -1 := by
  have hr := bs_pl hb
  by_cases hc : isP D ck
  · have e1 : nr D ck p = fF D 0 ck p := by unfold nr; rw [if_pos ⟨hc, hp⟩]
    have e2 : nr D ck (bs D p (l : Int)) = fF D 0 ck (bs D p (l : Int)) := by unfold nr; rw [if_pos ⟨hc, hr⟩]
    rw [e1, e2]
    constructor
    · intro h1
      by_cases c : fF D 0 ck (bs D p (l : Int)) = -1
      · exact c
      · have := fF_tri hd (q := ck) (Int.le_refl 0) hl hb c
        omega
    · intro h1
      by_cases c : fF D 0 ck p = -1
      · exact c
      · obtain ⟨l', hl', hb'⟩ := bs_sym hp hl hb
        have := fF_tri hd (q := ck) (p := bs D p (l : Int)) (Int.le_refl 0) hl' (by rw [hb']; have := hp.1; omega) (by rw [hb']; exact c)
        omega
  · have e1 : ∀ x, nr D ck x = -1 := fun x => by unfold nr; rw [if_neg (fun hx => hc hx.1)]
    rw [e1, e1]
theorem ct_goNearer {q : am_Q} {N : am_M} {D : Nat → Int} {ck p : Int} (hd : dR D) (h9 : N 9 = nbT D) (h11 : ∀ j : Nat, j < 64 → N 11 j = nr D ck (j : Int)) (hp : isP D p) (hc : ∀ j, j < 64 → N 25 j = ind p j) (hb : N 24 4 = 1)
    (h : ∀ N', sc N N' → N' 11 = N 11 → (∀ j, j < 64 → N' 25 j = ind (gnk D ck p 4 0) j) → N' 24 4 = 1 → q aJ N') : S5_goNearer [aR 24] N q := by
  have p1 := hp.1
  have p2 := hp.2.1
  have ep : ((p.toNat : Nat) : Int) = p := by omega
  have s11 : ∀ x, isP D x → f_0_stepsTo (N 11) x = nr D ck x := by
    intro x hx
    have x1 := hx.1
    have x2 := hx.2.1
    rw [st_in ⟨x1, x2⟩, h11 _ (by omega), show ((x.toNat : Nat) : Int) = x by omega]
  refine e5_goNearer (ct_likeliest5 ⟨_, rfl, fun x5 hx5 => ?_⟩)
  have el : lk (N 25) 63 = p := by rw [lk_ind ⟨p1, p2⟩ hc 63 (by omega), if_pos (by omega)]
  rw [el] at hx5 ⊢
  rw [s11 p hp] at hx5
  rw [hx5]
  have loop : ∀ (k l : Nat), k + l = 4 → gnk D ck p k l = gnk D ck p 4 0 → am_R K5_goNearer q 16 [aR 24, aI p, aI (nr D ck p), aI (l : Int), aJ] [] N := by
    intro k
    induction k with
    | zero =>
      intro l hl he
      have e0 : gnk D ck p 0 l = p := rfl
      rw [e0] at he
      refine g5_goNearer_16 ⟨fun _ => h N (sc.rf N) rfl (fun j hj => ?_) hb, fun hc => absurd hc (by omega)⟩
      rw [← he]; exact hc j hj
    | succ k ih =>
      intro l hl he
      rw [gnk_s] at he
      refine g5_goNearer_16 ?_
      rw [h9]
      refine ⟨fun hc => absurd hc (by omega), fun _ => ⟨ob_bs (by omega) (by omega) (by omega) (by omega), fun x2 hx2 => ?_⟩⟩
      have hx2' : x2 = bs D p (l : Int) := hx2
      rw [hx2']
      refine ⟨fun hn => ⟨by omega, ih (l + 1) (by omega) ?_⟩, fun hn => ⟨fun hz => ⟨by omega, ih (l + 1) (by omega) ?_⟩, fun hz => ?_⟩⟩
      · rw [if_neg (fun hx => hx.1 hn)] at he; exact he
      · rw [if_neg (fun hx => by omega)] at he; exact he
      · have hr := bs_pl hn
        rw [s11 _ hr]
        refine ⟨fun hle => ⟨by omega, ih (l + 1) (by omega) ?_⟩, fun hlt => ?_⟩
        · rw [if_neg (fun hx => by omega)] at he; exact he
        · rw [if_pos ⟨hn, by omega, by omega⟩] at he
          refine ct_startAt ⟨hr.1, hr.2.1⟩ (fun N' a b c d => h N' a b (fun j hj => ?_) d)
          rw [← he]; exact c j hj
  exact loop 4 0 (by omega) rfl
theorem psn_0 {D : Nat → Int} {ck p : Int} : ∀ m, psn D 0 ck p m = p := by
  intro m
  induction m with
  | zero => rfl
  | succ m ih => show (if (0 : Int) = 0 then psn D 0 ck p m else _) = p; rw [if_pos rfl, ih]
theorem ct_lose {q : am_Q} {M : am_M} (hJ : J M) {fr : Int} (hp : isP (xD M) fr) {n : Nat} (hn : n ≤ 5)
    (h : ∀ M', sc M M' → (∀ j, j < 64 → M' 25 j = if M 54 2 = 1 then rI (xD M) 1 (M 54 1) (ind fr) n j else ind (psn (xD M) (M 54 2) (M 54 1) fr n) j) → M' 24 4 = (if M 54 2 = 1 then ((p60 n : Nat) : Int) else 1) → q aJ M') : S11_loseFrom [aR 0, aI fr, aI (n : Int)] M q := by
  have hS := hJ.2.1
  have hd := hdx M
  have hC := hJ.1.1
  refine e11_loseFrom (ct_startAt ⟨hp.1, hp.2.1⟩ (fun M1 s1 e11 h25 h24 => ?_))
  have e0 : M1 0 = M 0 := s1.1 0 (by unfold keep; decide)
  rw [e0, hS.1, hS.2.2.2.1]
  have loop1 : M 54 2 = 1 → ∀ (a i : Nat) (N : am_M), i + a = n → sc M N → (∀ j, j < 64 → N 25 j = rI (xD M) 1 (M 54 1) (ind fr) i j) → N 24 4 = (p60 i : Nat) → am_R K11_loseFrom q 29 [aR 0, aJ, aI (n : Int), aI (i : Int)] [] N := by
    intro hr a
    induction a with
    | zero =>
      intro i N hi sN h25 h24
      have e : i = n := by omega
      subst e
      refine g11_loseFrom_29 ⟨fun _ => h N sN (fun j hj => ?_) ?_, fun hc => absurd hc (by omega)⟩
      · rw [if_pos hr]; exact h25 j hj
      · rw [if_pos hr]; exact h24
    | succ a ih =>
      intro i N hi sN h25 h24
      have f0 : N 0 15 = 1 := by rw [sN.1 0 (by unfold keep; decide), hS.2.2.2.1, hr]
      have f9 : N 9 = nbT (xD M) := by rw [sN.1 9 (by unfold keep; decide)]; exact hC.2.1.2.2.2
      have pr := p60r i (by omega)
      have hO := cO_rI (ru := 1) (ck := M 54 1) (cO_ind hp) i
      refine g11_loseFrom_29 ?_
      rw [f0]
      refine ⟨fun hc => absurd hc (by omega), fun _ => ⟨fun hc => absurd hc (by decide), fun _ => ⟨fun _ => ?_, fun hc => absurd rfl hc⟩⟩⟩
      refine ct_wander (D := xD M) (ck := M 54 1) f9 h25 hO (by omega) h24 (by omega) (fun N' a1 a2 a3 a4 => ⟨by omega, ih (i + 1) N' (by omega) (sN.tr a1) (fun j hj => ?_) ?_⟩)
      · exact a3 j hj
      · rw [a4, p60s, Int.natCast_mul]; rfl
  have loop2 : M 54 2 = 2 → ∀ (a i : Nat) (N : am_M), i + a = n → sc M N → (∀ j : Nat, j < 64 → N 11 j = nr (xD M) (M 54 1) (j : Int)) → (∀ j, j < 64 → N 25 j = ind (psn (xD M) 2 (M 54 1) fr i) j) → N 24 4 = 1 → am_R K11_loseFrom q 29 [aR 0, aJ, aI (n : Int), aI (i : Int)] [] N := by
    intro hr a
    induction a with
    | zero =>
      intro i N hi sN h11 h25 h24
      have e : i = n := by omega
      subst e
      refine g11_loseFrom_29 ⟨fun _ => h N sN (fun j hj => ?_) ?_, fun hc => absurd hc (by omega)⟩
      · rw [if_neg (by omega), hr]; exact h25 j hj
      · rw [if_neg (by omega)]; exact h24
    | succ a ih =>
      intro i N hi sN h11 h25 h24
      have f0 : N 0 15 = 2 := by rw [sN.1 0 (by unfold keep; decide), hS.2.2.2.1, hr]
      have f9 : N 9 = nbT (xD M) := by rw [sN.1 9 (by unfold keep; decide)]; exact hC.2.1.2.2.2
      refine g11_loseFrom_29 ?_
      rw [f0]
      refine ⟨fun hc => absurd hc (by omega), fun _ => ⟨fun hc => absurd hc (by decide), fun _ => ⟨fun hc => absurd hc (by decide), fun _ => ?_⟩⟩⟩
      refine ct_goNearer (D := xD M) (ck := M 54 1) hd f9 h11 (psn_pl hp i) h25 h24 (fun N' a1 a2 a3 a4 => ⟨by omega, ih (i + 1) N' (by omega) (sN.tr a1) (by rw [a2]; exact h11) (fun j hj => ?_) a4⟩)
      exact a3 j hj
  refine ⟨fun hr => ?_, fun hr => ?_⟩
  · refine ct_measureJ (hJ.sc s1).1.1 (fun g r hg => ?_)
    rw [s1.be.D] at hg
    refine loop2 hr n 0 _ (by omega) (s1.tr sc_md) (fun j hj => ?_) (fun j hj => ?_) ?_
    · rw [ob_ne (by decide), ob_eq]; exact hg j hj
    · rw [ob_ne (by decide), ob_ne (by decide)]; exact h25 j hj
    · rw [ob_ne (by decide), ob_ne (by decide)]; exact h24
  · by_cases h1 : M 54 2 = 1
    · exact loop1 h1 n 0 M1 (by omega) s1 h25 h24
    · have h0 : M 54 2 = 0 := by have := hS.2.2.2.2; omega
      have f0 : M1 0 15 = 0 := by rw [e0, hS.2.2.2.1, h0]
      have fin : q aJ M1 := by
        refine h M1 s1 (fun j hj => ?_) ?_
        · rw [if_neg h1, h0, psn_0]; exact h25 j hj
        · rw [if_neg h1]; exact h24
      refine g11_loseFrom_29 ?_
      rw [f0]
      exact ⟨fun _ => fin, fun _ => ⟨fun _ => fin, fun hc => absurd rfl hc⟩⟩
