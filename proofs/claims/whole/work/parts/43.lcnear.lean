/-! near, meet -/
theorem hdx (M : am_M) : dR (xD M) := fun j => dn_rng _ _ j
theorem cpl {M : am_M} (hC : XC M) {v : Int} : (¬ (v < 0) ∧ (¬ (64 ≤ v) ∧ ¬ (M 8 v.toNat = -1))) ↔ isP (xD M) v := by
  rw [hC.2.1.2.1]
  unfold isP
  constructor
  · rintro ⟨a, b, c⟩; exact ⟨by omega, by omega, c⟩
  · rintro ⟨a, b, c⟩; exact ⟨by omega, by omega, c⟩
theorem rpl {M : am_M} (hR : RD M) {v : Int} : ((¬ (v < 0) ∧ ¬ (63 < v)) ∧ ¬ (M 51 v.toNat = 99)) ↔ isP (xD M) v := by
  have hd := hdx M v.toNat
  unfold isP
  constructor
  · rintro ⟨⟨a, b⟩, c⟩
    refine ⟨by omega, by omega, fun e => c ?_⟩
    rw [hR.1 _ (by omega)]; unfold fm; rw [if_pos e]
  · rintro ⟨a, b, c⟩
    refine ⟨⟨by omega, by omega⟩, ?_⟩
    rw [hR.1 _ (by omega)]; unfold fm; rw [if_neg c]; omega
theorem rF_back {v : Int} (h : -1 ≤ v ∧ v ≤ 63) : (if rF v < 1000000 then rF v else -1) = v := by
  unfold rF
  by_cases e : v = -1
  · rw [if_pos e, if_neg (by omega), e]
  · rw [if_neg e, if_pos (by omega)]
theorem sc_md {M : am_M} {g r : Nat → Int} : sc M (am_ob (am_ob M 11 g) 12 r) := (sc_ob (by unfold keep; decide) (by decide)).tr (sc_ob (by unfold keep; decide) (by decide))
theorem st_in {g : Nat → Int} {v : Int} (h : 0 ≤ v ∧ v < 64) : f_0_stepsTo g v = g v.toNat := by unfold f_0_stepsTo; rw [if_neg (by omega), if_neg (by omega)]
theorem ct_measureJ {q : am_Q} {M : am_M} {v1 : Int} (hC : XC M) (h : ∀ g r : Nat → Int, (∀ j : Nat, j < 64 → g j = nr (xD M) v1 (j : Int)) → q aJ (am_ob (am_ob M 11 g) 12 r)) : S0_measureFrom [aR 10, aI v1] M q := ct_measure hC.2.1.2.1 hC.2.1.2.2.2 (hdx M) h
theorem ct_findNearR {q : am_Q} {M : am_M} {to : Int} (hR : RD M) (hto : isP (xD M) to) (h : ∀ F : Nat → Int, (∀ j : Nat, j < 64 → F j = rF (nr (xD M) to (j : Int))) → q aJ (am_ob M 59 F)) : S12_findFar [aR 44, aI to, aI 0] M q := ct_findNear hR.1 (hdx M) hto h
theorem sc_59 {M : am_M} {F : Nat → Int} : sc M (am_ob M 59 F) := sc_ob (by unfold keep; decide) (by decide)
theorem lc_near {M : am_M} {v1 v2 : Int} (hJ : J M) : S11_near [aR 0, aI v1, aI v2] M (fun r1 M1 => S12_near [aR 44, aI v1, aI v2] M1 (fun r2 M2 => eqI r1 r2 ∧ J M2)) := by
  have bad : ¬ (isP (xD M) v1 ∧ isP (xD M) v2) → S12_near [aR 44, aI v1, aI v2] M (fun r2 M2 => eqI (aI (-2)) r2 ∧ J M2) := by
    intro hb
    refine e12_near (ct_reads hJ.1 (fun M1 hs hR => ?_))
    have e := hs.be.D
    rw [← e] at hb
    refine ⟨fun h1 => ⟨fun h2 => absurd ⟨(rpl hR).mp h1, (rpl hR).mp h2⟩ hb, fun _ => ⟨⟨_, rfl, rfl⟩, hJ.sc hs⟩⟩, fun _ => ⟨⟨_, rfl, rfl⟩, hJ.sc hs⟩⟩
  have hC := hJ.1.1
  refine e11_near ⟨fun h1 => ⟨fun h2 => ct_measureJ hC (fun g r hg => ?_), fun h2 => bad (fun hx => h2 ((cpl hC).mpr hx.2))⟩, fun h1 => bad (fun hx => h1 ((cpl hC).mpr hx.1))⟩
  have p1 := (cpl hC).mp h1
  have p2 := (cpl hC).mp h2
  rw [ob_ne (by decide), ob_eq, st_in ⟨p2.1, p2.2.1⟩, hg _ (by have := p2.2.1; have := p2.1; omega)]
  refine e12_near (ct_reads (hJ.sc sc_md).1 (fun M1 hs hR => ?_))
  have s2 := (sc_md (M := M) (g := g) (r := r)).tr hs
  have e := s2.be.D
  rw [← e] at p1 p2
  refine ⟨fun _ => ⟨fun _ => e12_nearOf (ct_findNearR hR p2 (fun F hF => ⟨⟨p1.1, p1.2.1⟩, fun x6 hx6 => ⟨_, rfl, ⟨_, rfl, ?_⟩, hJ.sc (s2.tr sc_59)⟩⟩)), fun hc => absurd ((rpl hR).mpr p2) hc⟩, fun hc => absurd ((rpl hR).mpr p1) hc⟩
  rw [hx6, ob_eq, hF _ (by have := p1.2.1; have := p1.1; omega), rF_back (nr_rng (hdx _) _ _), ← e]
  have e1 : ((v1.toNat : Nat) : Int) = v1 := by have := p1.1; omega
  have e2 : ((v2.toNat : Nat) : Int) = v2 := by have := p2.1; omega
  rw [e1, e2, nr_sym (hdx _)]
/-! meet -/
noncomputable def mF (D : Nat → Int) (st : Nat → Int) (b : Int) : Nat → Nat → Int
  | 0, _ => 0
  | k + 1, p => if am_and (am_shr b (k : Int)) 1 = 0 then mF D st b k p else if nr D (st k) (p : Int) = -1 ∨ mF D st b k p = -1 then -1 else if mF D st b k p < nr D (st k) (p : Int) then nr D (st k) (p : Int) else mF D st b k p
theorem mF_s (D st : Nat → Int) (b : Int) (k p : Nat) : mF D st b (k + 1) p = if am_and (am_shr b (k : Int)) 1 = 0 then mF D st b k p else if nr D (st k) (p : Int) = -1 ∨ mF D st b k p = -1 then -1 else if mF D st b k p < nr D (st k) (p : Int) then nr D (st k) (p : Int) else mF D st b k p := rfl
theorem mF_rng {D : Nat → Int} (hd : dR D) {st : Nat → Int} {b : Int} : ∀ k p, -1 ≤ mF D st b k p ∧ mF D st b k p ≤ 63 := by
  intro k
  induction k with
  | zero => intro p; unfold mF; omega
  | succ k ih =>
    intro p
    have h1 := ih p
    have h2 := nr_rng hd (st k) (p : Int)
    unfold mF
    repeat' split
    all_goals omega
theorem bit5_fin : ∀ b : Fin 32, ∀ j : Fin 5, am_and (am_shr (b.val : Int) (j.val : Int)) 1 = 0 ∨ am_and (am_shr (b.val : Int) (j.val : Int)) 1 = 1 := by decide +kernel
theorem bit5 {b : Int} {j : Nat} (hb : 0 ≤ b ∧ b < 32) (hj : j < 5) : am_and (am_shr b (j : Int)) 1 = 0 ∨ am_and (am_shr b (j : Int)) 1 = 1 := by
  obtain ⟨n, hn⟩ : ∃ n : Nat, b = n := ⟨b.toNat, by omega⟩
  subst hn
  exact bit5_fin ⟨n, by omega⟩ ⟨j, hj⟩
theorem bit5_some : ∀ b : Fin 32, b.val = 0 ∨ ¬ am_and (am_shr (b.val : Int) ((0 : Nat) : Int)) 1 = 0 ∨ ¬ am_and (am_shr (b.val : Int) ((1 : Nat) : Int)) 1 = 0 ∨ ¬ am_and (am_shr (b.val : Int) ((2 : Nat) : Int)) 1 = 0 ∨ ¬ am_and (am_shr (b.val : Int) ((3 : Nat) : Int)) 1 = 0 ∨ ¬ am_and (am_shr (b.val : Int) ((4 : Nat) : Int)) 1 = 0 := by decide +kernel
theorem mF_out {D st : Nat → Int} {b : Int} {p : Nat} (hp : D p = -1) : ∀ k j : Nat, j < k → ¬ am_and (am_shr b (j : Int)) 1 = 0 → mF D st b k p = -1 := by
  have hn : ∀ q, nr D q (p : Int) = -1 := fun q => by unfold nr; rw [if_neg (fun hx => hx.2.2.2 hp)]
  intro k
  induction k with
  | zero => intro j hj; omega
  | succ k ih =>
    intro j hj hb
    unfold mF
    by_cases e : am_and (am_shr b (k : Int)) 1 = 0
    · rw [if_pos e]
      have : j ≠ k := by intro e2; subst e2; exact hb e
      exact ih j (by omega) hb
    · rw [if_neg e, if_pos (Or.inl (hn _))]
def lf (f : Nat → Int) : Nat → Int
  | 0 => -1
  | k + 1 => if f k = -1 then lf f k else if lf f k = -1 then (k : Int) else if f (lf f k).toNat ≤ f k then lf f k else (k : Int)
theorem lf_rng (f : Nat → Int) : ∀ k, -1 ≤ lf f k ∧ lf f k < k ∧ (¬ lf f k = -1 → ¬ f (lf f k).toNat = -1) := by
  intro k
  induction k with
  | zero => unfold lf; omega
  | succ k ih =>
    have e : ((k : Int)).toNat = k := rfl
    unfold lf
    by_cases h1 : f k = -1
    · rw [if_pos h1]; exact ⟨ih.1, by omega, ih.2.2⟩
    · rw [if_neg h1]
      by_cases h2 : lf f k = -1
      · rw [if_pos h2, e]; exact ⟨by omega, by omega, fun _ => h1⟩
      · rw [if_neg h2]
        by_cases h3 : f (lf f k).toNat ≤ f k
        · rw [if_pos h3]; exact ⟨ih.1, by omega, ih.2.2⟩
        · rw [if_neg h3, e]; exact ⟨by omega, by omega, fun _ => h1⟩
theorem lf_congr {f g : Nat → Int} : ∀ k, (∀ j, j < k → f j = g j) → lf f k = lf g k := by
  intro k
  induction k with
  | zero => intro _; rfl
  | succ k ih =>
    intro h
    have e := ih (fun j hj => h j (by omega))
    have r := lf_rng g k
    have hk := h k (by omega)
    unfold lf
    rw [e, hk]
    by_cases h1 : lf g k = -1
    · rw [if_pos h1, if_pos h1]
    · rw [if_neg h1, if_neg h1, h (lf g k).toNat (by omega)]
theorem ct_comeFrom {q : am_Q} {M : am_M} {v1 : Int} (hC : XC M) (h : ∀ g r f : Nat → Int, (∀ j : Nat, j < 64 → f j = if nr (xD M) v1 (j : Int) = -1 ∨ M 43 j = -1 then -1 else if M 43 j < nr (xD M) v1 (j : Int) then nr (xD M) v1 (j : Int) else M 43 j) → q aJ (am_ob (am_ob (am_ob M 11 g) 12 r) 43 f)) : S11_comeFrom [aR 0, aI v1] M q := by
  refine e11_comeFrom (ct_measureJ hC (fun g r hg => ?_))
  have e43 : (am_ob (am_ob M 11 g) 12 r) 43 = M 43 := by rw [ob_ne (by decide), ob_ne (by decide)]
  have loop : ∀ (k i : Nat) (f : Nat → Int), i + k = 64 → (∀ j : Nat, j < i → f j = if nr (xD M) v1 (j : Int) = -1 ∨ M 43 j = -1 then -1 else if M 43 j < nr (xD M) v1 (j : Int) then nr (xD M) v1 (j : Int) else M 43 j) → (∀ j : Nat, i ≤ j → f j = M 43 j) → am_R K11_comeFrom q 10 [aR 0, aJ, aI (i : Int), aJ, aJ] [] (am_ob (am_ob (am_ob M 11 g) 12 r) 43 f) := by
    intro k
    induction k with
    | zero =>
      intro i f hi h1 h2
      exact g11_comeFrom_10 ⟨fun _ => h g r f (fun j hj => h1 j (by omega)), fun hc => absurd hc (by omega)⟩
    | succ k ih =>
      intro i f hi h1 h2
      have ei : ((i : Int)).toNat = i := rfl
      refine g11_comeFrom_10 ⟨fun hc => absurd hc (by omega), fun _ x2 hx2 => ?_⟩
      rw [ob_ne (by decide), ob_ne (by decide), ob_eq, st_in (by omega), ei, hg i (by omega)] at hx2
      rw [ob_eq, ei, h2 i (by omega)]
      refine ⟨fun _ => by omega, fun x5 hx5 => ⟨fun _ => by omega, fun x7 hx7 => ⟨by omega, by omega, ?_⟩⟩⟩
      rw [up_ob_eq]
      rw [hx2] at hx7
      refine ih (i + 1) _ (by omega) (fun j hj => ?_) (fun j hj => ?_)
      · by_cases e : j = i
        · subst e; rw [set_eq]; exact hx7
        · rw [set_ne e]; exact h1 j (by omega)
      · rw [set_ne (by omega)]; exact h2 j (by omega)
  have e0 : am_ob (am_ob (am_ob M 11 g) 12 r) 43 (M 43) = am_ob (am_ob M 11 g) 12 r := ob_id' e43.symm
  have := loop 64 0 (M 43) (by omega) (fun j hj => by omega) (fun j _ => rfl)
  rw [e0] at this
  exact this
theorem ct_leastFar {q : am_Q} {M : am_M} (h : q (aI (lf (M 43) 64)) M) : S11_leastFar [aR 0] M q := by
  have loop : ∀ (k i : Nat), i + k = 64 → am_R K11_leastFar q 4 [aR 0, aI (lf (M 43) i), aI (i : Int)] [] M := by
    intro k
    induction k with
    | zero =>
      intro i hi
      have e : i = 64 := by omega
      subst e
      exact g11_leastFar_4 ⟨fun _ => h, fun hc => absurd hc (by omega)⟩
    | succ k ih =>
      intro i hi
      have r := lf_rng (M 43) i
      refine g11_leastFar_4 ⟨fun hc => absurd hc (by omega), fun _ => ⟨by omega, fun _ _ => by omega, fun x5 hx5 => ⟨by omega, ?_⟩⟩⟩
      have ex : x5 = lf (M 43) (i + 1) := hx5
      rw [ex]
      exact ih (i + 1) (by omega)
  exact e11_leastFar (loop 64 0 (by omega))
theorem ct_meetOf {q : am_Q} {M : am_M} {b w : Int} {f : Nat → Int} (hb : 1 ≤ b ∧ b ≤ 31) (hJ : J M) (hR : RD M) (hf : ∀ p, p < 64 → f p = mF (xD M) (M 57) b 5 p)
    (h : ∀ F, q (aI (if w = 0 then lf f 64 else if lf f 64 = -1 then -1 else f (lf f 64).toNat)) (am_ob M 59 F)) : S12_meetOf [aR 44, aI b, aI w] M q := by
  have hP := hJ.2.2.2.2.1
  have hd := hdx M
  have frng : ∀ p, p < 64 → -1 ≤ f p ∧ f p ≤ 63 := fun p hp => by rw [hf p hp]; exact mF_rng hd 5 p
  have outer : ∀ (a p : Nat) (F : Nat → Int), p + a = 64 → am_R K12_meetOf q 9 [aR 44, aI b, aI w, aI (lf f p), aI (if lf f p = -1 then 1000000 else f (lf f p).toNat), aI (p : Int), aJ, aJ, aJ] [] (am_ob M 59 F) := by
    intro a
    induction a with
    | zero =>
      intro p F hp
      have e : p = 64 := by omega
      subst e
      refine g12_meetOf_9 ⟨fun _ x4 hx4 => ?_, fun hc => absurd hc (by omega)⟩
      have ex : x4 = if w = 0 then lf f 64 else if lf f 64 = -1 then -1 else f (lf f 64).toNat := by
        rw [hx4]
        by_cases e1 : w = 0
        · rw [if_pos e1, if_pos e1]
        · rw [if_neg e1, if_neg e1]
          by_cases e2 : lf f 64 = -1
          · rw [if_pos e2, if_pos e2, e2]
          · rw [if_neg e2, if_neg e2, if_neg e2]
      rw [ex]
      exact h F
    | succ a ih =>
      intro p F hp
      have ep : ((p : Int)).toNat = p := rfl
      have r := lf_rng f p
      have hs : lf f (p + 1) = if f p = -1 then lf f p else if lf f p = -1 then (p : Int) else if f (lf f p).toNat ≤ f p then lf f p else (p : Int) := rfl
      refine g12_meetOf_9 ?_
      rw [ob_ne (by decide : (51 : Nat) ≠ 59), ep, hR.1 p (by omega)]
      have hdp := hd p
      refine ⟨fun hc => absurd hc (by omega), fun _ => ⟨by omega, fun hpost => ⟨by omega, ?_⟩, fun hpost => ?_⟩⟩
      · have hpn : xD M p = -1 := by
          unfold fm at hpost
          by_cases e : xD M p = -1
          · exact e
          · rw [if_neg e] at hpost; omega
        have hfp : f p = -1 := by
          rw [hf p (by omega)]
          obtain ⟨n, hn⟩ : ∃ n : Nat, b = n := ⟨b.toNat, by omega⟩
          subst hn
          rcases bit5_some ⟨n, by omega⟩ with e | e | e | e | e | e
          · have : n = 0 := e
            omega
          · exact mF_out hpn 5 0 (by omega) e
          · exact mF_out hpn 5 1 (by omega) e
          · exact mF_out hpn 5 2 (by omega) e
          · exact mF_out hpn 5 3 (by omega) e
          · exact mF_out hpn 5 4 (by omega) e
        have := ih (p + 1) F (by omega)
        rw [hs, if_pos hfp] at this
        exact this
      · have hpl : ¬ xD M p = -1 := by intro e; apply hpost; unfold fm; rw [if_pos e]
        have hPp : isP (xD M) (p : Int) := ⟨by omega, by omega, hpl⟩
        refine ct_findNear (d := xD M) (by rw [ob_ne (by decide)]; exact hR.1) hd hPp (fun F2 hF2 => ?_)
        rw [ob_ob]
        have inner : ∀ (c k : Nat), k + c = 5 → am_R K12_meetOf q 41 [aR 44, aI b, aI w, aI (lf f p), aI (if lf f p = -1 then 1000000 else f (lf f p).toNat), aI (p : Int), aI (rF (mF (xD M) (M 57) b k p)), aI (k : Int), aJ] [] (am_ob M 59 F2) := by
          intro c
          induction c with
          | zero =>
            intro k hk
            have e : k = 5 := by omega
            subst e
            refine g12_meetOf_41 ⟨fun _ x3 hx3 x5 hx5 => ⟨by omega, ?_⟩, fun hc => absurd hc (by omega)⟩
            rw [← hf p (by omega)] at hx3 hx5
            have fr := frng p (by omega)
            have go := ih (p + 1) F2 (by omega)
            have e3 : x3 = lf f (p + 1) := by
              rw [hx3, hs]
              unfold rF
              by_cases c1 : f p = -1
              · rw [if_pos c1, if_pos c1, if_pos]
                by_cases c2 : lf f p = -1
                · rw [if_pos c2]; omega
                · rw [if_neg c2]; have := frng (lf f p).toNat (by omega); omega
              · rw [if_neg c1, if_neg c1]
                by_cases c2 : lf f p = -1
                · rw [if_pos c2, if_pos c2, if_neg (by omega)]
                · rw [if_neg c2, if_neg c2]
            have e5 : x5 = if lf f (p + 1) = -1 then 1000000 else f (lf f (p + 1)).toNat := by
              rw [hx5, hs]
              unfold rF
              by_cases c1 : f p = -1
              · rw [if_pos c1, if_pos c1, if_pos]
                by_cases c2 : lf f p = -1
                · rw [if_pos c2]; omega
                · rw [if_neg c2]; have := frng (lf f p).toNat (by omega); omega
              · rw [if_neg c1, if_neg c1]
                by_cases c2 : lf f p = -1
                · rw [if_pos c2, if_pos c2, if_neg (by omega), if_neg (by omega), ep]
                · rw [if_neg c2, if_neg c2]
                  by_cases c3 : f (lf f p).toNat ≤ f p
                  · rw [if_pos c3, if_pos c3, if_neg c2]
                  · rw [if_neg c3, if_neg c3, if_neg (by omega), ep]
            rw [e3, e5]
            exact go
          | succ c ihc =>
            intro k hk
            have ek : ((k : Int)).toNat = k := rfl
            have hst := hP k (by omega)
            have hb5 := bit5 (b := b) (j := k) (by omega) (by omega)
            have mr := mF_rng hd (st := M 57) (b := b) k p
            have nrg := nr_rng hd (M 57 k) (p : Int)
            refine g12_meetOf_41 ⟨fun hc => absurd hc (by omega), fun _ => ⟨by unfold ob_12_isIn; omega, ?_⟩⟩
            rw [ob_ne (by decide : (57 : Nat) ≠ 59), ob_ne (by decide : (51 : Nat) ≠ 59), ob_eq, ek]
            refine ⟨fun _ => ⟨by omega, fun _ => by omega⟩, fun x8 hx8 x10 hx10 => ⟨by omega, ?_⟩⟩
            have e10 : x10 = rF (mF (xD M) (M 57) b (k + 1) p) := by
              have e8 : x8 = if am_and (am_shr b (k : Int)) 1 = 0 then 0 else rF (nr (xD M) (M 57 k) (p : Int)) := by
                rw [hx8]
                rcases hb5 with e | e
                · rw [if_neg (show ¬ am_and (am_shr b (k : Int)) 1 = 1 by omega), if_pos e]
                · rw [if_pos e, if_neg (show ¬ am_and (am_shr b (k : Int)) 1 = 0 by omega)]
                  by_cases c1 : isP (xD M) (M 57 k)
                  · rw [if_pos ((rpl hR).mpr c1), hF2 _ (by omega)]
                    have e1 : (((M 57 k).toNat : Nat) : Int) = M 57 k := by omega
                    rw [e1, nr_sym hd]
                  · rw [if_neg (fun hx => c1 ((rpl hR).mp hx))]
                    have : nr (xD M) (M 57 k) (p : Int) = -1 := by
                      by_cases c2 : nr (xD M) (M 57 k) (p : Int) = -1
                      · exact c2
                      · exact absurd (nr_pl c2).1 c1
                    rw [this]; rfl
              rw [hx10, e8, mF_s]
              by_cases e : am_and (am_shr b (k : Int)) 1 = 0
              · rw [if_pos e, if_pos e]
                unfold rF
                by_cases c1 : mF (xD M) (M 57) b k p = -1
                · rw [if_pos c1]; rfl
                · rw [if_neg c1]
                  by_cases c2 : (0 : Int) ≤ mF (xD M) (M 57) b k p
                  · rw [if_pos c2]
                  · omega
              · rw [if_neg e, if_neg e]
                unfold rF
                generalize mF (xD M) (M 57) b k p = m at *
                generalize nr (xD M) (M 57 k) (p : Int) = n at *
                repeat' split
                all_goals omega
            rw [e10]
            exact ihc (k + 1) (by omega)
        exact inner 5 0 (by omega)
  refine e12_meetOf ?_
  have := outer 64 0 (M 59) (by omega)
  rw [ob_id] at this
  exact this
theorem lc_meet {M : am_M} {v1 v2 : Int} (hJ : J M) : S11_meet [aR 0, aI v1, aI v2] M (fun r1 M1 => S12_meet [aR 44, aI v1, aI v2] M1 (fun r2 M2 => eqI r1 r2 ∧ J M2)) := by
  have bad : ¬ ((1 ≤ v1 ∧ v1 ≤ 31) ∧ (v2 = 0 ∨ v2 = 1)) → S12_meet [aR 44, aI v1, aI v2] M (fun r2 M2 => eqI (aI (-2)) r2 ∧ J M2) := by
    intro hb
    exact e12_meet (ct_reads hJ.1 (fun M1 hs hR => ⟨fun h1 => ⟨fun h2 => absurd hb (by omega), fun _ => ⟨⟨_, rfl, rfl⟩, hJ.sc hs⟩⟩, fun _ => ⟨⟨_, rfl, rfl⟩, hJ.sc hs⟩⟩))
  refine e11_meet ⟨fun h => bad (by omega), fun h => ⟨fun h2 => bad (by omega), fun h2 => ⟨fun h3 => ct_fillI (N := 64) rfl (by decide) ?_, fun h3 => bad (by omega)⟩⟩⟩
  have hP := hJ.2.2.2.2.1
  have hd := hdx M
  have ref : ∀ (f : Nat → Int) (M1 : am_M), sc M M1 → (∀ p, p < 64 → f p = mF (xD M) (M 57) v1 5 p) → ∀ v : Int, v = (if v2 = 0 then lf f 64 else if lf f 64 = -1 then -1 else f (lf f 64).toNat) → S12_meet [aR 44, aI v1, aI v2] M1 (fun r2 M2 => eqI (aI v) r2 ∧ J M2) := by
    intro f M1 s1 hf v hv
    refine e12_meet (ct_reads (hJ.sc s1).1 (fun M2 hs hR => ⟨fun _ => ⟨fun _ => ?_, fun hc => absurd hc (by omega)⟩, fun hc => absurd hc (by omega)⟩))
    have s2 := s1.tr hs
    refine ct_meetOf (f := f) (by omega) (hJ.sc s2) hR (by rw [s2.be.D, s2.1 57 (by unfold keep; decide)]; exact hf) (fun F => ⟨_, rfl, ⟨_, rfl, ?_⟩, hJ.sc (s2.tr sc_59)⟩)
    rw [hv]
  have loop : ∀ (a k : Nat) (g r f : Nat → Int), k + a = 5 → (∀ p, p < 64 → f p = mF (xD M) (M 57) v1 k p) → am_R K11_meet (fun r1 M1 => S12_meet [aR 44, aI v1, aI v2] M1 (fun r2 M2 => eqI r1 r2 ∧ J M2)) 31 [aR 0, aI v1, aI v2, aI (k : Int)] [] (am_ob (am_ob (am_ob M 11 g) 12 r) 43 f) := by
    intro a
    induction a with
    | zero =>
      intro k g r f hk hf
      have e : k = 5 := by omega
      subst e
      refine g11_meet_31 ⟨fun _ => ct_leastFar ?_, fun hc => absurd hc (by omega)⟩
      rw [ob_eq]
      have r5 := lf_rng f 64
      refine ⟨_, rfl, fun _ _ => by omega, fun x8 hx8 => ?_⟩
      refine ref f _ ((sc_md).tr (sc_ob (by unfold keep; decide) (by decide))) hf x8 ?_
      rw [hx8]
      by_cases e1 : v2 = 0
      · rw [if_pos e1, if_pos e1]
      · rw [if_neg e1, if_neg e1]
        by_cases e2 : lf f 64 = -1
        · rw [if_pos e2, if_neg (by omega), e2]
        · rw [if_neg e2, if_pos (by omega)]
    | succ a ih =>
      intro k g r f hk hf
      have s1 : sc M (am_ob (am_ob (am_ob M 11 g) 12 r) 43 f) := (sc_md).tr (sc_ob (by unfold keep; decide) (by decide))
      have hst := hP k (by omega)
      have est : f_3_standOf ((am_ob (am_ob (am_ob M 11 g) 12 r) 43 f) 18) (k : Int) = M 57 k := by
        unfold f_3_standOf
        rw [if_pos (by omega), s1.1 18 (by unfold keep; decide)]
        exact hst.1
      refine g11_meet_31 ⟨fun hc => absurd hc (by omega), fun _ => ⟨by omega, fun hb => ⟨by omega, ih (k + 1) g r f (by omega) (fun p hp => ?_)⟩, fun hb => ?_⟩⟩
      · rw [hf p hp]
        rw [mF_s, if_pos hb]
      · rw [est]
        refine ct_comeFrom (hJ.sc s1).1.1 (fun g2 r2 f2 hf2 => ⟨by omega, ?_⟩)
        have em : am_ob (am_ob (am_ob (am_ob (am_ob (am_ob M 11 g) 12 r) 43 f) 11 g2) 12 r2) 43 f2 = am_ob (am_ob (am_ob M 11 g2) 12 r2) 43 f2 := by
          funext o
          unfold am_ob
          by_cases e1 : o = 43 <;> by_cases e2 : o = 12 <;> by_cases e3 : o = 11 <;> simp [e1, e2, e3]
        rw [em]
        refine ih (k + 1) g2 r2 f2 (by omega) (fun p hp => ?_)
        rw [hf2 p hp, s1.be.D, ob_eq, hf p hp]
        rw [mF_s, if_neg hb]
  have e0 : am_ob M 43 (am_fl (M 43) 64 0) = am_ob (am_ob (am_ob M 11 (M 11)) 12 (M 12)) 43 (am_fl (M 43) 64 0) := by
    rw [ob_id, ob_id]
  rw [e0]
  refine loop 5 0 _ _ _ (by omega) (fun p hp => ?_)
  unfold am_fl mF
  rw [if_pos hp]
