/-! write -/
noncomputable def wrt (D : Nat → Int) (q fo : Int) (i : Nat) (old : Nat → Int) : Nat → Int := fun j => if j < i then f_12_cut fo (nr D q (j : Int)) else old j
theorem wrt_in {D : Nat → Int} {q fo : Int} {i j : Nat} {old : Nat → Int} (h : j < i) : wrt D q fo i old j = f_12_cut fo (nr D q (j : Int)) := by unfold wrt; rw [if_pos h]
theorem wrt_set {D : Nat → Int} {q fo x : Int} {i : Nat} {old : Nat → Int} (hx : x = f_12_cut fo (nr D q (i : Int))) : am_set (wrt D q fo i old) i x = wrt D q fo (i + 1) old := by
  funext j
  unfold am_set wrt
  by_cases c : j = i
  · subst c; rw [if_pos rfl, if_pos (by omega), hx]
  · rw [if_neg c]
    by_cases c2 : j < i
    · rw [if_pos c2, if_pos (show j < i + 1 by omega)]
    · rw [if_neg c2, if_neg (show ¬ j < i + 1 by omega)]
noncomputable def wr2 (D : Nat → Int) (q fo : Int) (s i : Nat) (old : Nat → Int) : Nat → Int := fun j => if 64 * s ≤ j ∧ j < 64 * s + i then f_12_cut fo (nr D q ((j - 64 * s : Nat) : Int)) else old j
theorem wr2_set {D : Nat → Int} {q fo x : Int} {s i : Nat} {old : Nat → Int} (hx : x = f_12_cut fo (nr D q (i : Int))) : am_set (wr2 D q fo s i old) (64 * s + i) x = wr2 D q fo s (i + 1) old := by
  funext j
  unfold am_set wr2
  by_cases c : j = 64 * s + i
  · subst c
    have e : 64 * s + i - 64 * s = i := by omega
    rw [if_pos rfl, if_pos (by omega), hx, e]
  · rw [if_neg c]
    by_cases c2 : 64 * s ≤ j ∧ j < 64 * s + i
    · rw [if_pos c2, if_pos (show 64 * s ≤ j ∧ j < 64 * s + (i + 1) by omega)]
    · rw [if_neg c2, if_neg (show ¬ (64 * s ≤ j ∧ j < 64 * s + (i + 1)) by omega)]
theorem lc_write {M : am_M} {v1 v2 : Int} (hJ : J M) : S11_write [aR 0, aI v1, aI v2] M (fun r1 M1 => S12_write [aR 44, aI v1, aI v2] M1 (fun r2 M2 => eqI r1 r2 ∧ J M2)) := by
  have hC := hJ.1.1
  have hE := hJ.2.2.2.2.2.2.1
  have bad : ¬ (isP (xD M) v1 ∧ (0 ≤ v2 ∧ v2 < 4)) → S12_write [aR 44, aI v1, aI v2] M (fun r2 M2 => eqI (aI (-2)) r2 ∧ J M2) := by
    intro hb
    refine e12_write (ct_reads hJ.1 (fun M1 hs hR => ?_))
    have e := hs.be.D
    rw [← e] at hb
    refine ⟨fun h1 => ⟨fun h2 => absurd ⟨(rpl hR).mp h1, by omega⟩ hb, fun _ => ⟨⟨_, rfl, rfl⟩, hJ.sc hs⟩⟩, fun _ => ⟨⟨_, rfl, rfl⟩, hJ.sc hs⟩⟩
  refine e11_write ⟨fun h1 => ⟨fun h2 => ?_, fun h2 => bad (fun hx => h2 ((cpl hC).mpr hx.1))⟩, fun h1 => ⟨fun _ => bad (fun hx => h1 hx.2), fun _ => bad (fun hx => h1 hx.2)⟩⟩
  obtain ⟨s, hs⟩ : ∃ s : Nat, v2 = s := ⟨v2.toNat, by omega⟩
  subst hs
  have es : (s : Int).toNat = s := rfl
  have hs4 : s < 4 := by omega
  have p1 := (cpl hC).mp h2
  rw [es]
  obtain ⟨g1, g2, g3, g4, g5, g6⟩ := hE s hs4
  refine ⟨fun h3 => ?_, fun h3 => ?_⟩
  · refine e11_found ⟨by omega, _, rfl, ?_⟩
    have hT : JT (am_up M 0 16 1) := hJ.1.congr (fun o ho => up_ne (by omega)) (by rw [up_ne (by decide)])
    refine e12_write (ct_reads hT (fun M1 hs hR => ?_))
    have eD : xD M1 = xD M := by rw [hs.be.D]; unfold xD xn0; rw [up_ne (by decide), up_ne (by decide)]
    rw [← eD] at p1
    refine ⟨fun _ => ⟨fun _ => ⟨by omega, ?_⟩, fun hc => absurd hc (by omega)⟩, fun hc => absurd ((rpl hR).mpr p1) hc⟩
    rw [es, hs.1 45 (by unfold keep; decide), up_ne (by decide)]
    refine ⟨fun hc => absurd hc (by omega), fun _ => met_bad (by omega) ⟨_, rfl, ⟨_, rfl, rfl⟩, ?_⟩⟩
    have hs' : sc M (am_up M1 0 16 (M 0 16)) := by
      refine ⟨fun o ho => ?_, ?_, ?_⟩
      · by_cases e : o = 0
        · subst e
          rw [up_eq, hs.1 0 (by unfold keep; decide), up_eq]
          funext j
          unfold am_set
          by_cases e2 : j = 16
          · rw [if_pos e2, e2]
          · rw [if_neg e2, if_neg e2]
        · rw [up_ne e, hs.1 o ho, up_ne e]
      · rw [up_ne (by decide), hs.2.1, up_ne (by decide)]
      · rw [up_ne (by decide), hs.2.2, up_ne (by decide)]
    have hf := (hJ.sc hs').fd (x := 1)
    have e0 : am_up (am_up M1 0 16 (M 0 16)) 0 16 1 = M1 := by
      funext o
      by_cases e : o = 0
      · subst e
        rw [up_eq, up_eq, hs.1 0 (by unfold keep; decide), up_eq]
        funext j
        unfold am_set
        by_cases e2 : j = 16
        · rw [if_pos e2, if_pos e2]
        · rw [if_neg e2, if_neg e2, if_neg e2]
      · rw [up_ne e, up_ne e]
    rw [e0] at hf
    exact hf
  · obtain ⟨g7, g8⟩ := g6 (by omega)
    refine ct_measureJ hC (fun g r hg => ?_)
    have k5 : ∀ o, ¬ o = 11 → ¬ o = 12 → (am_ob (am_ob M 11 g) 12 r) o = M o := by intro o a b; rw [ob_ne b, ob_ne a]
    have k11 : (am_ob (am_ob M 11 g) 12 r) 11 = g := by rw [ob_ne (by decide), ob_eq]
    have s5 : sc M (am_ob (am_ob M 11 g) 12 r) := sc_md
    generalize am_ob (am_ob M 11 g) 12 r = M5 at *
    have hsx : sx (35 + s) := by unfold sx; omega
    have loop : ∀ (k i : Nat), (i : Int) + k = M 46 s → am_R K11_write (fun r1 M1 => S12_write [aR 44, aI v1, aI (s : Int)] M1 (fun r2 M2 => eqI r1 r2 ∧ J M2)) 48 [aR 0, aJ, aJ, aR (35 + s), aI (i : Int)] [] (am_ob M5 (35 + s + 4) (wrt (xD M) v1 (M 45 s) i (M (35 + s + 4)))) := by
      intro k
      induction k with
      | zero =>
        intro i hi
        refine g11_write_48 hsx ?_
        rw [ob_ne (show 35 + s ≠ 35 + s + 4 by omega), k5 (35 + s) (by omega) (by omega), g7]
        refine ⟨fun _ => ?_, fun hc => absurd hc (by omega)⟩
        have hT : JT (am_ob M5 (35 + s + 4) (wrt (xD M) v1 (M 45 s) i (M (35 + s + 4)))) := (hJ.sc s5).1.congr (fun o ho => ob_ne (by omega)) (by rw [ob_ne (by omega)])
        refine e12_write (ct_reads hT (fun M1 hs hR => ?_))
        have eD : xD M1 = xD M := by
          rw [hs.be.D]; unfold xD xn0
          rw [ob_ne (by omega), ob_ne (by omega), k5 2 (by omega) (by omega), k5 1 (by omega) (by omega)]
        have k1 : ∀ o, keep o → ¬ o = 35 + s + 4 → M1 o = M o := by
          intro o a b
          rw [hs.1 o a, ob_ne b]
          exact s5.1 o a
        have p2 : isP (xD M1) v1 := by rw [eD]; exact p1
        refine ⟨fun _ => ⟨fun _ => ⟨by omega, ?_⟩, fun hc => absurd hc (by omega)⟩, fun hc => absurd ((rpl hR).mpr p2) hc⟩
        rw [es, k1 45 (by unfold keep; decide) (by omega)]
        refine ⟨fun _ => ct_findNearR hR p2 (fun F hF => ?_), fun hc => absurd hc (by omega)⟩
        rw [eD] at hF
        have i64 : i ≤ 64 := by omega
        have f47 : M1 47 = M 47 := k1 47 (by unfold keep; decide) (by omega)
        have f45 : M1 45 = M 45 := k1 45 (by unfold keep; decide) (by omega)
        have f46 : M1 46 = M 46 := k1 46 (by unfold keep; decide) (by omega)
        have f39 : M1 (35 + s + 4) = wrt (xD M) v1 (M 45 s) i (M (35 + s + 4)) := by rw [hs.1 _ (by unfold keep; omega), ob_eq]
        have loop2 : ∀ (c j : Nat), j + c = i → am_R K12_write (fun r2 M2 => eqI (aI (M 46 s)) r2 ∧ J M2) 45 [aR 44, aJ, aI (s : Int), aI (j : Int)] [] (am_ob (am_ob M1 59 F) 47 (wr2 (xD M) v1 (M 45 s) s j (M 47))) := by
          intro c
          induction c with
          | zero =>
            intro j hj
            have ej : j = i := by omega
            subst ej
            refine g12_write_45 ?_
            rw [ob_ne (by decide : (46 : Nat) ≠ 47), ob_ne (by decide : (46 : Nat) ≠ 59), f46, es]
            refine ⟨by omega, fun _ => ⟨⟨_, rfl, rfl⟩, ?_⟩, fun hc => absurd hc (by omega)⟩
            -- the state behind it
            have q2 : ∀ o, ¬ o = 47 → ¬ o = 59 → (am_ob (am_ob M1 59 F) 47 (wr2 (xD M) v1 (M 45 s) s j (M 47))) o = M1 o := by intro o a b; rw [ob_ne a, ob_ne b]
            have q47 : (am_ob (am_ob M1 59 F) 47 (wr2 (xD M) v1 (M 45 s) s j (M 47))) 47 = wr2 (xD M) v1 (M 45 s) s j (M 47) := ob_eq
            generalize am_ob (am_ob M1 59 F) 47 (wr2 (xD M) v1 (M 45 s) s j (M 47)) = M3 at *
            have hb : sc M (fun o => if (35 ≤ o ∧ o ≤ 42) ∨ o = 45 ∨ o = 46 ∨ o = 47 ∨ o = 48 then M o else M3 o) := by
              refine ⟨fun o ho => ?_, ?_, ?_⟩
              · show (if (35 ≤ o ∧ o ≤ 42) ∨ o = 45 ∨ o = 46 ∨ o = 47 ∨ o = 48 then M o else M3 o) = M o
                by_cases c1 : (35 ≤ o ∧ o ≤ 42) ∨ o = 45 ∨ o = 46 ∨ o = 47 ∨ o = 48
                · rw [if_pos c1]
                · rw [if_neg c1, q2 o (by omega) (by unfold keep at ho; omega), k1 o ho (by omega)]
              · show (if (35 ≤ 44 ∧ 44 ≤ 42) ∨ 44 = 45 ∨ 44 = 46 ∨ 44 = 47 ∨ 44 = 48 then M 44 else M3 44) 4 = M 44 4
                rw [if_neg (by decide), q2 44 (by decide) (by decide), hs.2.1, ob_ne (by omega), s5.2.1]
              · show (if (35 ≤ 44 ∧ 44 ≤ 42) ∨ 44 = 45 ∨ 44 = 46 ∨ 44 = 47 ∨ 44 = 48 then M 44 else M3 44) 28 = M 44 28
                rw [if_neg (by decide), q2 44 (by decide) (by decide), hs.2.2, ob_ne (by omega), s5.2.2]
            refine (hJ.sc hb).she ?_ (fun o a b c d e => ?_)
            · refine JE.up (M := M) hs4 hE (fun t ht hne => ⟨?_, ?_, ?_, ?_, fun i2 hi2 => ?_⟩) ?_
              · rw [q2 _ (by omega) (by omega), k1 _ (by unfold keep; omega) (by omega)]
              · rw [q2 _ (by omega) (by omega), k1 _ (by unfold keep; omega) (by omega)]
              · rw [q2 _ (by omega) (by omega), f45]
              · rw [q2 _ (by omega) (by omega), f46]
              · rw [q47]; unfold wr2; rw [if_neg (by omega)]
              · rw [q2 (35 + s) (by omega) (by omega), q2 45 (by omega) (by omega), q2 46 (by omega) (by omega), q2 (35 + s + 4) (by omega) (by omega), q47, f45, f46, f39, k1 (35 + s) (by unfold keep; omega) (by omega)]
                refine ⟨g1, g2, g3, g4, g5, fun _ => ⟨g7, fun i2 hi2 => ?_⟩⟩
                have e2 : 64 * s + i2 - 64 * s = i2 := by omega
                rw [wrt_in (by omega)]
                unfold wr2
                rw [if_pos (by omega), e2]
            · show M3 o = if (35 ≤ o ∧ o ≤ 42) ∨ o = 45 ∨ o = 46 ∨ o = 47 ∨ o = 48 then M o else M3 o
              rw [if_neg (by omega)]
          | succ c ihc =>
            intro j hj
            have ej : ((j : Int)).toNat = j := rfl
            have ea : ((64 * (s : Int)) + (j : Int)).toNat = 64 * s + j := by omega
            refine g12_write_45 ?_
            rw [ob_ne (by decide : (46 : Nat) ≠ 47), ob_ne (by decide : (46 : Nat) ≠ 59), f46, es, ej, ob_ne (by decide : (51 : Nat) ≠ 47), ob_ne (by decide : (51 : Nat) ≠ 59), ob_ne (by decide : (59 : Nat) ≠ 47), ob_eq, ob_ne (by decide : (45 : Nat) ≠ 47), ob_ne (by decide : (45 : Nat) ≠ 59), f45, ea, hR.1 j (by omega), hF j (by omega), eD]
            refine ⟨by omega, fun hc => absurd hc (by omega), fun _ => ⟨by omega, by omega, by omega, fun x4 hx4 x5 hx5 => ⟨by omega, by omega, ?_⟩⟩⟩
            have ex4 : x4 = nr (xD M) v1 (j : Int) := by
              rw [hx4, rF_back (nr_rng (hdx M) _ _)]
              have hdj := hdx M j
              unfold fm
              by_cases e : xD M j = -1
              · rw [if_pos e, if_pos rfl]
                unfold nr; rw [if_neg (fun hx => hx.2.2.2 e)]
              · rw [if_neg e, if_neg (by omega)]
            rw [ex4] at hx5
            rw [up_ob_eq, wr2_set hx5]
            exact ihc (j + 1) (by omega)
        have := loop2 i 0 (by omega)
        have e0 : wr2 (xD M) v1 (M 45 s) s 0 (M 47) = (am_ob M1 59 F) 47 := by
          rw [ob_ne (by decide), f47]
          funext j; unfold wr2; rw [if_neg (by omega)]
        rw [ob_id' e0] at this
        exact this
      | succ k ih =>
        intro i hi
        have ei : ((i : Int)).toNat = i := rfl
        refine g11_write_48 hsx ?_
        rw [ob_ne (show 35 + s ≠ 35 + s + 4 by omega), k5 (35 + s) (by omega) (by omega), g7, ob_ne (show 11 ≠ 35 + s + 4 by omega), k11, st_in (by omega), ei, hg i (by omega)]
        refine ⟨fun hc => absurd hc (by omega), fun _ => e7_putItem hsx ?_⟩
        rw [ob_ne (show 35 + s ≠ 35 + s + 4 by omega), k5 (35 + s) (by omega) (by omega), g7, g1, ei]
        refine ⟨fun _ x4 hx4 => ⟨by omega, by omega, ?_⟩, fun hc => absurd hc (by omega)⟩
        rw [up_ob_eq, wrt_set hx4]
        exact ih (i + 1) (by omega)
    have := loop (M 46 s).toNat 0 (by omega)
    have e0 : wrt (xD M) v1 (M 45 s) 0 (M (35 + s + 4)) = M5 (35 + s + 4) := by
      rw [k5 _ (by omega) (by omega)]
      funext j; unfold wrt; rw [if_neg (by omega)]
    rw [ob_id' e0] at this
    exact this
