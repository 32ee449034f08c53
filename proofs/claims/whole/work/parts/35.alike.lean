/-! alike -/
def p6 : Nat → Nat
  | 0 => 1
  | k + 1 => p6 k * 16
theorem p6s (k : Nat) : p6 (k + 1) = p6 k * 16 := rfl
def hb_ (M : am_M) (i : Nat) : Int := M 56 (xO M i).toNat
def alL (M : am_M) : Nat → Nat
  | 0 => 1
  | k + 1 => alL M k * (hb_ M k).toNat
def alR (M : am_M) : Nat → Nat
  | 0 => 1
  | k + 1 => alR M k * (16 - hb_ M k).toNat
theorem hb_rng {M : am_M} (hH : JH M) (i : Nat) : 0 ≤ hb_ M i ∧ hb_ M i ≤ 16 := by
  have a := xO_rng M i
  exact (hH _ (by omega)).2
theorem al_rng {M : am_M} (hH : JH M) : ∀ k, k ≤ 5 → alL M k ≤ p6 k ∧ alR M k ≤ p6 k := by
  intro k
  induction k with
  | zero => intro _; unfold alL alR p6; omega
  | succ k ih =>
    intro hk
    have h := hb_rng hH k
    have h2 := ih (by omega)
    unfold alL alR
    rw [p6s]
    exact ⟨Nat.mul_le_mul h2.1 (by omega), Nat.mul_le_mul h2.2 (by omega)⟩
theorem p16 : ∀ k : Nat, k ≤ 5 → 1 ≤ p6 k ∧ p6 k ≤ 1048576 := by
  intro k hk
  have : k = 0 ∨ k = 1 ∨ k = 2 ∨ k = 3 ∨ k = 4 ∨ k = 5 := by omega
  rcases this with e | e | e | e | e | e <;> subst e <;> decide
theorem sc.al {M M' : am_M} (h : sc M M') : hb_ M' = hb_ M := by
  funext i; unfold hb_; rw [h.be.O, h.1 56 (by unfold keep; decide)]
theorem alL_eq {M M' : am_M} (h : hb_ M' = hb_ M) : ∀ k, alL M' k = alL M k ∧ alR M' k = alR M k := by
  intro k
  induction k with
  | zero => exact ⟨rfl, rfl⟩
  | succ k ih =>
    have a : alL M' (k + 1) = alL M' k * (hb_ M' k).toNat := rfl
    have b : alL M (k + 1) = alL M k * (hb_ M k).toNat := rfl
    have c : alR M' (k + 1) = alR M' k * (16 - hb_ M' k).toNat := rfl
    have d : alR M (k + 1) = alR M k * (16 - hb_ M k).toNat := rfl
    rw [a, b, c, d, ih.1, ih.2, h]
    exact ⟨rfl, rfl⟩
theorem al_step {M : am_M} (hH : JH M) {k : Nat} (hk : k < 5) : ((alL M k : Int) * hb_ M k = (alL M (k + 1) : Nat) ∧ (alR M k : Int) * (16 - hb_ M k) = (alR M (k + 1) : Nat) ∧ ((p6 k : Nat) : Int) * 16 = ((p6 (k + 1) : Nat) : Int)) ∧ alL M (k + 1) ≤ 1048576 ∧ alR M (k + 1) ≤ 1048576 ∧ p6 (k + 1) ≤ 1048576 := by
  have h := hb_rng hH k
  have r := al_rng hH (k + 1) (by omega)
  have p := p16 (k + 1) (by omega)
  have a : alL M (k + 1) = alL M k * (hb_ M k).toNat := rfl
  have c : alR M (k + 1) = alR M k * (16 - hb_ M k).toNat := rfl
  have e1 : hb_ M k = ((hb_ M k).toNat : Int) := by omega
  have e2 : 16 - hb_ M k = ((16 - hb_ M k).toNat : Int) := by omega
  refine ⟨⟨?_, ?_, ?_⟩, by omega, by omega, by omega⟩
  · rw [a, Int.natCast_mul, ← e1]
  · rw [c, Int.natCast_mul, ← e2]
  · rw [p6s, Int.natCast_mul]; rfl
theorem lc_alike {M : am_M} {v1 : Int} (hJ : J M) : S11_alike [aR 0, aI v1] M (fun r1 M1 => S12_alike [aR 44, aI v1] M1 (fun r2 M2 => eqL r1 r2 ∧ J M2)) := by
  have hC := hJ.1.1
  have hO := hC.2.2.1.2
  have hp := xP_le hC.1
  have hH := hJ.2.2.2.1
  have ref : ∀ v : Int, (v1 = 0 ∨ v1 = 1) → v = (if xP M = 0 then 1 else lt_ (alL M (xP M) + alR M (xP M)) (p6 (xP M)) v1) → S12_alike [aR 44, aI v1] M (fun r2 M2 => eqL (aL v) r2 ∧ J M2) := by
    intro v hv1 hv
    refine e12_alike (ct_reads hJ.1 (fun M1 hs hR => ⟨fun _ => ?_, fun hc => absurd hc (by omega)⟩))
    have hJ1 := hJ.sc hs
    have eP := hs.be.P
    have eA := alL_eq hs.al
    have hH1 := hJ1.2.2.2.1
    have loop : ∀ (k i : Nat), i + k = xP M → am_R K12_alikeOf (fun r7 M6 => ∃ x8 : Int, r7 = aL x8 ∧ eqL (aL v) (aL x8) ∧ J M6) 11 [aR 44, aI v1, aL (alL M1 i : Nat), aJ, aL (alR M1 i : Nat), aJ, aL ((p6 i : Nat) : Int), aJ, aI (i : Int)] [] M1 := by
      intro k
      induction k with
      | zero =>
        intro i hi
        refine g12_alikeOf_11 ?_
        rw [hR.2.1, eP]
        have r := al_rng hH1 i (by omega)
        have p := p16 i (by omega)
        have ei : i = xP M := by omega
        refine ⟨fun _ => ⟨fun h0 => ⟨_, rfl, ⟨_, rfl, ?_⟩, hJ1⟩, fun h0 => ⟨by omega, ?_⟩⟩, fun hc => absurd hc (by omega)⟩
        · rw [hv, if_pos (by omega)]
        · have e : (alL M1 i : Int) + (alR M1 i : Int) = ((alL M1 i + alR M1 i : Nat) : Int) := rfl
          rw [e]
          refine ct_part (by omega) ⟨_, rfl, _, rfl, ⟨_, rfl, ?_⟩, hJ1⟩
          rw [hv, if_neg (by omega), (eA i).1, (eA i).2, ei]
      | succ k ih =>
        intro i hi
        have ei : (i : Int).toNat = i := rfl
        have st := al_step hH1 (k := i) (by omega)
        have hr := hb_rng hH1 i
        have hx := xO_rng M1 i
        refine g12_alikeOf_11 ?_
        rw [hR.2.1, eP, ei, hR.2.2.1 i (by omega)]
        have eh : M1 56 (xO M1 i).toNat = hb_ M1 i := rfl
        rw [eh, st.1.1, st.1.2.1, st.1.2.2]
        refine ⟨fun hc => absurd hc (by omega), fun _ => ⟨by omega, by omega, by omega, fun x7 hx7 => ⟨by omega, by omega, fun x8 hx8 => ⟨by omega, fun x9 hx9 => ⟨by omega, ?_⟩⟩⟩⟩⟩
        rw [hx7, hx8, hx9]
        exact ih (i + 1) (by omega)
    exact e12_alikeOf (loop (xP M) 0 (by omega))
  refine e11_alike ⟨fun h1 => ?_, fun h1 => e12_alike (ct_reads hJ.1 (fun M1 hs hR => ⟨fun hc => absurd hc (by omega), fun _ => ⟨⟨_, rfl, rfl⟩, hJ.sc hs⟩⟩))⟩
  rw [hO.1]
  refine ⟨fun h0 => ref 1 h1 (by rw [if_pos (by omega)]), fun h0 => ?_⟩
  have loop : ∀ (k i : Nat), i + k = xP M → am_R K11_alike (fun r1 M1 => S12_alike [aR 44, aI v1] M1 (fun r2 M2 => eqL r1 r2 ∧ J M2)) 36 [aR 0, aI v1, aL (alL M i : Nat), aJ, aL (alR M i : Nat), aJ, aL ((p6 i : Nat) : Int), aJ, aI (i : Int), aJ] [] M := by
    intro k
    induction k with
    | zero =>
      intro i hi
      have r := al_rng hH i (by omega)
      have p := p16 i (by omega)
      have ei : i = xP M := by omega
      refine g11_alike_36 ?_
      rw [hO.1]
      refine ⟨fun _ => ⟨by omega, ?_⟩, fun hc => absurd hc (by omega)⟩
      have e : (alL M i : Int) + (alR M i : Int) = ((alL M i + alR M i : Nat) : Int) := rfl
      rw [e]
      refine ct_lowest (by omega) (by omega) ⟨_, rfl, ref _ h1 ?_⟩
      rw [if_neg (by omega), ei]
    | succ k ih =>
      intro i hi
      have ei : (i : Int).toNat = i := rfl
      have st := al_step hH (k := i) (by omega)
      have hr := hb_rng hH i
      have hx := xO_rng M i
      have ew : f_3_habitOf (M 17) (f_3_whoGoes (M 15) (M 19) (i : Int)) = hb_ M i := by
        have : f_3_whoGoes (M 15) (M 19) (i : Int) = xO M i := by
          unfold f_3_whoGoes
          rw [hO.1, if_neg (by omega), if_neg (by omega), if_neg (by omega)]
          exact hO.2 i (by omega)
        rw [this]
        unfold f_3_habitOf
        rw [if_pos (by omega)]
        exact (hH _ (by omega)).1
      refine g11_alike_36 ?_
      rw [hO.1, ew]
      refine ⟨fun hc => absurd hc (by omega), fun _ x6 hx6 => ?_⟩
      rw [hx6, st.1.1, st.1.2.1, st.1.2.2]
      refine ⟨by omega, fun x7 hx7 => ⟨by omega, by omega, fun x8 hx8 => ⟨by omega, fun x9 hx9 => ⟨by omega, ?_⟩⟩⟩⟩
      rw [hx7, hx8, hx9]
      exact ih (i + 1) (by omega)
  exact loop (xP M) 0 (by omega)
