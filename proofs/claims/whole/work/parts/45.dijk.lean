/-! the class's tolls -/
theorem ofInt_w64 (y : Int) : BitVec.ofInt 64 (w64 y) = BitVec.ofInt 64 y := by
  apply BitVec.eq_of_toNat_eq
  rw [BitVec.toNat_ofInt, BitVec.toNat_ofInt]
  congr 1
  unfold w64
  show ((y + 9223372036854775808) % 18446744073709551616 - 9223372036854775808) % 18446744073709551616 = y % 18446744073709551616
  omega
theorem land1 (x : BitVec 64) : (x &&& 1#64).toInt = 0 ↔ x.toNat % 2 = 0 := by
  have h1 : (x &&& 1#64).toInt = 0 ↔ (x &&& 1#64) = 0#64 := by
    constructor
    · intro h; apply BitVec.eq_of_toInt_eq; rw [h]; rfl
    · intro h; rw [h]; rfl
  rw [h1]
  constructor
  · intro h
    have := congrArg BitVec.toNat h
    rw [BitVec.toNat_and] at this
    have e : (1#64).toNat = 1 := rfl
    rw [e, Nat.and_one_is_mod] at this
    exact this
  · intro h
    apply BitVec.eq_of_toNat_eq
    rw [BitVec.toNat_and]
    have e : (1#64).toNat = 1 := rfl
    rw [e, Nat.and_one_is_mod, h]; rfl
/-- not settled -/
def op_ (S : Int) (p : Nat) : Prop := am_land (am_lushr S (p : Int)) 1 = 0
theorem op_bit (S : Int) (p : Nat) : op_ S p ↔ (BitVec.ofInt 64 S).getLsbD p = false := by
  unfold op_ am_land am_lushr
  have e1 : BitVec.ofInt 64 1 = 1#64 := rfl
  rw [e1, land1, ofInt_w64]
  have e2 : S % 18446744073709551616 = (((BitVec.ofInt 64 S).toNat : Nat) : Int) := by
    rw [BitVec.toNat_ofInt]
    show S % 18446744073709551616 = (((S % 18446744073709551616).toNat : Nat) : Int)
    omega
  rw [e2]
  have e3 : ((p : Int)).toNat = p := rfl
  have e4 : (2 : Int) ^ p = ((2 ^ p : Nat) : Int) := by rw [Int.natCast_pow]; rfl
  rw [e3, e4]
  have e5 : (((BitVec.ofInt 64 S).toNat : Nat) : Int) / ((2 ^ p : Nat) : Int) = (((BitVec.ofInt 64 S).toNat / 2 ^ p : Nat) : Int) := rfl
  rw [e5, BitVec.ofInt_natCast, BitVec.toNat_ofNat, BitVec.getLsbD, Nat.testBit_eq_decide_div_mod_eq]
  have hlt : (BitVec.ofInt 64 S).toNat / 2 ^ p < 2 ^ 64 := Nat.lt_of_le_of_lt (Nat.div_le_self _ _) (BitVec.isLt _)
  rw [Nat.mod_eq_of_lt hlt, decide_eq_false_iff_not]
  omega
theorem op_zero (p : Nat) : op_ 0 p := by
  rw [op_bit]
  have e : BitVec.ofInt 64 0 = 0#64 := rfl
  rw [e, BitVec.getLsbD_zero]
theorem op_set (S : Int) {p h : Nat} (hh : h < 64) : op_ (am_lor S (am_lshl 1 (h : Int))) p ↔ (p ≠ h ∧ op_ S p) := by
  rw [op_bit, op_bit]
  unfold am_lor am_lshl
  rw [BitVec.ofInt_toInt, ofInt_w64, BitVec.getLsbD_or]
  have e3 : ((h : Int)).toNat = h := rfl
  have e4 : (1 : Int) * (2 : Int) ^ h = ((2 ^ h : Nat) : Int) := by rw [Int.one_mul, Int.natCast_pow]; rfl
  rw [e3, e4, BitVec.ofInt_natCast]
  have e5 : (BitVec.ofNat 64 (2 ^ h)).getLsbD p = decide (h = p) := by
    rw [BitVec.getLsbD, BitVec.toNat_ofNat, Nat.mod_eq_of_lt (Nat.pow_lt_pow_right (by decide) hh), Nat.testBit_two_pow]
  rw [e5]
  by_cases c : h = p
  · simp [c]
  · have c2 : p ≠ h := fun e => c e.symm
    simp [c, c2]
def cS (S : Int) : Nat → Int := fun j => if am_land (am_lushr S (j : Int)) 1 = 0 then -1 else 0
theorem cS_op {S : Int} {j : Nat} : cS S j = -1 ↔ op_ S j := by
  unfold cS op_
  by_cases c : am_land (am_lushr S (j : Int)) 1 = 0
  · rw [if_pos c]; exact ⟨fun _ => c, fun _ => rfl⟩
  · rw [if_neg c]; exact ⟨fun h => absurd h (by decide), fun h => absurd h c⟩
theorem cS_set {S : Int} {h : Nat} (hh : h < 64) (ho : op_ S h) : cntP (cS (am_lor S (am_lshl 1 (h : Int)))) 64 = cntP (cS S) 64 + 1 := by
  have e : cS (am_lor S (am_lshl 1 (h : Int))) = am_set (cS S) h 0 := by
    funext j
    by_cases c : j = h
    · subst c
      rw [set_eq]
      have : ¬ cS (am_lor S (am_lshl 1 (j : Int))) j = -1 := by rw [cS_op, op_set S hh]; exact fun hx => hx.1 rfl
      unfold cS at *
      split at this
      · exact absurd rfl this
      · rw [if_neg (by assumption)]
    · rw [set_ne c]
      by_cases c2 : op_ S j
      · rw [cS_op.mpr c2, cS_op.mpr ((op_set S hh).mpr ⟨c, c2⟩)]
      · have h1 : ¬ op_ (am_lor S (am_lshl 1 (h : Int))) j := fun hx => c2 ((op_set S hh).mp hx).2
        unfold op_ at c2 h1
        unfold cS
        rw [if_neg c2, if_neg h1]
  rw [e, cnt_set (cS_op.mpr ho) (by decide), if_pos hh]
theorem ct_cheapest {q : am_Q} {M : am_M} {T : Nat → Int} {S : Int} (h14 : M 14 = T) (h13 : M 13 2 = S) (hT : ∀ j, j < 64 → 0 ≤ T j ∧ T j ≤ 1073741824)
    (h0 : (∀ j, j < 64 → op_ S j → 1073741824 ≤ T j) → q (aI (-1)) M) (h1 : ∀ h : Nat, h < 64 → op_ S h → T h < 1073741824 → (∀ j, j < 64 → op_ S j → T h ≤ T j) → q (aI (h : Int)) M) : S1_cheapestOpen [aR 13] M q := by
  have loop : ∀ (a i : Nat) (v1 v2 : Int), i + a = 64 → ((v1 = -1 ∧ v2 = 1073741824 ∧ ∀ j, j < i → op_ S j → 1073741824 ≤ T j) ∨ (∃ h : Nat, v1 = (h : Int) ∧ h < i ∧ op_ S h ∧ v2 = T h ∧ T h < 1073741824 ∧ ∀ j, j < i → op_ S j → T h ≤ T j)) → am_R K1_cheapestOpen q 7 [aR 13, aI v1, aI v2, aI (i : Int)] [] M := by
    intro a
    induction a with
    | zero =>
      intro i v1 v2 hi hv
      refine g1_cheapestOpen_7 ⟨fun _ => ?_, fun hc => absurd hc (by omega)⟩
      rcases hv with ⟨e1, e2, e3⟩ | ⟨h, e1, e2, e3, e4, e5, e6⟩
      · rw [e1]; exact h0 (fun j hj => e3 j (by omega))
      · rw [e1]; exact h1 h (by omega) e3 e5 (fun j hj => e6 j (by omega))
    | succ a ih =>
      intro i v1 v2 hi hv
      have ei : ((i : Int)).toNat = i := rfl
      have hTi := hT i (by omega)
      refine g1_cheapestOpen_7 ?_
      rw [ei, h14, h13]
      refine ⟨fun hc => absurd hc (by omega), fun _ => ⟨by omega, fun x4 hx4 x5 hx5 => ⟨by omega, ih (i + 1) x4 x5 (by omega) ?_⟩⟩⟩
      by_cases c1 : v2 ≤ T i
      · rw [if_pos c1] at hx4 hx5
        rw [hx4, hx5]
        rcases hv with ⟨e1, e2, e3⟩ | ⟨h, e1, e2, e3, e4, e5, e6⟩
        · left
          refine ⟨e1, e2, fun j hj ho => ?_⟩
          by_cases c : j = i
          · rw [c]; omega
          · exact e3 j (by omega) ho
        · right
          refine ⟨h, e1, by omega, e3, e4, e5, fun j hj ho => ?_⟩
          by_cases c : j = i
          · rw [c]; omega
          · exact e6 j (by omega) ho
      · rw [if_neg c1] at hx4 hx5
        by_cases c2 : op_ S i
        · unfold op_ at c2
          rw [if_pos c2] at hx4 hx5
          rw [hx4, hx5]
          right
          refine ⟨i, rfl, by omega, c2, rfl, ?_, fun j hj ho => ?_⟩
          · rcases hv with ⟨e1, e2, e3⟩ | ⟨h, e1, e2, e3, e4, e5, e6⟩ <;> omega
          · by_cases c : j = i
            · rw [c]; exact Int.le_refl _
            · rcases hv with ⟨e1, e2, e3⟩ | ⟨h, e1, e2, e3, e4, e5, e6⟩
              · have := e3 j (by omega) ho; omega
              · have := e6 j (by omega) ho; omega
        · have c2' := c2
          unfold op_ at c2'
          rw [if_neg c2'] at hx4 hx5
          rw [hx4, hx5]
          rcases hv with ⟨e1, e2, e3⟩ | ⟨h, e1, e2, e3, e4, e5, e6⟩
          · left
            refine ⟨e1, e2, fun j hj ho => ?_⟩
            by_cases c : j = i
            · rw [c] at ho; exact absurd ho c2
            · exact e3 j (by omega) ho
          · right
            refine ⟨h, e1, by omega, e3, e4, e5, fun j hj ho => ?_⟩
            by_cases c : j = i
            · rw [c] at ho; exact absurd ho c2
            · exact e6 j (by omega) ho
  exact e1_cheapestOpen (loop 64 0 (-1) 1073741824 (by omega) (Or.inl ⟨rfl, rfl, fun j hj => by omega⟩))
def dI (d : Nat → Int) (q : Int) (T : Nat → Int) : Prop := T q.toNat = 0 ∧ (∀ p, isP d p → T p.toNat = 1073741824 ∨ ∃ (n : Nat) (c : Int), wk d q n c p ∧ T p.toNat = 64 * c + n) ∧ (∀ j, j < 64 → 0 ≤ T j ∧ T j ≤ 1073741824) ∧ ∀ j, j < 64 → d j = -1 → T j = 1073741824
def dO (T : Nat → Int) (S : Int) : Prop := (∀ r p, r < 64 → p < 64 → ¬ op_ S r → op_ S p → T r ≤ T p) ∧ ∀ r, r < 64 → ¬ op_ S r → T r < 1073741824
def dC (d T : Nat → Int) (r l : Nat) : Prop := ∀ l' : Nat, l' < l → ¬ bs d (r : Int) (l' : Int) = -1 → T (bs d (r : Int) (l' : Int)).toNat ≤ T r + 64 * d r + 1
theorem dens_in {d : Nat → Int} {p : Int} (h : isP d p) : f_2_densityOf d p = d p.toNat := by
  unfold f_2_densityOf
  obtain ⟨a, b, c⟩ := h
  rw [if_neg (by omega), if_neg (by omega), if_neg c]
theorem ct_measureTo {q : am_Q} {M : am_M} {d : Nat → Int} {v1 : Int} (h8 : M 8 = d) (h9 : M 9 = nbT d) (hd : dR d) (hq : isP d v1)
    (h : ∀ s T : Nat → Int, (∀ p, isP d p → T p.toNat = if fF d 64 v1 p = -1 then 1073741824 else fF d 64 v1 p) → (∀ j, j < 64 → d j = -1 → T j = 1073741824) → q aJ (am_ob (am_ob M 13 s) 14 T)) : S1_measureTo [aR 13, aI v1] M q := by
  have m8 : ∀ s T : Nat → Int, (am_ob (am_ob M 13 s) 14 T) 8 = d := fun s T => by rw [ob_ne (by decide), ob_ne (by decide), h8]
  have m9 : ∀ s T : Nat → Int, (am_ob (am_ob M 13 s) 14 T) 9 = nbT d := fun s T => by rw [ob_ne (by decide), ob_ne (by decide), h9]
  have m13 : ∀ s T : Nat → Int, (am_ob (am_ob M 13 s) 14 T) 13 = s := fun s T => by rw [ob_ne (by decide), ob_eq]
  have m14 : ∀ s T : Nat → Int, (am_ob (am_ob M 13 s) 14 T) 14 = T := fun s T => ob_eq
  have fin : ∀ s T : Nat → Int, dI d v1 T → (∀ r, r < 64 → ¬ op_ (s 2) r → dC d T r 4) → (∀ r, r < 64 → op_ (s 2) r → 1073741824 ≤ T r) → q aJ (am_ob (am_ob M 13 s) 14 T) := by
    intro s T hI hC hO
    refine h s T ?_ hI.2.2.2
    refine F_fix hd (by decide) (by decide) hI.1 (fun p hp l hl hb => ?_) hI.2.1
    have hr := bs_pl hb
    have r1 := hr.1
    have r2 := hr.2.1
    have p1 := hp.1
    have p2 := hp.2.1
    have er : (((bs d p (l : Int)).toNat : Nat) : Int) = bs d p (l : Int) := by omega
    have hTp := hI.2.2.1 p.toNat (by omega)
    by_cases c : op_ (s 2) (bs d p (l : Int)).toNat
    · have := hO _ (by omega) c
      have hdr := hd (bs d p (l : Int)).toNat
      have := hr.2.2
      omega
    · obtain ⟨l', hl', hb'⟩ := bs_sym hp hl hb
      have := hC _ (by omega) c l' hl' (by rw [er, hb']; omega)
      rw [er, hb'] at this
      exact this
  have round : ∀ (a n : Nat) (s T : Nat → Int), n + a = 64 → cntP (cS (s 2)) 64 = (n : Int) → dI d v1 T → dO T (s 2) → (∀ r, r < 64 → ¬ op_ (s 2) r → dC d T r 4) → am_R K1_measureTo q 34 [aR 13, aJ, aI (n : Int), aJ, aJ, aJ, aJ] [] (am_ob (am_ob M 13 s) 14 T) := by
    intro a
    induction a with
    | zero =>
      intro n s T hn hc hI hO hC
      refine g1_measureTo_34 ⟨fun _ => fin s T hI hC (fun r hr ho => ?_), fun hx => absurd hx (by omega)⟩
      have := cnt_63 (f := cS (s 2)) hr (cS_op.mpr ho)
      omega
    | succ a ih =>
      intro n s T hn hc hI hO hC
      refine g1_measureTo_34 ⟨fun hx => absurd hx (by omega), fun _ => ct_cheapest (m14 s T) (by rw [m13]) hI.2.2.1 (fun hno => ⟨_, rfl, fun hx => absurd hx (by omega), fun _ => fin s T hI hC hno⟩) (fun hh h64 hop hlt hmin => ?_)⟩
      have eh : ((hh : Int)).toNat = hh := rfl
      have hpl : ¬ d hh = -1 := fun e => by have := hI.2.2.2 hh h64 e; omega
      have hPh : isP d (hh : Int) := ⟨by omega, by omega, hpl⟩
      have hdh := hd hh
      have hTh := hI.2.2.1 hh h64
      refine ⟨_, rfl, fun _ => ⟨by omega, fun x7 hx7 => ?_⟩, fun hx => absurd hx (by omega)⟩
      have et : f_1_tollInto d (hh : Int) = d hh * 64 + 1 := by unfold f_1_tollInto; rw [dens_in hPh]; rfl
      have eo : ob_1_tollInto d (hh : Int) := by unfold ob_1_tollInto; rw [dens_in hPh, eh]; omega
      rw [m8, m14, eh, et]
      rw [m13] at hx7
      refine ⟨eo, by omega, fun x8 hx8 => ?_⟩
      have e13 : am_up (am_ob (am_ob M 13 s) 14 T) 13 2 x7 = am_ob (am_ob M 13 (am_set s 2 x7)) 14 T := by rw [up_ob_ne (by decide), up_ob_eq]
      rw [e13]
      have s2 : am_set s 2 x7 2 = am_lor (s 2) (am_lshl 1 (hh : Int)) := by rw [set_eq, hx7]
      have hop' : ∀ p, op_ (am_set s 2 x7 2) p ↔ (p ≠ hh ∧ op_ (s 2) p) := fun p => by rw [s2]; exact op_set (s 2) h64
      have hcn : cntP (cS (am_set s 2 x7 2)) 64 = ((n + 1 : Nat) : Int) := by rw [s2, cS_set h64 hop, hc]; rfl
      generalize am_set s 2 x7 = s' at *
      have relax : ∀ (b l : Nat) (T' : Nat → Int), l + b = 4 → dI d v1 T' → dO T' (s' 2) → (∀ r, r < 64 → ¬ op_ (s' 2) r → ¬ r = hh → dC d T' r 4) → dC d T' hh l → x8 = T' hh + 64 * d hh + 1 → (∀ r, r < 64 → ¬ op_ (s' 2) r → T' r ≤ T' hh) → am_R K1_measureTo q 82 [aR 13, aJ, aI (n : Int), aI (hh : Int), aI x8, aI (l : Int), aJ] [] (am_ob (am_ob M 13 s') 14 T') := by
        intro b
        induction b with
        | zero =>
          intro l T' hl hI' hO' hC' hCh hx hmx
          have el : l = 4 := by omega
          subst el
          refine g1_measureTo_82 ⟨fun _ => ⟨by omega, ih (n + 1) s' T' (by omega) hcn hI' hO' (fun r hr ho => ?_)⟩, fun hx => absurd hx (by omega)⟩
          by_cases c : r = hh
          · rw [c]; exact hCh
          · exact hC' r hr ho c
        | succ b ihb =>
          intro l T' hl hI' hO' hC' hCh hx hmx
          refine g1_measureTo_82 ?_
          rw [m9, m14]
          refine ⟨fun hx => absurd hx (by omega), fun _ => ⟨ob_bs (by omega) (by omega) (by omega) (by omega), fun x2 hx2 => ?_⟩⟩
          have hx2' : x2 = bs d (hh : Int) (l : Int) := hx2
          have hrng := bs_rng d (hh : Int) (l : Int)
          have skip : (¬ x2 = -1 → T' x2.toNat ≤ x8) → am_R K1_measureTo q 82 [aR 13, aJ, aI (n : Int), aI (hh : Int), aI x8, aI ((l : Int) + 1), aJ] [] (am_ob (am_ob M 13 s') 14 T') := by
            intro hs
            refine ihb (l + 1) T' (by omega) hI' hO' hC' (fun l' hl' hb' => ?_) hx hmx
            by_cases c : l' = l
            · subst c
              rw [← hx2'] at hb' ⊢
              have := hs hb'
              omega
            · exact hCh l' (by omega) hb'
          refine ⟨fun hin => ⟨by omega, fun hle => ⟨by omega, skip (fun _ => hle)⟩, fun hgt => ⟨by omega, ?_⟩⟩, fun hout => ⟨by omega, skip (fun hne => by omega)⟩⟩
          have hb : ¬ bs d (hh : Int) (l : Int) = -1 := by omega
          have hP2 := bs_pl hb
          rw [← hx2'] at hP2
          have hx264 : x2.toNat < 64 := by omega
          have ex2 : ((x2.toNat : Nat) : Int) = x2 := by omega
          have hTh' := hI'.2.2.1 hh h64
          have hopx : op_ (s' 2) x2.toNat := by
            by_cases c : op_ (s' 2) x2.toNat
            · exact c
            · have := hmx _ hx264 c; omega
          have hnh : ¬ op_ (s' 2) hh := fun hx => ((hop' hh).mp hx).1 rfl
          have hne : ∀ r, ¬ op_ (s' 2) r → r ≠ x2.toNat := fun r hr e => hr (e ▸ hopx)
          have hle : ∀ j, am_set T' x2.toNat x8 j ≤ T' j := by
            intro j
            unfold am_set
            by_cases c : j = x2.toNat
            · rw [if_pos c, c]; omega
            · rw [if_neg c]; exact Int.le_refl _
          rw [up_ob_eq]
          have hT2 := hI'.2.2.1 x2.toNat hx264
          refine ihb (l + 1) _ (by omega) ⟨?_, ?_, ?_, ?_⟩ ⟨?_, ?_⟩ ?_ ?_ ?_ ?_
          · have : v1.toNat ≠ x2.toNat := by intro e; have := hI'.1; rw [e] at this; omega
            rw [set_ne this]; exact hI'.1
          · intro p hp
            by_cases c : p.toNat = x2.toNat
            · right
              have ep : p = x2 := by have := hp.1; omega
              rw [c, set_eq]
              rcases hI'.2.1 (hh : Int) hPh with w | ⟨n0, c0, w1, w2⟩
              · rw [eh] at w; have := (hO'.2 hh h64 hnh); omega
              · rw [eh] at w2
                obtain ⟨l', hl', hb'⟩ := bs_sym hPh (show l < 4 by omega) hb
                rw [← hx2'] at hb'
                refine ⟨n0 + 1, c0 + d hh, ?_, ?_⟩
                · rw [ep]
                  refine ⟨l', hl', by rw [hb']; omega, ?_⟩
                  rw [hb', eh, show c0 + d hh - d hh = c0 by omega]
                  exact w1
                · have : ((n0 + 1 : Nat) : Int) = (n0 : Int) + 1 := rfl
                  omega
            · rw [set_ne c]; exact hI'.2.1 p hp
          · intro j hj
            by_cases c : j = x2.toNat
            · rw [c, set_eq]; omega
            · rw [set_ne c]; exact hI'.2.2.1 j hj
          · intro j hj hjd
            by_cases c : j = x2.toNat
            · exact absurd (c ▸ hjd) hP2.2.2
            · rw [set_ne c]; exact hI'.2.2.2 j hj hjd
          · intro r p hr hp hnr hop2
            rw [set_ne (hne r hnr)]
            by_cases c : p = x2.toNat
            · rw [c, set_eq]; have := hmx r hr hnr; omega
            · rw [set_ne c]; exact hO'.1 r p hr hp hnr hop2
          · intro r hr hnr
            rw [set_ne (hne r hnr)]; exact hO'.2 r hr hnr
          · intro r hr hnr hrh l' hl' hb'
            rw [set_ne (hne r hnr)]
            have := hC' r hr hnr hrh l' hl' hb'
            have := hle (bs d (r : Int) (l' : Int)).toNat
            omega
          · intro l' hl' hb'
            rw [set_ne (hne hh hnh)]
            by_cases c : l' = l
            · subst c
              rw [← hx2', set_eq]; omega
            · have := hCh l' (by omega) hb'
              have := hle (bs d (hh : Int) (l' : Int)).toNat
              omega
          · rw [set_ne (hne hh hnh)]; exact hx
          · intro r hr hnr
            rw [set_ne (hne r hnr), set_ne (hne hh hnh)]; exact hmx r hr hnr
      refine relax 4 0 T (by omega) hI ⟨fun r p hr hp hnr hop2 => ?_, fun r hr hnr => ?_⟩ (fun r hr hnr hrh => ?_) (fun l' hl' => by omega) (by omega) (fun r hr hnr => ?_)
      · have hp2 := ((hop' p).mp hop2).2
        by_cases c : r = hh
        · rw [c]; exact hmin p hp hp2
        · exact hO.1 r p hr hp (fun hx => hnr ((hop' r).mpr ⟨c, hx⟩)) hp2
      · by_cases c : r = hh
        · rw [c]; exact hlt
        · exact hO.2 r hr (fun hx => hnr ((hop' r).mpr ⟨c, hx⟩))
      · exact hC r hr (fun hx => hnr ((hop' r).mpr ⟨hrh, hx⟩))
      · by_cases c : r = hh
        · rw [c]; exact Int.le_refl _
        · exact hO.1 r hh hr h64 (fun hx => hnr ((hop' r).mpr ⟨c, hx⟩)) hop
  refine e1_measureTo (ct_fillI (N := 64) rfl (by decide) ?_)
  have q1 := hq.1
  have q2 := hq.2.1
  have ev : ((v1.toNat : Nat) : Int) = v1 := by omega
  rw [ob_ne (by decide : (8 : Nat) ≠ 14), h8]
  refine ⟨fun _ => ⟨by omega, ?_⟩, fun hx => absurd (show ¬ (v1 < 0) ∧ (¬ (64 ≤ v1) ∧ ¬ (d v1.toNat = -1)) from ⟨by omega, by omega, hq.2.2⟩) hx⟩
  have e0 : am_up (am_up (am_ob M 14 (am_fl (M 14) 64 1073741824)) 13 2 0) 14 v1.toNat 0 = am_ob (am_ob M 13 (am_set (M 13) 2 0)) 14 (am_set (am_fl (M 14) 64 1073741824) v1.toNat 0) := by
    rw [up_ob_ne (by decide), up_ob_eq, up_as]
  rw [e0]
  have fl : ∀ j, j < 64 → am_fl (M 14) 64 1073741824 j = 1073741824 := fun j hj => by unfold am_fl; rw [if_pos hj]
  have s0 : am_set (M 13) 2 0 2 = 0 := set_eq
  refine round 64 0 _ _ (by omega) ?_ ⟨?_, ?_, ?_, ?_⟩ ⟨?_, ?_⟩ ?_
  · rw [s0]
    have hz : ∀ n, cntP (cS 0) n = 0 := by
      intro n
      induction n with
      | zero => rfl
      | succ n ih =>
        show cntP _ n + (if cS 0 n = -1 then 0 else 1) = 0
        rw [ih, if_pos (cS_op.mpr (op_zero n))]; rfl
    rw [hz]; rfl
  · exact set_eq
  · intro p hp
    by_cases c : p.toNat = v1.toNat
    · right; rw [c, set_eq]; exact ⟨0, 0, ⟨by have := hp.1; omega, rfl⟩, rfl⟩
    · left; rw [set_ne c, fl _ (by have := hp.2.1; have := hp.1; omega)]
  · intro j hj
    by_cases c : j = v1.toNat
    · rw [c, set_eq]; omega
    · rw [set_ne c, fl j hj]; omega
  · intro j hj hjd
    by_cases c : j = v1.toNat
    · exact absurd (c ▸ hjd) hq.2.2
    · rw [set_ne c, fl j hj]
  · intro r p _ _ hn _
    rw [s0] at hn; exact absurd (op_zero r) hn
  · intro r _ hn
    rw [s0] at hn; exact absurd (op_zero r) hn
  · intro r _ hn
    rw [s0] at hn; exact absurd (op_zero r) hn
