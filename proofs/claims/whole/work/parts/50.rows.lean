/-! rows: pure -/
def hasB (s d : Nat) : Prop := ¬ am_and (am_shr (s : Int) (d : Int)) 1 = 0
def rm (s d : Nat) : Nat := (am_and (s : Int) (am_xor (am_shl 1 (d : Int)) (-1))).toNat
def sub_ (b a : Nat) : Prop := am_and (b : Int) (am_xor (a : Int) (-1)) = 0
theorem rm_fin : ∀ s : Fin 32, ∀ d : Fin 5, (0 ≤ am_and (s.val : Int) (am_xor (am_shl 1 (d.val : Int)) (-1)) ∧ am_and (s.val : Int) (am_xor (am_shl 1 (d.val : Int)) (-1)) < 32) ∧ (¬ am_and (am_shr (s.val : Int) (d.val : Int)) 1 = 0 → am_and (s.val : Int) (am_xor (am_shl 1 (d.val : Int)) (-1)) < (s.val : Int) ∧ cb (am_and (s.val : Int) (am_xor (am_shl 1 (d.val : Int)) (-1))) = cb (s.val : Int) - 1) := by decide +kernel
theorem rm_f {s d : Nat} (hs : s < 32) (hd : d < 5) : ((rm s d : Nat) : Int) = am_and (s : Int) (am_xor (am_shl 1 (d : Int)) (-1)) ∧ rm s d < 32 ∧ (hasB s d → rm s d < s ∧ cb (rm s d : Nat) = cb (s : Nat) - 1) := by
  have h := rm_fin ⟨s, hs⟩ ⟨d, hd⟩
  have h1 : (0 ≤ am_and (s : Int) (am_xor (am_shl 1 (d : Int)) (-1)) ∧ am_and (s : Int) (am_xor (am_shl 1 (d : Int)) (-1)) < 32) ∧ (hasB s d → am_and (s : Int) (am_xor (am_shl 1 (d : Int)) (-1)) < (s : Int) ∧ cb (am_and (s : Int) (am_xor (am_shl 1 (d : Int)) (-1))) = cb (s : Int) - 1) := h
  have e : ((rm s d : Nat) : Int) = am_and (s : Int) (am_xor (am_shl 1 (d : Int)) (-1)) := by unfold rm; omega
  refine ⟨e, by omega, fun hb => ?_⟩
  have h2 := h1.2 hb
  rw [← e] at h2
  exact ⟨by omega, h2.2⟩
theorem some_fin : ∀ s : Fin 32, s.val = 0 ∨ ∃ d : Fin 5, ¬ am_and (am_shr (s.val : Int) (d.val : Int)) 1 = 0 := by decide +kernel
theorem some_b {s : Nat} (hs : s < 32) (h0 : ¬ s = 0) : ∃ d, d < 5 ∧ hasB s d := by
  rcases some_fin ⟨s, hs⟩ with e | ⟨d, hd⟩
  · exact absurd e h0
  · exact ⟨d.val, d.isLt, hd⟩
theorem zero_b {d : Nat} (hd : d < 5) : ¬ hasB 0 d := by
  have : ∀ d : Fin 5, am_and (am_shr ((0 : Nat) : Int) (d.val : Int)) 1 = 0 := by decide +kernel
  exact fun h => h (this ⟨d, hd⟩)
theorem or_fin : ∀ s h : Fin 32, ∀ d : Fin 5, cb (h.val : Int) < cb (s.val : Int) → (am_or (h.val : Int) (am_shl 1 (d.val : Int)) = (s.val : Int) ↔ (¬ am_and (am_shr (s.val : Int) (d.val : Int)) 1 = 0 ∧ (h.val : Int) = am_and (s.val : Int) (am_xor (am_shl 1 (d.val : Int)) (-1)))) := by decide +kernel
theorem or_fin2 : ∀ h : Fin 32, ∀ d : Fin 5, 0 ≤ am_or (h.val : Int) (am_shl 1 (d.val : Int)) ∧ am_or (h.val : Int) (am_shl 1 (d.val : Int)) < 32 ∧ cb (am_or (h.val : Int) (am_shl 1 (d.val : Int))) ≤ cb (h.val : Int) + 1 := by decide +kernel
theorem cb_zero : ∀ s : Fin 32, cb (s.val : Int) = 0 → s.val = 0 := by decide +kernel
theorem sub_fin : ∀ b a : Fin 32, ∀ d : Fin 5, am_and (b.val : Int) (am_xor (a.val : Int) (-1)) = 0 → am_and (am_and (b.val : Int) (am_xor (am_shl 1 (d.val : Int)) (-1))) (am_xor (a.val : Int) (-1)) = 0 := by decide +kernel
theorem sub_rm {b a d : Nat} (hb : b < 32) (ha : a < 32) (hd : d < 5) (h : sub_ b a) : sub_ (rm b d) a := by
  unfold sub_
  rw [(rm_f hb hd).1]
  exact sub_fin ⟨b, hb⟩ ⟨a, ha⟩ ⟨d, hd⟩ h
theorem sub_self_fin : ∀ a : Fin 32, am_and (a.val : Int) (am_xor (a.val : Int) (-1)) = 0 ∧ am_and ((0 : Nat) : Int) (am_xor (a.val : Int) (-1)) = 0 := by decide +kernel
theorem cb_rng (s : Int) : 0 ≤ cb s ∧ cb s ≤ 5 := by unfold cb; omega
def vl : Nat → Nat → Nat → Prop
  | 0, s, _ => s = 0
  | m + 1, s, c => hasB s (c / 5 ^ m) ∧ vl m (rm s (c / 5 ^ m)) (c % 5 ^ m)
def cst (lg : Nat → Nat → Int) (W : Nat → Int) : Nat → Nat → Nat → Nat → Int
  | 0, _, _, _ => 0
  | m + 1, f, s, c => lg f (c / 5 ^ m) * W s + cst lg W m (c / 5 ^ m) (rm s (c / 5 ^ m)) (c % 5 ^ m)
theorem cst_s (lg : Nat → Nat → Int) (W : Nat → Int) (m f s c : Nat) : cst lg W (m + 1) f s c = lg f (c / 5 ^ m) * W s + cst lg W m (c / 5 ^ m) (rm s (c / 5 ^ m)) (c % 5 ^ m) := rfl
def isB (lg : Nat → Nat → Int) (W : Nat → Int) (m f s : Nat) (v : Int) (c : Nat) : Prop := c < 5 ^ m ∧ vl m s c ∧ cst lg W m f s c = v ∧ (∀ k, k < 5 ^ m → vl m s k → v ≤ cst lg W m f s k) ∧ ∀ k, k < c → vl m s k → v < cst lg W m f s k
theorem isB_un {lg : Nat → Nat → Int} {W : Nat → Int} {m f s : Nat} {v v' : Int} {c c' : Nat} (h : isB lg W m f s v c) (h' : isB lg W m f s v' c') : v = v' ∧ c = c' := by
  obtain ⟨a1, a2, a3, a4, a5⟩ := h
  obtain ⟨b1, b2, b3, b4, b5⟩ := h'
  have h1 := a4 c' b1 b2
  have h2 := b4 c a1 a2
  have hv : v = v' := by omega
  refine ⟨hv, ?_⟩
  by_cases c1 : c < c'
  · have := b5 c c1 a2; omega
  · by_cases c2 : c' < c
    · have := a5 c' c2 b2; omega
    · omega
theorem p5_pos (m : Nat) : 0 < 5 ^ m := Nat.pow_pos (by decide)
theorem p5_s (m : Nat) : 5 ^ (m + 1) = 5 ^ m * 5 := Nat.pow_succ 5 m
theorem dg_lt {m c : Nat} (h : c < 5 ^ (m + 1)) : c / 5 ^ m < 5 := Nat.div_lt_of_lt_mul (by rw [p5_s] at h; exact h)
theorem dg_mod {m c : Nat} : c % 5 ^ m < 5 ^ m := Nat.mod_lt _ (p5_pos m)
theorem isB_step {lg : Nat → Nat → Int} {W : Nat → Int} {m f s : Nat} {V : Nat → Int} {C : Nat → Nat} {d : Nat} (hd : d < 5) (hs : hasB s d) (hV : ∀ e, e < 5 → hasB s e → isB lg W m e (rm s e) (V e) (C e)) (hmin : ∀ e, e < 5 → hasB s e → lg f d * W s + V d ≤ lg f e * W s + V e) (hlt : ∀ e, e < d → hasB s e → lg f d * W s + V d < lg f e * W s + V e) : isB lg W (m + 1) f s (lg f d * W s + V d) (C d + 5 ^ m * d) := by
  obtain ⟨a1, a2, a3, a4, a5⟩ := hV d hd hs
  have hp := p5_pos m
  have e1 : (C d + 5 ^ m * d) / 5 ^ m = d := by rw [Nat.add_mul_div_left _ _ hp, Nat.div_eq_of_lt a1, Nat.zero_add]
  have e2 : (C d + 5 ^ m * d) % 5 ^ m = C d := by rw [Nat.add_mul_mod_self_left, Nat.mod_eq_of_lt a1]
  refine ⟨?_, ?_, ?_, fun k hk hv => ?_, fun k hk hv => ?_⟩
  · rw [p5_s]
    have : 5 ^ m * d + 5 ^ m ≤ 5 ^ m * 5 := by rw [← Nat.mul_succ]; exact Nat.mul_le_mul_left _ hd
    omega
  · show hasB s ((C d + 5 ^ m * d) / 5 ^ m) ∧ vl m (rm s ((C d + 5 ^ m * d) / 5 ^ m)) ((C d + 5 ^ m * d) % 5 ^ m)
    rw [e1, e2]; exact ⟨hs, a2⟩
  · rw [cst_s, e1, e2, a3]
  · have he := dg_lt hk
    rw [cst_s]
    have h1 := hmin _ he hv.1
    have h2 := (hV _ he hv.1).2.2.2.1 _ dg_mod hv.2
    omega
  · have hk5 : k < 5 ^ (m + 1) := by
      rw [p5_s]
      have : 5 ^ m * d + 5 ^ m ≤ 5 ^ m * 5 := by rw [← Nat.mul_succ]; exact Nat.mul_le_mul_left _ hd
      omega
    have he := dg_lt hk5
    have hdm := Nat.div_add_mod k (5 ^ m)
    rw [cst_s]
    by_cases c1 : k / 5 ^ m < d
    · have h1 := hlt _ c1 hv.1
      have h2 := (hV _ he hv.1).2.2.2.1 _ dg_mod hv.2
      omega
    · have c2 : k / 5 ^ m = d := by
        by_cases c3 : d < k / 5 ^ m
        · have : 5 ^ m * d + 5 ^ m ≤ 5 ^ m * (k / 5 ^ m) := by rw [← Nat.mul_succ]; exact Nat.mul_le_mul_left _ c3
          omega
        · omega
      have hv2 : vl m (rm s (k / 5 ^ m)) (k % 5 ^ m) := hv.2
      rw [c2] at hdm hv2 ⊢
      have h2 := a5 (k % 5 ^ m) (by omega) hv2
      omega
theorem isB_zero (lg : Nat → Nat → Int) (W : Nat → Int) (f : Nat) : isB lg W 0 f 0 0 0 := ⟨by decide, rfl, rfl, fun _ _ _ => Int.le_refl _, fun k hk => by omega⟩
def orc : Nat → Nat → Int
  | 0, _ => 0
  | m + 1, c => am_or (orc m (c % 5 ^ m)) (am_shl 1 ((c / 5 ^ m : Nat) : Int))
theorem orc_rng : ∀ m c, c < 5 ^ m → ∃ h : Nat, orc m c = (h : Int) ∧ h < 32 ∧ cb (orc m c) ≤ m := by
  intro m
  induction m with
  | zero => intro c _; exact ⟨0, rfl, by decide, by show cb 0 ≤ 0; decide⟩
  | succ m ih =>
    intro c hc
    obtain ⟨h, e1, e2, e3⟩ := ih (c % 5 ^ m) dg_mod
    have hd := dg_lt hc
    have g := or_fin2 ⟨h, e2⟩ ⟨c / 5 ^ m, hd⟩
    have g' : 0 ≤ am_or (h : Int) (am_shl 1 ((c / 5 ^ m : Nat) : Int)) ∧ am_or (h : Int) (am_shl 1 ((c / 5 ^ m : Nat) : Int)) < 32 ∧ cb (am_or (h : Int) (am_shl 1 ((c / 5 ^ m : Nat) : Int))) ≤ cb (h : Int) + 1 := g
    rw [← e1] at g'
    have eo : orc (m + 1) c = am_or (orc m (c % 5 ^ m)) (am_shl 1 ((c / 5 ^ m : Nat) : Int)) := rfl
    rw [← eo] at g'
    refine ⟨(orc (m + 1) c).toNat, by omega, by omega, by omega⟩
theorem orc_vl : ∀ m s c : Nat, s < 32 → c < 5 ^ m → cb (s : Int) = m → (orc m c = (s : Int) ↔ vl m s c) := by
  intro m
  induction m with
  | zero =>
    intro s c hs _ hc
    have e := cb_zero ⟨s, hs⟩ hc
    have e' : s = 0 := e
    rw [e']
    exact ⟨fun _ => rfl, fun _ => rfl⟩
  | succ m ih =>
    intro s c hs hc hcb
    obtain ⟨h, e1, e2, e3⟩ := orc_rng m (c % 5 ^ m) dg_mod
    have hd := dg_lt hc
    have g := or_fin ⟨s, hs⟩ ⟨h, e2⟩ ⟨c / 5 ^ m, hd⟩
    have g' : cb (h : Int) < cb (s : Int) → (am_or (h : Int) (am_shl 1 ((c / 5 ^ m : Nat) : Int)) = (s : Int) ↔ (hasB s (c / 5 ^ m) ∧ (h : Int) = am_and (s : Int) (am_xor (am_shl 1 ((c / 5 ^ m : Nat) : Int)) (-1)))) := g
    rw [← e1] at g'
    have g2 := g' (by omega)
    have eo : orc (m + 1) c = am_or (orc m (c % 5 ^ m)) (am_shl 1 ((c / 5 ^ m : Nat) : Int)) := rfl
    have r := rm_f hs hd
    rw [eo, g2]
    constructor
    · rintro ⟨x1, x2⟩
      refine ⟨x1, ?_⟩
      have rr := r.2.2 x1
      rw [← r.1] at x2
      exact (ih (rm s (c / 5 ^ m)) (c % 5 ^ m) r.2.1 dg_mod (by omega)).mp x2
    · rintro ⟨x1, x2⟩
      have rr := r.2.2 x1
      refine ⟨x1, ?_⟩
      rw [← r.1]
      exact (ih (rm s (c / 5 ^ m)) (c % 5 ^ m) r.2.1 dg_mod (by omega)).mpr x2
theorem dg_a (c m : Nat) : (c % 5 ^ (m + 1)) / 5 ^ m = c / 5 ^ m % 5 := by rw [p5_s]; exact Nat.mod_mul_right_div_self c (5 ^ m) 5
theorem dg_b (c m : Nat) : (c % 5 ^ (m + 1)) % 5 ^ m = c % 5 ^ m := by rw [p5_s]; exact Nat.mod_mul_right_mod c (5 ^ m) 5
theorem orc_next (c m : Nat) : orc (m + 1) (c % 5 ^ (m + 1)) = am_or (orc m (c % 5 ^ m)) (am_shl 1 ((c / 5 ^ m % 5 : Nat) : Int)) := by
  show am_or (orc m (c % 5 ^ (m + 1) % 5 ^ m)) (am_shl 1 ((c % 5 ^ (m + 1) / 5 ^ m : Nat) : Int)) = _
  rw [dg_a, dg_b]
theorem cst_rng {lg : Nat → Nat → Int} {W : Nat → Int} (hl : ∀ f d, f < 7 → d < 5 → 0 ≤ lg f d ∧ lg f d ≤ 63) (hW : ∀ s, s < 32 → 0 ≤ W s ∧ W s ≤ 45) : ∀ m f s c, f < 7 → s < 32 → c < 5 ^ m → 0 ≤ cst lg W m f s c ∧ cst lg W m f s c ≤ 2835 * m := by
  intro m
  induction m with
  | zero => intro f s c _ _ _; show 0 ≤ (0 : Int) ∧ (0 : Int) ≤ _; omega
  | succ m ih =>
    intro f s c hf hs hc
    have hd := dg_lt hc
    rw [cst_s]
    have h1 := ih (c / 5 ^ m) (rm s (c / 5 ^ m)) (c % 5 ^ m) (by omega) (rm_f hs hd).2.1 dg_mod
    have h2 := hl f _ hf hd
    have h3 := hW s hs
    have h4 : 0 ≤ lg f (c / 5 ^ m) * W s := Int.mul_nonneg h2.1 h3.1
    have h5 : lg f (c / 5 ^ m) * W s ≤ 63 * 45 := Int.mul_le_mul h2.2 h3.2 h3.1 (by decide)
    omega
/-- the cheapest of those that are left, the least of like ones -/
def isC (s : Nat) (g : Nat → Int) (d : Nat) : Prop := d < 5 ∧ hasB s d ∧ (∀ e, e < 5 → hasB s e → g d ≤ g e) ∧ ∀ e, e < d → hasB s e → g d < g e
