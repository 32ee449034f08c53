/-! lowest terms -/
def lt_ (a b : Nat) (w : Int) : Int := (if w = 0 then (a : Int) else (b : Int)) / (Nat.gcd a b : Nat)
theorem ct_lowest {q : am_Q} {M : am_M} {a b : Nat} {w : Int} (hb : 0 < b) (hb2 : b < 2 ^ 63) (h : q (aL (lt_ a b w)) M) : S11_lowest [aL (a : Int), aL (b : Int), aI w] M q := by
  have hg : 0 < Nat.gcd a b := Nat.gcd_pos_of_pos_right a hb
  have fin : ∀ c : Nat, c = Nat.gcd a b → ∀ x3 : Int, x3 = (if w = 0 then (a : Int) else (b : Int)) → ((¬ ((c : Int) = 0) → (0 ≤ x3 ∧ 0 < (c : Int))) ∧ (∀ x5 : Int, x5 = (if (c : Int) = 0 then x3 else x3 / (c : Int)) → (q (aL x5) M))) := by
    intro c hc x3 hx3
    subst hc
    refine ⟨fun _ => ⟨by rw [hx3]; split <;> omega, by omega⟩, fun x5 hx5 => ?_⟩
    rw [if_neg (by omega), hx3] at hx5
    rw [hx5]
    exact h
  have loop : ∀ (m c d i : Nat), d < 2 ^ m → i + 2 * m ≤ 128 → Nat.gcd c d = Nat.gcd a b → am_R K11_lowest q 9 [aL (a : Int), aJ, aL (b : Int), aJ, aI w, aL (c : Int), aJ, aL (d : Int), aJ, aI (i : Int), aJ, aJ] [] M := by
    have zero : ∀ c i : Nat, Nat.gcd c 0 = Nat.gcd a b → am_R K11_lowest q 9 [aL (a : Int), aJ, aL (b : Int), aJ, aI w, aL (c : Int), aJ, aL ((0 : Nat) : Int), aJ, aI (i : Int), aJ, aJ] [] M := by
      intro c i hc
      rw [Nat.gcd_zero_right] at hc
      exact g11_lowest_9 ⟨fun _ => fin c hc, fun _ => ⟨fun _ => fin c hc, fun hn => absurd rfl hn⟩⟩
    intro m
    induction m with
    | zero =>
      intro c d i hd hi hc
      have : d = 0 := by omega
      subst this
      exact zero c i hc
    | succ m ih =>
      intro c d i hd hi hc
      by_cases e : d = 0
      · subst e; exact zero c i hc
      · have hr : c % d < d := Nat.mod_lt _ (by omega)
        have hc2 : Nat.gcd d (c % d) = Nat.gcd a b := by rw [← hc, Nat.gcd_comm d, ← Nat.gcd_rec, Nat.gcd_comm]
        refine g11_lowest_9 ⟨fun hn => absurd hn (by omega), fun _ => ⟨fun hn => absurd hn (by omega), fun _ => ⟨by omega, fun x11 hx11 => ⟨by omega, ?_⟩⟩⟩⟩
        have ex : x11 = ((c % d : Nat) : Int) := hx11
        rw [ex]
        generalize c % d = r at *
        by_cases e2 : r = 0
        · subst e2; exact zero d (i + 1) hc2
        · have hr2 : d % r < r := Nat.mod_lt _ (by omega)
          have hc3 : Nat.gcd r (d % r) = Nat.gcd a b := by rw [← hc2, Nat.gcd_comm r, ← Nat.gcd_rec, Nat.gcd_comm]
          have hdv := Nat.div_add_mod d r
          have hq : 1 ≤ d / r := Nat.div_pos (by omega) (by omega)
          have hm : r * 1 ≤ r * (d / r) := Nat.mul_le_mul_left r hq
          have hp : 2 ^ (m + 1) = 2 * 2 ^ m := by rw [Nat.pow_succ]; omega
          refine g11_lowest_9 ⟨fun hn => absurd hn (by omega), fun _ => ⟨fun hn => absurd hn (by omega), fun _ => ⟨by omega, fun x12 hx12 => ⟨by omega, ?_⟩⟩⟩⟩
          have ex2 : x12 = ((d % r : Nat) : Int) := hx12
          rw [ex2]
          exact ih r (d % r) (i + 1 + 1) (by omega) (by omega) hc3
  exact e11_lowest (loop 63 a b 0 hb2 (by omega) rfl)
theorem ct_part {q : am_Q} {M : am_M} {a b : Nat} {w : Int} (hb : 0 < b) (h : q (aL (lt_ a b w)) M) : S12_part [aL (a : Int), aL (b : Int), aI w] M q := by
  have hg : 0 < Nat.gcd a b := Nat.gcd_pos_of_pos_right a hb
  have loop : ∀ (m c d : Nat), d ≤ m → Nat.gcd c d = Nat.gcd a b → am_R K12_part q 6 [aL (a : Int), aJ, aL (b : Int), aJ, aI w, aL (c : Int), aJ, aL (d : Int), aJ, aJ, aJ] [] M := by
    intro m
    induction m with
    | zero =>
      intro c d hd hc
      have : d = 0 := by omega
      subst this
      rw [Nat.gcd_zero_right] at hc
      subst hc
      refine g12_part_6 ⟨fun _ x3 hx3 => ⟨⟨by rw [hx3]; split <;> omega, by omega⟩, ?_⟩, fun hn => absurd rfl hn⟩
      rw [hx3]; exact h
    | succ m ih =>
      intro c d hd hc
      by_cases e : d = 0
      · exact ih c d (by omega) hc
      · have hr : c % d < d := Nat.mod_lt _ (by omega)
        have hc2 : Nat.gcd d (c % d) = Nat.gcd a b := by rw [← hc, Nat.gcd_comm d, ← Nat.gcd_rec, Nat.gcd_comm]
        refine g12_part_6 ⟨fun hn => absurd hn (by omega), fun _ => ⟨by omega, fun x11 hx11 => ?_⟩⟩
        have ex : x11 = ((c % d : Nat) : Int) := hx11
        rw [ex]
        exact ih d (c % d) (by omega) hc2
  exact e12_part (loop b a b (Nat.le_refl _) rfl)
