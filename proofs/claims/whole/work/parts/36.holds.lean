/-! holds -/
/-- the chances that joint j holds over the steps from f on -/
def hoA (M : am_M) (j f : Nat) : Nat → Nat
  | 0 => 1
  | k + 1 => hoA M j f k * (256 - sd M (f + k) * (16 - jg M j)).toNat
def p8 : Nat → Nat
  | 0 => 1
  | k + 1 => p8 k * 256
theorem p8s (k : Nat) : p8 (k + 1) = p8 k * 256 := rfl
theorem p8r : ∀ k : Nat, k ≤ 6 → 1 ≤ p8 k ∧ p8 k ≤ 281474976710656 := by
  intro k hk
  have : k = 0 ∨ k = 1 ∨ k = 2 ∨ k = 3 ∨ k = 4 ∨ k = 5 ∨ k = 6 := by omega
  rcases this with e | e | e | e | e | e | e <;> subst e <;> decide
theorem ho_fac {M : am_M} (hG : JG M) {j i : Nat} (hi : i < xN M) : 0 ≤ sd M i * (16 - jg M j) ∧ sd M i * (16 - jg M j) ≤ 9 * 16 := by
  have a := sd_rng hi
  have b := jg_rng hG j
  exact ⟨Int.mul_nonneg (by omega) (by omega), Int.mul_le_mul (by omega) (by omega) (by omega) (by omega)⟩
theorem ho_step {M : am_M} (hG : JG M) {j f : Nat} : ∀ k, k ≤ 6 → f + k ≤ xN M → hoA M j f k ≤ p8 k := by
  intro k
  induction k with
  | zero => intro _ _; unfold hoA p8; omega
  | succ k ih =>
    intro h6 hk
    have := ho_fac hG (j := j) (i := f + k) (by omega)
    unfold hoA
    rw [p8s]
    exact Nat.mul_le_mul (ih (by omega) (by omega)) (by omega)
theorem ho_next {M : am_M} (hG : JG M) {j f k : Nat} (h6 : k < 6) (hk : f + k < xN M) : ((hoA M j f k : Nat) : Int) * (256 - sd M (f + k) * (16 - jg M j)) = (hoA M j f (k + 1) : Nat) ∧ ((p8 k : Nat) : Int) * 256 = (p8 (k + 1) : Nat) ∧ hoA M j f (k + 1) ≤ 281474976710656 ∧ p8 (k + 1) ≤ 281474976710656 := by
  have a := ho_fac hG (j := j) hk
  have b := ho_step hG (j := j) (f := f) (k + 1) (by omega) (by omega)
  have c := p8r (k + 1) (by omega)
  have e : hoA M j f (k + 1) = hoA M j f k * (256 - sd M (f + k) * (16 - jg M j)).toNat := rfl
  refine ⟨?_, ?_, by omega, by omega⟩
  · rw [e, Int.natCast_mul]
    congr 1
    omega
  · rw [p8s, Int.natCast_mul]; rfl
