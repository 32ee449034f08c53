/-! numbers: the machine's ints and longs as whole numbers -/
theorem w32_bmod (x : Int) : w32 x = x.bmod (2 ^ 32) := by
  rw [Int.bmod_def]; unfold w32
  have e : ((2 ^ 32 : Nat) : Int) = 4294967296 := by decide
  rw [e]; split <;> omega
theorem w64_bmod (x : Int) : w64 x = x.bmod (2 ^ 64) := by
  rw [Int.bmod_def]; unfold w64
  have e : ((2 ^ 64 : Nat) : Int) = 18446744073709551616 := by decide
  rw [e]; split <;> omega
theorem w16_bmod (x : Int) : w16 x = x.bmod (2 ^ 16) := by
  rw [Int.bmod_def]; unfold w16
  have e : ((2 ^ 16 : Nat) : Int) = 65536 := by decide
  rw [e]; split <;> omega
theorem w8_bmod (x : Int) : w8 x = x.bmod (2 ^ 8) := by
  rw [Int.bmod_def]; unfold w8
  have e : ((2 ^ 8 : Nat) : Int) = 256 := by decide
  rw [e]; split <;> omega
theorem w32_id {x : Int} (h1 : -2147483648 ≤ x) (h2 : x < 2147483648) : w32 x = x := by unfold w32; omega
theorem w64_id {x : Int} (h1 : -9223372036854775808 ≤ x) (h2 : x < 9223372036854775808) : w64 x = x := by unfold w64; omega
theorem i32_lo (x : Int32) : -2147483648 ≤ x.toInt := x.le_toInt
theorem i32_hi (x : Int32) : x.toInt < 2147483648 := x.toInt_lt
theorem i64_lo (x : Int64) : -9223372036854775808 ≤ x.toInt := x.le_toInt
theorem i64_hi (x : Int64) : x.toInt < 9223372036854775808 := x.toInt_lt
theorem n_add (a b : Int32) : (a + b).toInt = w32 (a.toInt + b.toInt) := by rw [w32_bmod]; exact Int32.toInt_add a b
theorem n_sub (a b : Int32) : (a - b).toInt = w32 (a.toInt - b.toInt) := by rw [w32_bmod]; exact Int32.toInt_sub a b
theorem n_mul (a b : Int32) : (a * b).toInt = w32 (a.toInt * b.toInt) := by rw [w32_bmod]; exact Int32.toInt_mul a b
theorem l_add (a b : Int64) : (a + b).toInt = w64 (a.toInt + b.toInt) := by rw [w64_bmod]; exact Int64.toInt_add a b
theorem l_sub (a b : Int64) : (a - b).toInt = w64 (a.toInt - b.toInt) := by rw [w64_bmod]; exact Int64.toInt_sub a b
theorem l_mul (a b : Int64) : (a * b).toInt = w64 (a.toInt * b.toInt) := by rw [w64_bmod]; exact Int64.toInt_mul a b
theorem n_bv (a : Int32) : BitVec.ofInt 32 a.toInt = a.toBitVec := by rw [← Int32.toInt_toBitVec]; exact BitVec.ofInt_toInt
theorem l_bv (a : Int64) : BitVec.ofInt 64 a.toInt = a.toBitVec := by rw [← Int64.toInt_toBitVec]; exact BitVec.ofInt_toInt
theorem n_and (a b : Int32) : (a &&& b).toInt = am_and a.toInt b.toInt := by unfold am_and; rw [n_bv, n_bv]; rfl
theorem n_or (a b : Int32) : (a ||| b).toInt = am_or a.toInt b.toInt := by unfold am_or; rw [n_bv, n_bv]; rfl
theorem n_xor (a b : Int32) : (a ^^^ b).toInt = am_xor a.toInt b.toInt := by unfold am_xor; rw [n_bv, n_bv]; rfl
theorem l_and (a b : Int64) : (a &&& b).toInt = am_land a.toInt b.toInt := by unfold am_land; rw [l_bv, l_bv]; rfl
theorem l_or (a b : Int64) : (a ||| b).toInt = am_lor a.toInt b.toInt := by unfold am_lor; rw [l_bv, l_bv]; rfl
theorem n_div {a b : Int32} (h1 : 0 ≤ a.toInt) (h2 : 0 < b.toInt) : (a / b).toInt = a.toInt / b.toInt := by
  rw [Int32.toInt_div, Int.tdiv_eq_ediv_of_nonneg h1, ← w32_bmod]
  have h3 := i32_hi a
  have h4 : a.toInt / b.toInt ≤ a.toInt := Int.ediv_le_self _ h1
  have h5 : 0 ≤ a.toInt / b.toInt := Int.ediv_nonneg h1 (by omega)
  exact w32_id (by omega) (by omega)
theorem n_rem {a b : Int32} (h1 : 0 ≤ a.toInt) (_h2 : 0 < b.toInt) : (a - a / b * b).toInt = a.toInt % b.toInt := by
  rw [irem_eq_mod, Int32.toInt_mod, Int.tmod_eq_emod_of_nonneg h1]
theorem l_div {a b : Int64} (h1 : 0 ≤ a.toInt) (h2 : 0 < b.toInt) : (a / b).toInt = a.toInt / b.toInt := by
  rw [Int64.toInt_div, Int.tdiv_eq_ediv_of_nonneg h1, ← w64_bmod]
  have h3 := i64_hi a
  have h4 : a.toInt / b.toInt ≤ a.toInt := Int.ediv_le_self _ h1
  have h5 : 0 ≤ a.toInt / b.toInt := Int.ediv_nonneg h1 (by omega)
  exact w64_id (by omega) (by omega)
theorem lrem_eq_mod (x y : Int64) : x - (x / y) * y = x % y := by
  apply Int64.toInt_inj.mp
  have h1 := Int64.le_toInt (x % y)
  have h2 := Int64.toInt_lt (x % y)
  rw [Int64.toInt_sub, Int64.toInt_mul, Int64.toInt_div, Int.bmod_mul_bmod, Int.sub_bmod_bmod, Int.mul_comm (x.toInt.tdiv y.toInt), ← Int.tmod_def, ← Int64.toInt_mod]
  exact Int.bmod_eq_of_le_mul_two (by omega) (by omega)
theorem l_rem {a b : Int64} (h1 : 0 ≤ a.toInt) (_h2 : 0 < b.toInt) : (a - a / b * b).toInt = a.toInt % b.toInt := by
  rw [lrem_eq_mod, Int64.toInt_mod, Int.tmod_eq_emod_of_nonneg h1]
theorem n_2 {b : Int32} (h1 : 0 ≤ b.toInt) (h2 : b.toInt < 32) : ∃ n : Nat, n < 32 ∧ b = nI n ∧ b.toInt = n := by
  refine ⟨b.toInt.toNat, by omega, ?_, by omega⟩
  apply Int32.toInt_inj.mp
  rw [nI_toInt (by omega)]; omega
theorem n_sm : ∀ n : Nat, n < 32 → ((nI n &&& 31).toBitVec.smod 32).toNat = n := by decide +kernel
theorem n_su : ∀ n : Nat, n < 32 → (((nI n).toUInt32 &&& Int32.toUInt32 31).toBitVec % 32).toNat = n := by decide +kernel
theorem n_tn (a : Int32) : (a.toBitVec.toNat : Int) = a.toInt % 4294967296 := by
  have h := i32_lo a; have h' := i32_hi a
  have e : a.toInt = a.toBitVec.toInt := rfl
  rw [BitVec.toInt_eq_toNat_cond] at e
  have := a.toBitVec.isLt
  split at e <;> omega
theorem n_ti (a : Int32) : a.toInt = w32 (a.toBitVec.toNat : Int) := by
  have h := i32_lo a; have h' := i32_hi a
  have e := n_tn a
  rw [e]; unfold w32; omega
theorem n_shl {a b : Int32} (h1 : 0 ≤ b.toInt) (h2 : b.toInt < 32) : (a <<< (b &&& 31)).toInt = am_shl a.toInt b.toInt := by
  obtain ⟨n, hn, rfl, e⟩ := n_2 h1 h2
  rw [n_ti, pk_shl a _ n (n_sm n hn), am_shl, e]
  have := n_tn a
  show w32 ((a.toBitVec.toNat * 2 ^ n % 2 ^ 32 : Nat) : Int) = _
  rw [Int.natCast_emod, Int.natCast_mul, this]
  rw [show ((n : Nat) : Int).toNat = n from rfl, Int.natCast_pow]
  show w32 ((a.toInt % 4294967296 * 2 ^ n) % 4294967296) = _
  rw [Int.mul_emod, Int.emod_emod_of_dvd _ (Int.dvd_refl _), ← Int.mul_emod]
  unfold w32; omega
theorem n_shr {a b : Int32} (h1 : 0 ≤ b.toInt) (h2 : b.toInt < 32) : (a >>> (b &&& 31)).toInt = am_shr a.toInt b.toInt := by
  obtain ⟨n, hn, rfl, e⟩ := n_2 h1 h2
  rw [pk_shr a _ n (n_sm n hn), am_shr, e, Int.shiftRight_eq_div_pow]
  rfl
theorem n_ushr {a b : Int32} (h1 : 0 ≤ b.toInt) (h2 : b.toInt < 32) : ((a.toUInt32 >>> (b.toUInt32 &&& Int32.toUInt32 31)).toInt32).toInt = am_ushr a.toInt b.toInt := by
  obtain ⟨n, hn, rfl, e⟩ := n_2 h1 h2
  rw [n_ti, pk_ushr a _ n (n_su n hn), am_ushr, e]
  rw [Int.natCast_ediv, n_tn, Int.natCast_pow]
  rfl
theorem l_tn (a : Int64) : (a.toBitVec.toNat : Int) = a.toInt % 18446744073709551616 := by
  have h := i64_lo a; have h' := i64_hi a
  have e : a.toInt = a.toBitVec.toInt := rfl
  rw [BitVec.toInt_eq_toNat_cond] at e
  have := a.toBitVec.isLt
  split at e <;> omega
theorem l_ti (a : Int64) : a.toInt = w64 (a.toBitVec.toNat : Int) := by
  have h := i64_lo a; have h' := i64_hi a
  have e := l_tn a
  rw [e]; unfold w64; omega
theorem l_2 {b : Int32} (h1 : 0 ≤ b.toInt) (h2 : b.toInt < 64) : ∃ n : Nat, n < 64 ∧ b = nI n ∧ b.toInt = n := by
  refine ⟨b.toInt.toNat, by omega, ?_, by omega⟩
  apply Int32.toInt_inj.mp
  rw [nI_toInt (by omega)]; omega
theorem l_sm : ∀ n : Nat, n < 64 → (((nI n).toInt64 &&& 63).toBitVec.smod 64).toNat = n := by decide +kernel
theorem l_su : ∀ n : Nat, n < 64 → (((nI n).toInt64.toUInt64 &&& Int64.toUInt64 63).toBitVec % 64).toNat = n := by decide +kernel
theorem l_shl {a : Int64} {b : Int32} (h1 : 0 ≤ b.toInt) (h2 : b.toInt < 64) : (a <<< (b.toInt64 &&& 63)).toInt = am_lshl a.toInt b.toInt := by
  obtain ⟨n, hn, rfl, e⟩ := l_2 h1 h2
  have k : (a <<< ((nI n).toInt64 &&& 63)).toBitVec.toNat = a.toBitVec.toNat * 2 ^ n % 2 ^ 64 := by
    have : (a <<< ((nI n).toInt64 &&& 63)).toBitVec = a.toBitVec <<< (((nI n).toInt64 &&& 63).toBitVec.smod 64) := rfl
    rw [this, BitVec.shiftLeft_eq', l_sm n hn, BitVec.toNat_shiftLeft, Nat.shiftLeft_eq]
  rw [l_ti, k, am_lshl, e]
  rw [Int.natCast_emod, Int.natCast_mul, l_tn]
  rw [show ((n : Nat) : Int).toNat = n from rfl, Int.natCast_pow]
  show w64 ((a.toInt % 18446744073709551616 * 2 ^ n) % 18446744073709551616) = _
  rw [Int.mul_emod, Int.emod_emod_of_dvd _ (Int.dvd_refl _), ← Int.mul_emod]
  unfold w64; omega
theorem l_ushr {a : Int64} {b : Int32} (h1 : 0 ≤ b.toInt) (h2 : b.toInt < 64) : ((a.toUInt64 >>> (b.toInt64.toUInt64 &&& Int64.toUInt64 63)).toInt64).toInt = am_lushr a.toInt b.toInt := by
  obtain ⟨n, hn, rfl, e⟩ := l_2 h1 h2
  have k : ((a.toUInt64 >>> ((nI n).toInt64.toUInt64 &&& Int64.toUInt64 63)).toInt64).toBitVec.toNat = a.toBitVec.toNat / 2 ^ n := by
    have : ((a.toUInt64 >>> ((nI n).toInt64.toUInt64 &&& Int64.toUInt64 63)).toInt64).toBitVec = a.toBitVec >>> (((nI n).toInt64.toUInt64 &&& Int64.toUInt64 63).toBitVec % 64) := rfl
    rw [this, BitVec.ushiftRight_eq', l_su n hn, BitVec.toNat_ushiftRight, Nat.shiftRight_eq_div_pow]
  rw [l_ti, k, am_lushr, e]
  rw [Int.natCast_ediv, l_tn, Int.natCast_pow]
  rfl
theorem l_cmp (a b : Int64) : (lg_cmp a b).toInt = am_cmp a.toInt b.toInt := by
  unfold lg_cmp am_cmp
  by_cases h1 : a > b
  · have : b.toInt < a.toInt := Int64.lt_iff_toInt_lt.mp h1
    rw [if_pos h1, if_neg (by omega), if_neg (by omega)]; rfl
  · have h2 : ¬ b.toInt < a.toInt := fun h => h1 (Int64.lt_iff_toInt_lt.mpr h)
    rw [if_neg h1]
    by_cases h3 : a = b
    · subst h3
      rw [if_pos rfl, if_neg (by omega), if_pos rfl]; rfl
    · have h4 : ¬ a.toInt = b.toInt := fun h => h3 (Int64.toInt_inj.mp h)
      rw [if_neg h3, if_pos (by omega)]; rfl
theorem n_b (a : Int32) : (a.toInt8.toInt32).toInt = w8 a.toInt := by rw [w8_bmod, Int8.toInt_toInt32, Int32.toInt_toInt8]
theorem n_s (a : Int32) : (a.toInt16.toInt32).toInt = w16 a.toInt := by rw [w16_bmod, Int16.toInt_toInt32, Int32.toInt_toInt16]
theorem n_idx {x : Int32} {N : Nat} (h1 : 0 ≤ x.toInt) (h2 : x.toInt < (N : Int)) : vp_in x N := vp_in_iff.mpr ⟨h1, h2⟩
theorem n_clamp (x : Int32) : x.toNatClampNeg = x.toInt.toNat := rfl
