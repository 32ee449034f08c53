/-! the abstract machine: values, memory, operations -/
/-- int | long | reference (0: null, o + 1: the object o) | unknown -/
abbrev am_V : Type := Int ⊕ (Int ⊕ (Nat ⊕ Unit))
abbrev aI (n : Int) : am_V := Sum.inl n
abbrev aL (n : Int) : am_V := Sum.inr (Sum.inl n)
abbrev aR (o : Nat) : am_V := Sum.inr (Sum.inr (Sum.inl (o + 1)))
abbrev aN : am_V := Sum.inr (Sum.inr (Sum.inl 0))
abbrev aJ : am_V := Sum.inr (Sum.inr (Sum.inr ()))
abbrev am_M : Type := Nat → Nat → Int
abbrev am_K : Type := Nat → List am_V → List am_V → am_M → Prop
abbrev am_Q : Type := am_V → am_M → Prop
abbrev am_O : Type := List am_V → List am_V → am_M → am_K → am_Q → Prop
abbrev am_E : Type := List am_V → am_M → am_Q → Prop
def am_set (f : Nat → Int) (j : Nat) (x : Int) : Nat → Int := fun i => if i = j then x else f i
def am_up (M : am_M) (o j : Nat) (x : Int) : am_M := fun p => if p = o then am_set (M o) j x else M p
def am_cpy (f g : Nat → Int) (sp dp n : Nat) : Nat → Int := fun k => if dp ≤ k ∧ k < dp + n then f (sp + (k - dp)) else g k
def am_ob (M : am_M) (o : Nat) (f : Nat → Int) : am_M := fun p => if p = o then f else M p
def w32 (x : Int) : Int := (x + 2147483648) % 4294967296 - 2147483648
def w64 (x : Int) : Int := (x + 9223372036854775808) % 18446744073709551616 - 9223372036854775808
def w16 (x : Int) : Int := (x + 32768) % 65536 - 32768
def w8 (x : Int) : Int := (x + 128) % 256 - 128
def am_and (a b : Int) : Int := (BitVec.ofInt 32 a &&& BitVec.ofInt 32 b).toInt
def am_or (a b : Int) : Int := (BitVec.ofInt 32 a ||| BitVec.ofInt 32 b).toInt
def am_xor (a b : Int) : Int := (BitVec.ofInt 32 a ^^^ BitVec.ofInt 32 b).toInt
def am_land (a b : Int) : Int := (BitVec.ofInt 64 a &&& BitVec.ofInt 64 b).toInt
def am_lor (a b : Int) : Int := (BitVec.ofInt 64 a ||| BitVec.ofInt 64 b).toInt
def am_shl (a b : Int) : Int := w32 (a * 2 ^ b.toNat)
def am_shr (a b : Int) : Int := a / 2 ^ b.toNat
def am_ushr (a b : Int) : Int := w32 ((a % 4294967296) / 2 ^ b.toNat)
def am_lshl (a b : Int) : Int := w64 (a * 2 ^ b.toNat)
def am_lushr (a b : Int) : Int := w64 ((a % 18446744073709551616) / 2 ^ b.toNat)
def am_cmp (a b : Int) : Int := if a < b then -1 else if a = b then 0 else 1
/-- the shape: an object of a class with its fields (0 int, 1 long, t + 2 the object t), or an array (0 int, 1 long, b + 2 the objects from b on) of a length -/
abbrev am_D : Type := (Nat × List Nat) ⊕ (Nat × Nat)
def am_tab : List am_D := [
  .inl (11, [3, 5, 7, 9, 12, 15, 17, 22, 25, 26, 29, 32, 36, 45, 0, 0, 0]),
  .inl (9, [0, 4, 0, 0]), .inr (0, 71), .inl (9, [0, 6, 0, 0]), .inr (0, 71), .inl (9, [0, 8, 0, 0]), .inr (0, 71),
  .inl (2, [10, 11, 0]), .inr (0, 64), .inr (0, 256),
  .inl (0, [9, 13, 14]), .inr (0, 64), .inr (0, 64),
  .inl (1, [9, 16, 1]), .inr (0, 64),
  .inl (3, [18, 19, 20, 21, 0]), .inr (0, 25), .inr (0, 5), .inr (0, 5), .inr (0, 5),
  .inl (10, [23, 24, 0, 0, 0]), .inr (0, 40), .inr (0, 41),
  .inl (8, [0, 0, 0, 0, 0]),
  .inl (5, [9, 12, 27, 28, 1]), .inr (1, 64), .inr (1, 64),
  .inl (4, [30, 31, 0]), .inr (0, 5), .inr (0, 5),
  .inl (6, [33, 34, 35]), .inr (0, 35), .inr (0, 32), .inr (0, 224),
  .inr (37, 4),
  .inl (7, [41, 0, 0]), .inl (7, [42, 0, 0]), .inl (7, [43, 0, 0]), .inl (7, [44, 0, 0]),
  .inr (0, 64), .inr (0, 64), .inr (0, 64), .inr (0, 64),
  .inr (0, 64),
  .inl (12, [47, 48, 49, 50, 0, 51, 52, 0, 53, 0, 54, 0, 55, 56, 57, 58, 59, 0, 60, 61, 62, 63, 0, 0, 0, 0, 64, 65, 0, 66, 67, 68, 0, 69]),
  .inr (0, 4), .inr (0, 4), .inr (0, 256), .inr (0, 64), .inr (0, 240), .inr (0, 3), .inr (0, 64), .inr (0, 5), .inr (0, 40), .inr (0, 3), .inr (0, 25), .inr (0, 5), .inr (0, 5), .inr (0, 41), .inr (0, 64), .inr (0, 5), .inr (0, 5), .inr (1, 64), .inr (1, 64), .inr (0, 10), .inr (0, 30), .inr (0, 6), .inr (0, 32)]
def am_N : Nat := 68
abbrev am_cl : List vw_C := [(RX0, TX0, 3), (RX1, TX1, 3), (RX2, TX2, 3), (RX3, TX3, 5), (RX4, TX4, 3), (RX5, TX5, 5), (RX6, TX6, 3), (RX7, TX7, 3), (RX8, TX8, 5), (RX9, TX9, 4), (RX10, TX10, 5), (RX11, TX11, 17), (RX12, TX12, 34)]
def am_kd (o : Nat) : am_D := am_tab.getD o (.inr (0, 0))
/-- the kind of a field of an object of a class -/
def am_fk (o ci k : Nat) : Option Nat := match am_kd o with
  | .inl (c, fs) => if c = ci then fs[k]? else none
  | .inr _ => none
def am_isC (o ci : Nat) : Bool := match am_kd o with
  | .inl (c, _) => c == ci
  | .inr _ => false
/-- the length of an array of a kind (0 int, 1 long) -/
def am_al (o k : Nat) : Option Nat := match am_kd o with
  | .inl _ => none
  | .inr (c, n) => if c = k then some n else none
def am_push (v : Bool) (r : am_V) (st : List am_V) : List am_V := if v then st else r :: st
def am_cat (st : List am_V) : Nat := match st with
  | [] => 0
  | .inr (.inl _) :: r => 2 + am_cat r
  | _ :: r => 1 + am_cat r
def am_kil (ls : List am_V) (i : Nat) : List am_V := match ls[i]? with
  | some (.inr (.inl _)) => ls.set i aJ
  | _ => ls
def am_st1 (ls : List am_V) (i : Nat) (a : am_V) : List am_V := match i with
  | 0 => ls.set 0 a
  | j + 1 => (am_kil ls j).set (j + 1) a
def am_st2 (ls : List am_V) (i : Nat) (a : am_V) : List am_V := (am_st1 ls i a).set (i + 1) aJ
def am_exp : List am_V → List am_V
  | [] => []
  | .inr (.inl x) :: r => .inr (.inl x) :: aJ :: am_exp r
  | a :: r => a :: am_exp r
def am_init (n : Nat) (as : List am_V) : List am_V := am_exp as ++ List.replicate (n - (am_exp as).length) aJ
-- the operations; n is the next place
def o_push (v : am_V) (n : Nat) : am_O := fun ls st M k _ => k n ls (v :: st) M
def o_iload (i n : Nat) : am_O := fun ls st M k _ => match ls[i]? with
  | some (.inl x) => k n ls (aI x :: st) M
  | _ => False
def o_lload (i n : Nat) : am_O := fun ls st M k _ => match ls[i]? with
  | some (.inr (.inl x)) => k n ls (aL x :: st) M
  | _ => False
def o_aload (i n : Nat) : am_O := fun ls st M k _ => match ls[i]? with
  | some (.inr (.inr (.inl x))) => k n ls (.inr (.inr (.inl x)) :: st) M
  | _ => False
def o_istore (i n : Nat) : am_O := fun ls st M k _ => match st with
  | .inl x :: st => k n (am_st1 ls i (aI x)) st M
  | _ => False
def o_lstore (i n : Nat) : am_O := fun ls st M k _ => match st with
  | .inr (.inl x) :: st => k n (am_st2 ls i (aL x)) st M
  | _ => False
def o_astore (i n : Nat) : am_O := fun ls st M k _ => match st with
  | .inr (.inr (.inl x)) :: st => k n (am_st1 ls i (.inr (.inr (.inl x)))) st M
  | _ => False
def o_iinc (i : Nat) (c : Int) (n : Nat) : am_O := fun ls st M k _ => match ls[i]? with
  | some (.inl x) => k n (am_st1 ls i (aI (w32 (x + c)))) st M
  | _ => False
def o_bin (f : Int → Int → Int) (n : Nat) : am_O := fun ls st M k _ => match st with
  | .inl b :: .inl a :: st => k n ls (aI (f a b) :: st) M
  | _ => False
def o_binL (f : Int → Int → Int) (n : Nat) : am_O := fun ls st M k _ => match st with
  | .inr (.inl b) :: .inr (.inl a) :: st => k n ls (aL (f a b) :: st) M
  | _ => False
def o_idiv (n : Nat) : am_O := fun ls st M k _ => match st with
  | .inl b :: .inl a :: st => (0 ≤ a ∧ 0 < b) ∧ k n ls (aI (a / b) :: st) M
  | _ => False
def o_irem (n : Nat) : am_O := fun ls st M k _ => match st with
  | .inl b :: .inl a :: st => (0 ≤ a ∧ 0 < b) ∧ k n ls (aI (a % b) :: st) M
  | _ => False
def o_ldiv (n : Nat) : am_O := fun ls st M k _ => match st with
  | .inr (.inl b) :: .inr (.inl a) :: st => (0 ≤ a ∧ 0 < b) ∧ k n ls (aL (a / b) :: st) M
  | _ => False
def o_lrem (n : Nat) : am_O := fun ls st M k _ => match st with
  | .inr (.inl b) :: .inr (.inl a) :: st => (0 ≤ a ∧ 0 < b) ∧ k n ls (aL (a % b) :: st) M
  | _ => False
def o_sh (f : Int → Int → Int) (n : Nat) : am_O := fun ls st M k _ => match st with
  | .inl b :: .inl a :: st => (0 ≤ b ∧ b < 32) ∧ k n ls (aI (f a b) :: st) M
  | _ => False
def o_shL (f : Int → Int → Int) (n : Nat) : am_O := fun ls st M k _ => match st with
  | .inl b :: .inr (.inl a) :: st => (0 ≤ b ∧ b < 64) ∧ k n ls (aL (f a b) :: st) M
  | _ => False
def o_un (f : Int → Int) (n : Nat) : am_O := fun ls st M k _ => match st with
  | .inl a :: st => k n ls (aI (f a) :: st) M
  | _ => False
def o_i2l (n : Nat) : am_O := fun ls st M k _ => match st with
  | .inl a :: st => k n ls (aL a :: st) M
  | _ => False
def o_lcmp (n : Nat) : am_O := fun ls st M k _ => match st with
  | .inr (.inl b) :: .inr (.inl a) :: st => k n ls (aI (am_cmp a b) :: st) M
  | _ => False
def o_dup (n : Nat) : am_O := fun ls st M k _ => match st with
  | .inl a :: st => k n ls (.inl a :: .inl a :: st) M
  | .inr (.inr (.inl a)) :: st => k n ls (.inr (.inr (.inl a)) :: .inr (.inr (.inl a)) :: st) M
  | _ => False
def o_dup2 (n : Nat) : am_O := fun ls st M k _ => match st with
  | .inr (.inl a) :: st => k n ls (aL a :: aL a :: st) M
  | .inl b :: .inr (.inr (.inl a)) :: st => k n ls (.inl b :: .inr (.inr (.inl a)) :: .inl b :: .inr (.inr (.inl a)) :: st) M
  | _ => False
def o_pop (n : Nat) : am_O := fun ls st M k _ => match st with
  | .inl _ :: st => k n ls st M
  | _ => False
def o_pop2 (n : Nat) : am_O := fun ls st M k _ => match st with
  | .inr (.inl _) :: st => k n ls st M
  | _ => False
def o_goto (n : Nat) : am_O := fun ls st M k _ => k n ls st M
/-- a test of one int against 0: where it holds to t, else to n -/
def o_if (c : Int → Prop) (t n : Nat) : am_O := fun ls st M k _ => match st with
  | .inl a :: st => (c a → k t ls st M) ∧ (¬ c a → k n ls st M)
  | _ => False
def o_ic (c : Int → Int → Prop) (t n : Nat) : am_O := fun ls st M k _ => match st with
  | .inl b :: .inl a :: st => (c a b → k t ls st M) ∧ (¬ c a b → k n ls st M)
  | _ => False
def o_nul (t n : Nat) : am_O := fun ls st M k _ => match st with
  | .inr (.inr (.inl 0)) :: st => k t ls st M
  | .inr (.inr (.inl (_ + 1))) :: st => k n ls st M
  | _ => False
def am_tgt (v lo hi : Int) (ts : List Nat) (d : Nat) : Nat := if v < lo ∨ hi < v then d else ts.getD (v - lo).toNat d
def o_tsw (lo hi : Int) (ts : List Nat) (d : Nat) : am_O := fun ls st M k _ => match st with
  | .inl v :: st => k (am_tgt v lo hi ts d) ls st M
  | _ => False
def am_ltg (v : Int) (d : Nat) : List (Int × Nat) → Nat
  | [] => d
  | (a, t) :: r => if v = a then t else am_ltg v d r
def o_lsw (ps : List (Int × Nat)) (d : Nat) : am_O := fun ls st M k _ => match st with
  | .inl v :: st => k (am_ltg v d ps) ls st M
  | _ => False
def o_getf (ci f n : Nat) : am_O := fun ls st M k _ => match st with
  | .inr (.inr (.inl (o + 1))) :: st => match am_fk o ci f with
    | some 0 => k n ls (aI (M o f) :: st) M
    | some 1 => k n ls (aL (M o f) :: st) M
    | some (t + 2) => k n ls (aR t :: st) M
    | none => False
  | _ => False
def o_putI (ci f n : Nat) : am_O := fun ls st M k _ => match st with
  | .inl x :: .inr (.inr (.inl (o + 1))) :: st => am_fk o ci f = some 0 ∧ k n ls st (am_up M o f x)
  | _ => False
def o_putL (ci f n : Nat) : am_O := fun ls st M k _ => match st with
  | .inr (.inl x) :: .inr (.inr (.inl (o + 1))) :: st => am_fk o ci f = some 1 ∧ k n ls st (am_up M o f x)
  | _ => False
def o_iald (n : Nat) : am_O := fun ls st M k _ => match st with
  | .inl i :: .inr (.inr (.inl (o + 1))) :: st => (∃ N : Nat, am_al o 0 = some N ∧ 0 ≤ i ∧ i < (N : Int)) ∧ k n ls (aI (M o i.toNat) :: st) M
  | _ => False
def o_lald (n : Nat) : am_O := fun ls st M k _ => match st with
  | .inl i :: .inr (.inr (.inl (o + 1))) :: st => (∃ N : Nat, am_al o 1 = some N ∧ 0 ≤ i ∧ i < (N : Int)) ∧ k n ls (aL (M o i.toNat) :: st) M
  | _ => False
def o_aald (n : Nat) : am_O := fun ls st M k _ => match st with
  | .inl i :: .inr (.inr (.inl (o + 1))) :: st => match am_kd o with
    | .inr (b + 2, N) => (0 ≤ i ∧ i < (N : Int)) ∧ k n ls (aR (b + i.toNat) :: st) M
    | _ => False
  | _ => False
def o_iast (n : Nat) : am_O := fun ls st M k _ => match st with
  | .inl x :: .inl i :: .inr (.inr (.inl (o + 1))) :: st => (∃ N : Nat, am_al o 0 = some N ∧ 0 ≤ i ∧ i < (N : Int)) ∧ k n ls st (am_up M o i.toNat x)
  | _ => False
def o_last (n : Nat) : am_O := fun ls st M k _ => match st with
  | .inr (.inl x) :: .inl i :: .inr (.inr (.inl (o + 1))) :: st => (∃ N : Nat, am_al o 1 = some N ∧ 0 ≤ i ∧ i < (N : Int)) ∧ k n ls st (am_up M o i.toNat x)
  | _ => False
def o_alen (n : Nat) : am_O := fun ls st M k _ => match st with
  | .inr (.inr (.inl (o + 1))) :: st => match am_kd o with
    | .inr (0, N) => 0 < N ∧ k n ls (aI N :: st) M
    | .inr (1, N) => 0 < N ∧ k n ls (aI N :: st) M
    | _ => False
  | _ => False
/-- System.arraycopy over ints (kd = 0) or longs (kd = 1) -/
def o_acpy (kd n : Nat) : am_O := fun ls st M k _ => match st with
  | .inl c :: .inl dp :: .inr (.inr (.inl (b + 1))) :: .inl sp :: .inr (.inr (.inl (a + 1))) :: st =>
    ∃ n0 n1 : Nat, am_al a kd = some n0 ∧ am_al b kd = some n1 ∧ (0 ≤ sp ∧ 0 ≤ dp ∧ 0 ≤ c ∧ sp + c ≤ n0 ∧ dp + c ≤ n1 ∧ 0 < n0 ∧ 0 < n1) ∧ am_cat st ≤ 8 ∧ k n ls st (am_ob M b (am_cpy (M a) (M b) sp.toNat dp.toNat c.toNat))
  | _ => False
def o_call (S : am_E) (a : Nat) (v : Bool) (n : Nat) : am_O := fun ls st M k _ => a ≤ st.length ∧ am_cat (st.drop a) ≤ 8 ∧ S (st.take a).reverse M (fun r M' => k n ls (am_push v r (st.drop a)) M')
def o_callv (S : am_E) (ci a : Nat) (v : Bool) (n : Nat) : am_O := fun ls st M k _ => match st.drop a with
  | .inr (.inr (.inl (o + 1))) :: rest => am_isC o ci = true ∧ am_cat rest ≤ 8 ∧ S (aR o :: (st.take a).reverse) M (fun r M' => k n ls (am_push v r rest) M')
  | _ => False
def o_iret : am_O := fun _ st M _ q => match st with
  | [.inl x] => q (aI x) M
  | _ => False
def o_zret : am_O := fun _ st M _ q => match st with
  | [.inl x] => (x = 0 ∨ x = 1) ∧ q (aI x) M
  | _ => False
def o_lret : am_O := fun _ st M _ q => match st with
  | [.inr (.inl x)] => q (aL x) M
  | _ => False
def o_aret : am_O := fun _ st M _ q => match st with
  | [.inr (.inr (.inl x))] => q (.inr (.inr (.inl x))) M
  | _ => False
def o_vret : am_O := fun _ st M _ q => match st with
  | [] => q aJ M
  | _ => False
/-- fewer known locals -/
def am_le : List am_V → List am_V → Prop
  | [], [] => True
  | a :: as, b :: bs => (a = aJ ∨ a = b) ∧ am_le as bs
  | _, _ => False
/-- a run from a place on comes to its end with q: the least such relation (that doesn't ask of locals what isn't read) -/
def am_R (cd : List (Nat × am_O)) (q : am_Q) (pc : Nat) (ls st : List am_V) (M : am_M) : Prop :=
  ∀ X : am_K, (∀ (pc : Nat) (ls ls' st : List am_V) (M : am_M), am_le ls ls' → X pc ls st M → X pc ls' st M) → (∀ e ∈ cd, ∀ (ls st : List am_V) (M : am_M), e.2 ls st M X q → X e.1 ls st M) → X pc ls st M
theorem am_R.jk {cd : List (Nat × am_O)} {q : am_Q} {pc : Nat} {ls ls' st : List am_V} {M : am_M} (hl : am_le ls ls') (h : am_R cd q pc ls st M) : am_R cd q pc ls' st M := fun X hm hX => hm _ _ _ _ _ hl (h X hm hX)
/-- what a method is: from its arguments, a call comes to its end -/
def am_S (cd : List (Nat × am_O)) (maxL : Nat) : am_E := fun as M q => ∃ P : am_Q, (am_exp as).length ≤ maxL ∧ am_R cd P 0 (am_init maxL as) [] M ∧ ∀ r M', P r M' → q r M'
theorem am_S.mono {cd : List (Nat × am_O)} {maxL : Nat} {as : List am_V} {M : am_M} {q q' : am_Q} (h : am_S cd maxL as M q) (hq : ∀ r M', q r M' → q' r M') : am_S cd maxL as M q' := by
  obtain ⟨P, h1, h2, h3⟩ := h
  exact ⟨P, h1, h2, fun r M' hp => hq r M' (h3 r M' hp)⟩
theorem am_S.intro {cd : List (Nat × am_O)} {maxL : Nat} {as ls : List am_V} {M : am_M} {q : am_Q} (h1 : Nat.ble (am_exp as).length maxL = true) (h2 : am_init maxL as = ls) (h : am_R cd q 0 ls [] M) : am_S cd maxL as M q :=
  ⟨q, Nat.le_of_ble_eq_true h1, h2 ▸ h, fun _ _ h => h⟩
/-- the tables' words that a call may carry on -/
def lw_g : List Cond := lw_tbl.filter goodWord
theorem in_g {w : Cond} {i : Nat} (h : lw_tbl[i]? = some w) (hg : goodWord w = true) : w ∈ lw_g := List.mem_filter.mpr ⟨List.mem_of_getElem? h, hg⟩
