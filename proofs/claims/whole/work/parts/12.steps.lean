/-! runs, step by step: i is the operation's place in the list -/
section STEP
variable {cd : List (Nat × am_O)} {q : am_Q} {pc n t : Nat} {ls st : List am_V} {M : am_M}
theorem s_op {o : am_O} (i : Nat) (hi : cd[i]? = some (pc, o)) (h : ∀ X : am_K, ((∀ (pc : Nat) (ls ls' st : List am_V) (M : am_M), am_le ls ls' → X pc ls st M → X pc ls' st M) ∧ ∀ e ∈ cd, ∀ (ls st : List am_V) (M : am_M), e.2 ls st M X q → X e.1 ls st M) → o ls st M X q) : am_R cd q pc ls st M :=
  fun X hm hX => hX _ (List.mem_of_getElem? hi) ls st M (h X ⟨hm, hX⟩)
theorem s_push {v : am_V} (i : Nat) (hi : cd[i]? = some (pc, o_push v n)) (h : am_R cd q n ls (v :: st) M) : am_R cd q pc ls st M := s_op i hi fun X hX => h X hX.1 hX.2
theorem s_iload {j : Nat} {x : Int} (i : Nat) (hi : cd[i]? = some (pc, o_iload j n)) (hl : ls[j]? = some (aI x)) (h : am_R cd q n ls (aI x :: st) M) : am_R cd q pc ls st M := s_op i hi fun X hX => by unfold o_iload; rw [hl]; exact h X hX.1 hX.2
theorem s_lload {j : Nat} {x : Int} (i : Nat) (hi : cd[i]? = some (pc, o_lload j n)) (hl : ls[j]? = some (aL x)) (h : am_R cd q n ls (aL x :: st) M) : am_R cd q pc ls st M := s_op i hi fun X hX => by unfold o_lload; rw [hl]; exact h X hX.1 hX.2
theorem s_aload {j x : Nat} (i : Nat) (hi : cd[i]? = some (pc, o_aload j n)) (hl : ls[j]? = some (.inr (.inr (.inl x)))) (h : am_R cd q n ls (.inr (.inr (.inl x)) :: st) M) : am_R cd q pc ls st M := s_op i hi fun X hX => by unfold o_aload; rw [hl]; exact h X hX.1 hX.2
theorem s_istore {j : Nat} {x : Int} (ls' : List am_V) (i : Nat) (hi : cd[i]? = some (pc, o_istore j n)) (hl : am_st1 ls j (aI x) = ls') (h : am_R cd q n ls' st M) : am_R cd q pc ls (aI x :: st) M := s_op i hi fun X hX => by subst hl; exact h X hX.1 hX.2
theorem s_lstore {j : Nat} {x : Int} (ls' : List am_V) (i : Nat) (hi : cd[i]? = some (pc, o_lstore j n)) (hl : am_st2 ls j (aL x) = ls') (h : am_R cd q n ls' st M) : am_R cd q pc ls (aL x :: st) M := s_op i hi fun X hX => by subst hl; exact h X hX.1 hX.2
theorem s_astore {j x : Nat} (ls' : List am_V) (i : Nat) (hi : cd[i]? = some (pc, o_astore j n)) (hl : am_st1 ls j (.inr (.inr (.inl x))) = ls') (h : am_R cd q n ls' st M) : am_R cd q pc ls (.inr (.inr (.inl x)) :: st) M := s_op i hi fun X hX => by subst hl; exact h X hX.1 hX.2
theorem s_iinc {j : Nat} {x c : Int} (ls' : List am_V) (i : Nat) (hi : cd[i]? = some (pc, o_iinc j c n)) (hj : ls[j]? = some (aI x)) (hb : -2147483648 ≤ x + c ∧ x + c < 2147483648) (hl : am_st1 ls j (aI (x + c)) = ls') (h : am_R cd q n ls' st M) : am_R cd q pc ls st M := s_op i hi fun X hX => by
  unfold o_iinc; rw [hj]; subst hl
  show X n (am_st1 ls j (aI (w32 (x + c)))) st M
  rw [w32_id hb.1 hb.2]; exact h X hX.1 hX.2
theorem s_bin {f : Int → Int → Int} {a b : Int} (i : Nat) (hi : cd[i]? = some (pc, o_bin f n)) (h : am_R cd q n ls (aI (f a b) :: st) M) : am_R cd q pc ls (aI b :: aI a :: st) M := s_op i hi fun X hX => h X hX.1 hX.2
theorem s_binL {f : Int → Int → Int} {a b : Int} (i : Nat) (hi : cd[i]? = some (pc, o_binL f n)) (h : am_R cd q n ls (aL (f a b) :: st) M) : am_R cd q pc ls (aL b :: aL a :: st) M := s_op i hi fun X hX => h X hX.1 hX.2
/-- without overflow -/
theorem s_binX {f : Int → Int → Int} {a b v : Int} (i : Nat) (hi : cd[i]? = some (pc, o_bin f n)) (hb : -2147483648 ≤ v ∧ v < 2147483648) (hf : f a b = w32 v) (h : am_R cd q n ls (aI v :: st) M) : am_R cd q pc ls (aI b :: aI a :: st) M := s_op i hi fun X hX => by
  show X n ls (aI (f a b) :: st) M
  rw [hf, w32_id hb.1 hb.2]; exact h X hX.1 hX.2
theorem s_binLX {f : Int → Int → Int} {a b v : Int} (i : Nat) (hi : cd[i]? = some (pc, o_binL f n)) (hb : -9223372036854775808 ≤ v ∧ v < 9223372036854775808) (hf : f a b = w64 v) (h : am_R cd q n ls (aL v :: st) M) : am_R cd q pc ls (aL b :: aL a :: st) M := s_op i hi fun X hX => by
  show X n ls (aL (f a b) :: st) M
  rw [hf, w64_id hb.1 hb.2]; exact h X hX.1 hX.2
theorem s_idiv {a b : Int} (i : Nat) (hi : cd[i]? = some (pc, o_idiv n)) (hb : 0 ≤ a ∧ 0 < b) (h : am_R cd q n ls (aI (a / b) :: st) M) : am_R cd q pc ls (aI b :: aI a :: st) M := s_op i hi fun X hX => ⟨hb, h X hX.1 hX.2⟩
theorem s_irem {a b : Int} (i : Nat) (hi : cd[i]? = some (pc, o_irem n)) (hb : 0 ≤ a ∧ 0 < b) (h : am_R cd q n ls (aI (a % b) :: st) M) : am_R cd q pc ls (aI b :: aI a :: st) M := s_op i hi fun X hX => ⟨hb, h X hX.1 hX.2⟩
theorem s_ldiv {a b : Int} (i : Nat) (hi : cd[i]? = some (pc, o_ldiv n)) (hb : 0 ≤ a ∧ 0 < b) (h : am_R cd q n ls (aL (a / b) :: st) M) : am_R cd q pc ls (aL b :: aL a :: st) M := s_op i hi fun X hX => ⟨hb, h X hX.1 hX.2⟩
theorem s_lrem {a b : Int} (i : Nat) (hi : cd[i]? = some (pc, o_lrem n)) (hb : 0 ≤ a ∧ 0 < b) (h : am_R cd q n ls (aL (a % b) :: st) M) : am_R cd q pc ls (aL b :: aL a :: st) M := s_op i hi fun X hX => ⟨hb, h X hX.1 hX.2⟩
theorem s_sh {f : Int → Int → Int} {a b : Int} (i : Nat) (hi : cd[i]? = some (pc, o_sh f n)) (hb : 0 ≤ b ∧ b < 32) (h : am_R cd q n ls (aI (f a b) :: st) M) : am_R cd q pc ls (aI b :: aI a :: st) M := s_op i hi fun X hX => ⟨hb, h X hX.1 hX.2⟩
theorem s_shL {f : Int → Int → Int} {a b : Int} (i : Nat) (hi : cd[i]? = some (pc, o_shL f n)) (hb : 0 ≤ b ∧ b < 64) (h : am_R cd q n ls (aL (f a b) :: st) M) : am_R cd q pc ls (aI b :: aL a :: st) M := s_op i hi fun X hX => ⟨hb, h X hX.1 hX.2⟩
theorem s_un {f : Int → Int} {a : Int} (i : Nat) (hi : cd[i]? = some (pc, o_un f n)) (h : am_R cd q n ls (aI (f a) :: st) M) : am_R cd q pc ls (aI a :: st) M := s_op i hi fun X hX => h X hX.1 hX.2
theorem s_i2l {a : Int} (i : Nat) (hi : cd[i]? = some (pc, o_i2l n)) (h : am_R cd q n ls (aL a :: st) M) : am_R cd q pc ls (aI a :: st) M := s_op i hi fun X hX => h X hX.1 hX.2
theorem s_lcmp {a b : Int} (i : Nat) (hi : cd[i]? = some (pc, o_lcmp n)) (h : am_R cd q n ls (aI (am_cmp a b) :: st) M) : am_R cd q pc ls (aL b :: aL a :: st) M := s_op i hi fun X hX => h X hX.1 hX.2
theorem s_dupI {a : Int} (i : Nat) (hi : cd[i]? = some (pc, o_dup n)) (h : am_R cd q n ls (aI a :: aI a :: st) M) : am_R cd q pc ls (aI a :: st) M := s_op i hi fun X hX => h X hX.1 hX.2
theorem s_dupR {a : Nat} (i : Nat) (hi : cd[i]? = some (pc, o_dup n)) (h : am_R cd q n ls (.inr (.inr (.inl a)) :: .inr (.inr (.inl a)) :: st) M) : am_R cd q pc ls (.inr (.inr (.inl a)) :: st) M := s_op i hi fun X hX => h X hX.1 hX.2
theorem s_dup2L {a : Int} (i : Nat) (hi : cd[i]? = some (pc, o_dup2 n)) (h : am_R cd q n ls (aL a :: aL a :: st) M) : am_R cd q pc ls (aL a :: st) M := s_op i hi fun X hX => h X hX.1 hX.2
theorem s_dup2 {a : Nat} {b : Int} (i : Nat) (hi : cd[i]? = some (pc, o_dup2 n)) (h : am_R cd q n ls (aI b :: .inr (.inr (.inl a)) :: aI b :: .inr (.inr (.inl a)) :: st) M) : am_R cd q pc ls (aI b :: .inr (.inr (.inl a)) :: st) M := s_op i hi fun X hX => h X hX.1 hX.2
theorem s_pop {a : Int} (i : Nat) (hi : cd[i]? = some (pc, o_pop n)) (h : am_R cd q n ls st M) : am_R cd q pc ls (aI a :: st) M := s_op i hi fun X hX => h X hX.1 hX.2
theorem s_pop2 {a : Int} (i : Nat) (hi : cd[i]? = some (pc, o_pop2 n)) (h : am_R cd q n ls st M) : am_R cd q pc ls (aL a :: st) M := s_op i hi fun X hX => h X hX.1 hX.2
theorem s_goto (i : Nat) (hi : cd[i]? = some (pc, o_goto n)) (h : am_R cd q n ls st M) : am_R cd q pc ls st M := s_op i hi fun X hX => h X hX.1 hX.2
theorem s_if {c : Int → Prop} {a : Int} (i : Nat) (hi : cd[i]? = some (pc, o_if c t n)) (h1 : c a → am_R cd q t ls st M) (h2 : ¬ c a → am_R cd q n ls st M) : am_R cd q pc ls (aI a :: st) M := s_op i hi fun X hX => ⟨fun h => h1 h X hX.1 hX.2, fun h => h2 h X hX.1 hX.2⟩
theorem s_ic {c : Int → Int → Prop} {a b : Int} (i : Nat) (hi : cd[i]? = some (pc, o_ic c t n)) (h1 : c a b → am_R cd q t ls st M) (h2 : ¬ c a b → am_R cd q n ls st M) : am_R cd q pc ls (aI b :: aI a :: st) M := s_op i hi fun X hX => ⟨fun h => h1 h X hX.1 hX.2, fun h => h2 h X hX.1 hX.2⟩
/-- a test by another condition that says the same -/
theorem s_ifX {c : Int → Prop} {a : Int} {d : Prop} (i : Nat) (hi : cd[i]? = some (pc, o_if c t n)) (hd : c a ↔ d) (h1 : d → am_R cd q t ls st M) (h2 : ¬ d → am_R cd q n ls st M) : am_R cd q pc ls (aI a :: st) M := s_op i hi fun X hX => ⟨fun h => h1 (hd.mp h) X hX.1 hX.2, fun h => h2 (fun h9 => h (hd.mpr h9)) X hX.1 hX.2⟩
theorem s_ifeqB {c : Prop} [Decidable c] (i : Nat) (hi : cd[i]? = some (pc, o_if (fun a => a = 0) t n)) (h1 : ¬ c → am_R cd q t ls st M) (h2 : c → am_R cd q n ls st M) : am_R cd q pc ls (aI (if c then 1 else 0) :: st) M := s_op i hi fun X hX => by
  by_cases hc : c
  · rw [if_pos hc]; exact ⟨fun h => absurd h (by decide), fun _ => h2 hc X hX.1 hX.2⟩
  · rw [if_neg hc]; exact ⟨fun _ => h1 hc X hX.1 hX.2, fun h => absurd rfl h⟩
theorem s_ifneB {c : Prop} [Decidable c] (i : Nat) (hi : cd[i]? = some (pc, o_if (fun a => ¬ a = 0) t n)) (h1 : c → am_R cd q t ls st M) (h2 : ¬ c → am_R cd q n ls st M) : am_R cd q pc ls (aI (if c then 1 else 0) :: st) M := s_op i hi fun X hX => by
  by_cases hc : c
  · rw [if_pos hc]; exact ⟨fun _ => h1 hc X hX.1 hX.2, fun h => absurd (show ¬ (1 : Int) = 0 by decide) h⟩
  · rw [if_neg hc]; exact ⟨fun h => absurd rfl h, fun _ => h2 hc X hX.1 hX.2⟩
theorem s_nulN (i : Nat) (hi : cd[i]? = some (pc, o_nul t n)) (h : am_R cd q t ls st M) : am_R cd q pc ls (aN :: st) M := s_op i hi fun X hX => h X hX.1 hX.2
theorem s_nulR {a : Nat} (i : Nat) (hi : cd[i]? = some (pc, o_nul t n)) (h : am_R cd q n ls st M) : am_R cd q pc ls (aR a :: st) M := s_op i hi fun X hX => h X hX.1 hX.2
theorem s_tsw {lo hi v : Int} {ts : List Nat} {d : Nat} (i : Nat) (hj : cd[i]? = some (pc, o_tsw lo hi ts d)) (h : am_R cd q (am_tgt v lo hi ts d) ls st M) : am_R cd q pc ls (aI v :: st) M := s_op i hj fun X hX => h X hX.1 hX.2
theorem s_lsw {v : Int} {ps : List (Int × Nat)} {d : Nat} (i : Nat) (hj : cd[i]? = some (pc, o_lsw ps d)) (h : am_R cd q (am_ltg v d ps) ls st M) : am_R cd q pc ls (aI v :: st) M := s_op i hj fun X hX => h X hX.1 hX.2
theorem s_getI {ci f o : Nat} {v : Int} (i : Nat) (hi : cd[i]? = some (pc, o_getf ci f n)) (hk : am_fk o ci f = some 0) (hv : M o f = v) (h : am_R cd q n ls (aI v :: st) M) : am_R cd q pc ls (aR o :: st) M := s_op i hi fun X hX => by
  simp only [o_getf, hk]; rw [hv]; exact h X hX.1 hX.2
theorem s_getL {ci f o : Nat} {v : Int} (i : Nat) (hi : cd[i]? = some (pc, o_getf ci f n)) (hk : am_fk o ci f = some 1) (hv : M o f = v) (h : am_R cd q n ls (aL v :: st) M) : am_R cd q pc ls (aR o :: st) M := s_op i hi fun X hX => by
  simp only [o_getf, hk]; rw [hv]; exact h X hX.1 hX.2
theorem s_getR {ci f o : Nat} (w : Nat) (i : Nat) (hi : cd[i]? = some (pc, o_getf ci f n)) (hk : am_fk o ci f = some (w + 2)) (h : am_R cd q n ls (aR w :: st) M) : am_R cd q pc ls (aR o :: st) M := s_op i hi fun X hX => by
  simp only [o_getf, hk]; exact h X hX.1 hX.2
theorem s_putI {ci f o : Nat} {x : Int} (i : Nat) (hi : cd[i]? = some (pc, o_putI ci f n)) (hk : am_fk o ci f = some 0) (h : am_R cd q n ls st (am_up M o f x)) : am_R cd q pc ls (aI x :: aR o :: st) M := s_op i hi fun X hX => ⟨hk, h X hX.1 hX.2⟩
theorem s_putL {ci f o : Nat} {x : Int} (i : Nat) (hi : cd[i]? = some (pc, o_putL ci f n)) (hk : am_fk o ci f = some 1) (h : am_R cd q n ls st (am_up M o f x)) : am_R cd q pc ls (aL x :: aR o :: st) M := s_op i hi fun X hX => ⟨hk, h X hX.1 hX.2⟩
theorem s_iald {o N : Nat} {x v : Int} (i : Nat) (hi : cd[i]? = some (pc, o_iald n)) (hN : am_al o 0 = some N) (hb : 0 ≤ x ∧ x < (N : Int)) (hv : M o x.toNat = v) (h : am_R cd q n ls (aI v :: st) M) : am_R cd q pc ls (aI x :: aR o :: st) M := s_op i hi fun X hX => by subst hv; exact ⟨⟨N, hN, hb⟩, h X hX.1 hX.2⟩
theorem s_lald {o N : Nat} {x v : Int} (i : Nat) (hi : cd[i]? = some (pc, o_lald n)) (hN : am_al o 1 = some N) (hb : 0 ≤ x ∧ x < (N : Int)) (hv : M o x.toNat = v) (h : am_R cd q n ls (aL v :: st) M) : am_R cd q pc ls (aI x :: aR o :: st) M := s_op i hi fun X hX => by subst hv; exact ⟨⟨N, hN, hb⟩, h X hX.1 hX.2⟩
theorem s_aald {o b N : Nat} {x : Int} (i : Nat) (hi : cd[i]? = some (pc, o_aald n)) (hk : am_kd o = .inr (b + 2, N)) (hb : 0 ≤ x ∧ x < (N : Int)) (h : am_R cd q n ls (aR (b + x.toNat) :: st) M) : am_R cd q pc ls (aI x :: aR o :: st) M := s_op i hi fun X hX => by
  simp only [o_aald, hk]; exact ⟨hb, h X hX.1 hX.2⟩
theorem s_iast {o N : Nat} {x y : Int} (i : Nat) (hi : cd[i]? = some (pc, o_iast n)) (hN : am_al o 0 = some N) (hb : 0 ≤ x ∧ x < (N : Int)) (h : am_R cd q n ls st (am_up M o x.toNat y)) : am_R cd q pc ls (aI y :: aI x :: aR o :: st) M := s_op i hi fun X hX => ⟨⟨N, hN, hb⟩, h X hX.1 hX.2⟩
theorem s_last {o N : Nat} {x y : Int} (i : Nat) (hi : cd[i]? = some (pc, o_last n)) (hN : am_al o 1 = some N) (hb : 0 ≤ x ∧ x < (N : Int)) (h : am_R cd q n ls st (am_up M o x.toNat y)) : am_R cd q pc ls (aL y :: aI x :: aR o :: st) M := s_op i hi fun X hX => ⟨⟨N, hN, hb⟩, h X hX.1 hX.2⟩
theorem s_alenI {o N : Nat} (i : Nat) (hi : cd[i]? = some (pc, o_alen n)) (hN : am_al o 0 = some N) (hp : 0 < N) (h : am_R cd q n ls (aI N :: st) M) : am_R cd q pc ls (aR o :: st) M := s_op i hi fun X hX => by
  simp only [o_alen, al_spec hN]; exact ⟨hp, h X hX.1 hX.2⟩
theorem s_alenL {o N : Nat} (i : Nat) (hi : cd[i]? = some (pc, o_alen n)) (hN : am_al o 1 = some N) (hp : 0 < N) (h : am_R cd q n ls (aI N :: st) M) : am_R cd q pc ls (aR o :: st) M := s_op i hi fun X hX => by
  simp only [o_alen, al_spec hN]; exact ⟨hp, h X hX.1 hX.2⟩
theorem s_acpy {kd a b n0 n1 : Nat} {sp dp c : Int} (i : Nat) (hi : cd[i]? = some (pc, o_acpy kd n)) (h0 : am_al a kd = some n0) (h1 : am_al b kd = some n1) (hb : 0 ≤ sp ∧ 0 ≤ dp ∧ 0 ≤ c ∧ sp + c ≤ n0 ∧ dp + c ≤ n1) (hp : 0 < n0 ∧ 0 < n1) (hcat : Nat.ble (am_cat st) 8 = true) (h : am_R cd q n ls st (am_ob M b (am_cpy (M a) (M b) sp.toNat dp.toNat c.toNat))) : am_R cd q pc ls (aI c :: aI dp :: aR b :: aI sp :: aR a :: st) M :=
  s_op i hi fun X hX => ⟨n0, n1, h0, h1, ⟨hb.1, hb.2.1, hb.2.2.1, hb.2.2.2.1, hb.2.2.2.2, hp.1, hp.2⟩, Nat.le_of_ble_eq_true hcat, h X hX.1 hX.2⟩
theorem s_max {a b : Int} (i : Nat) (hi : cd[i]? = some (pc, o_max n)) (hcat : Nat.ble (am_cat st) 8 = true) (h : am_R cd q n ls (aI (if a < b then b else a) :: st) M) : am_R cd q pc ls (aI b :: aI a :: st) M := s_op i hi fun X hX => ⟨Nat.le_of_ble_eq_true hcat, h X hX.1 hX.2⟩
theorem s_min {a b : Int} (i : Nat) (hi : cd[i]? = some (pc, o_min n)) (hcat : Nat.ble (am_cat st) 8 = true) (h : am_R cd q n ls (aI (if b < a then b else a) :: st) M) : am_R cd q pc ls (aI b :: aI a :: st) M := s_op i hi fun X hX => ⟨Nat.le_of_ble_eq_true hcat, h X hX.1 hX.2⟩
/-- a call: what it comes to goes on -/
theorem s_call {K : List (Nat × am_O)} {L a : Nat} {v : Bool} {as rest : List am_V} (i : Nat) (hi : cd[i]? = some (pc, o_call (am_S K L) a v n)) (h0 : Nat.ble a st.length = true) (h1 : (st.take a).reverse = as) (h2 : st.drop a = rest) (hcat : Nat.ble (am_cat rest) 8 = true) (h : am_S K L as M (fun r M' => am_R cd q n ls (am_push v r rest) M')) : am_R cd q pc ls st M := s_op i hi fun X hX => by
  subst h1; subst h2
  exact ⟨Nat.le_of_ble_eq_true h0, Nat.le_of_ble_eq_true hcat, h.mono fun r M' hr => hr X hX.1 hX.2⟩
theorem s_callv {K : List (Nat × am_O)} {L ci a o : Nat} {v : Bool} {as rest : List am_V} (i : Nat) (hi : cd[i]? = some (pc, o_callv (am_S K L) ci a v n)) (h1 : (st.take a).reverse = as) (h2 : st.drop a = aR o :: rest) (hc : am_isC o ci = true) (hcat : Nat.ble (am_cat rest) 8 = true) (h : am_S K L (aR o :: as) M (fun r M' => am_R cd q n ls (am_push v r rest) M')) : am_R cd q pc ls st M := s_op i hi fun X hX => by
  subst h1
  simp only [o_callv, h2]
  exact ⟨hc, Nat.le_of_ble_eq_true hcat, h.mono fun r M' hr => hr X hX.1 hX.2⟩
theorem s_iret {x : Int} (i : Nat) (hi : cd[i]? = some (pc, o_iret)) (h : q (aI x) M) : am_R cd q pc ls [aI x] M := s_op i hi fun X hX => h
theorem s_zret {x : Int} (i : Nat) (hi : cd[i]? = some (pc, o_zret)) (hx : x = 0 ∨ x = 1) (h : q (aI x) M) : am_R cd q pc ls [aI x] M := s_op i hi fun X hX => ⟨hx, h⟩
theorem s_lret {x : Int} (i : Nat) (hi : cd[i]? = some (pc, o_lret)) (h : q (aL x) M) : am_R cd q pc ls [aL x] M := s_op i hi fun X hX => h
theorem s_aret {x : Nat} (i : Nat) (hi : cd[i]? = some (pc, o_aret)) (h : q (.inr (.inr (.inl x))) M) : am_R cd q pc ls [.inr (.inr (.inl x))] M := s_op i hi fun X hX => h
theorem s_vret (i : Nat) (hi : cd[i]? = some (pc, o_vret)) (h : q aJ M) : am_R cd q pc ls [] M := s_op i hi fun X hX => h
end STEP
/-- the texts, the sheets: objects of one kind at several places -/
def tx (o : Nat) : Prop := o = 1 ∨ o = 3 ∨ o = 5
def sx (o : Nat) : Prop := o = 35 ∨ o = 36 ∨ o = 37 ∨ o = 38
theorem tx_c {o : Nat} (h : tx o) : am_isC o 9 = true := by rcases h with rfl | rfl | rfl <;> rfl
theorem tx_0 {o : Nat} (h : tx o) : am_fk o 9 0 = some 0 := by rcases h with rfl | rfl | rfl <;> rfl
theorem tx_1 {o : Nat} (h : tx o) : am_fk o 9 1 = some (o + 1 + 2) := by rcases h with rfl | rfl | rfl <;> rfl
theorem tx_2 {o : Nat} (h : tx o) : am_fk o 9 2 = some 0 := by rcases h with rfl | rfl | rfl <;> rfl
theorem tx_3 {o : Nat} (h : tx o) : am_fk o 9 3 = some 0 := by rcases h with rfl | rfl | rfl <;> rfl
theorem tx_a {o : Nat} (h : tx o) : am_al (o + 1) 0 = some 71 := by rcases h with rfl | rfl | rfl <;> rfl
theorem sx_c {o : Nat} (h : sx o) : am_isC o 7 = true := by rcases h with rfl | rfl | rfl | rfl <;> rfl
theorem sx_0 {o : Nat} (h : sx o) : am_fk o 7 0 = some (o + 4 + 2) := by rcases h with rfl | rfl | rfl | rfl <;> rfl
theorem sx_1 {o : Nat} (h : sx o) : am_fk o 7 1 = some 0 := by rcases h with rfl | rfl | rfl | rfl <;> rfl
theorem sx_2 {o : Nat} (h : sx o) : am_fk o 7 2 = some 0 := by rcases h with rfl | rfl | rfl | rfl <;> rfl
theorem sx_a {o : Nat} (h : sx o) : am_al (o + 4) 0 = some 64 := by rcases h with rfl | rfl | rfl | rfl <;> rfl
-- the memory
theorem up_eq {M : am_M} {o j : Nat} {x : Int} : am_up M o j x o = am_set (M o) j x := by unfold am_up; rw [if_pos rfl]
theorem up_ne {M : am_M} {o j p : Nat} {x : Int} (h : p ≠ o) : am_up M o j x p = M p := by unfold am_up; rw [if_neg h]
theorem set_eq {f : Nat → Int} {j : Nat} {x : Int} : am_set f j x j = x := by unfold am_set; rw [if_pos rfl]
theorem set_ne {f : Nat → Int} {j i : Nat} {x : Int} (h : i ≠ j) : am_set f j x i = f i := by unfold am_set; rw [if_neg h]
theorem ob_eq {M : am_M} {o : Nat} {f : Nat → Int} : am_ob M o f o = f := by unfold am_ob; rw [if_pos rfl]
theorem ob_ne {M : am_M} {o p : Nat} {f : Nat → Int} (h : p ≠ o) : am_ob M o f p = M p := by unfold am_ob; rw [if_neg h]
section STEP2
variable {cd : List (Nat × am_O)} {q : am_Q} {pc n t : Nat} {ls st : List am_V} {M : am_M}
theorem s_ifne {a : Int} (i : Nat) (hi : cd[i]? = some (pc, o_if (fun a => ¬ a = 0) t n)) (h1 : ¬ a = 0 → am_R cd q t ls st M) (h2 : a = 0 → am_R cd q n ls st M) : am_R cd q pc ls (aI a :: st) M := s_if i hi h1 (fun h => h2 (Classical.not_not.mp h))
theorem s_icne {a b : Int} (i : Nat) (hi : cd[i]? = some (pc, o_ic (fun a b => ¬ a = b) t n)) (h1 : ¬ a = b → am_R cd q t ls st M) (h2 : a = b → am_R cd q n ls st M) : am_R cd q pc ls (aI b :: aI a :: st) M := s_ic i hi h1 (fun h => h2 (Classical.not_not.mp h))
theorem s_ifneX {a : Int} {d : Prop} (i : Nat) (hi : cd[i]? = some (pc, o_if (fun a => ¬ a = 0) t n)) (hd : a = 0 ↔ d) (h1 : ¬ d → am_R cd q t ls st M) (h2 : d → am_R cd q n ls st M) : am_R cd q pc ls (aI a :: st) M := s_ifne i hi (fun h => h1 (fun h9 => h (hd.mpr h9))) (fun h => h2 (hd.mp h))
theorem s_ifeqV {c : Prop} [Decidable c] {v : Int} (i : Nat) (hi : cd[i]? = some (pc, o_if (fun a => a = 0) t n)) (hv : v = if c then 1 else 0) (h1 : ¬ c → am_R cd q t ls st M) (h2 : c → am_R cd q n ls st M) : am_R cd q pc ls (aI v :: st) M := by subst hv; exact s_ifeqB i hi h1 h2
theorem s_ifneV {c : Prop} [Decidable c] {v : Int} (i : Nat) (hi : cd[i]? = some (pc, o_if (fun a => ¬ a = 0) t n)) (hv : v = if c then 1 else 0) (h1 : c → am_R cd q t ls st M) (h2 : ¬ c → am_R cd q n ls st M) : am_R cd q pc ls (aI v :: st) M := by subst hv; exact s_ifneB i hi h1 h2
theorem s_nameI {e : Int} (h : ∀ v : Int, v = e → am_R cd q pc ls (aI v :: st) M) : am_R cd q pc ls (aI e :: st) M := h e rfl
theorem s_nameL {e : Int} (h : ∀ v : Int, v = e → am_R cd q pc ls (aL v :: st) M) : am_R cd q pc ls (aL e :: st) M := h e rfl
end STEP2
theorem b01 (c : Prop) [Decidable c] : (if c then (1 : Int) else 0) = 0 ∨ (if c then (1 : Int) else 0) = 1 := by by_cases h : c <;> simp [h]
theorem cq_eq (a b : Int) : am_cmp a b = 0 ↔ a = b := by unfold am_cmp; split <;> (try split) <;> omega
theorem cq_lt (a b : Int) : am_cmp a b < 0 ↔ a < b := by unfold am_cmp; split <;> (try split) <;> omega
theorem cq_ge (a b : Int) : 0 ≤ am_cmp a b ↔ b ≤ a := by unfold am_cmp; split <;> (try split) <;> omega
theorem cq_gt (a b : Int) : 0 < am_cmp a b ↔ b < a := by unfold am_cmp; split <;> (try split) <;> omega
theorem cq_le (a b : Int) : am_cmp a b ≤ 0 ↔ a ≤ b := by unfold am_cmp; split <;> (try split) <;> omega
theorem tg_eq {cd : List (Nat × am_O)} {q : am_Q} {n m : Nat} {ls st : List am_V} {M : am_M} (e : n = m) (h : am_R cd q m ls st M) : am_R cd q n ls st M := e ▸ h
theorem tx_of {v : Int} (h : 0 ≤ v ∧ v < 3) : tx (1 + 2 * v.toNat) := by unfold tx; omega
theorem sx_of {v : Int} (h : 0 ≤ v ∧ v < 4) : sx (35 + v.toNat) := by unfold sx; omega
