/-! chances: pure -/
def wyk (D : Nat → Int) (p : Int) : Nat → Int
  | 0 => 1
  | l + 1 => wyk D p l + (if bs D p (l : Int) = -1 then 0 else 1)
theorem wyk_s (D : Nat → Int) (p : Int) (l : Nat) : wyk D p (l + 1) = wyk D p l + (if bs D p (l : Int) = -1 then 0 else 1) := rfl
theorem wyk_rng (D : Nat → Int) (p : Int) : ∀ l, 1 ≤ wyk D p l ∧ wyk D p l ≤ 1 + l := by
  intro l
  induction l with
  | zero => unfold wyk; omega
  | succ l ih => rw [wyk_s]; split <;> omega
def spr (D : Nat → Int) (p sh : Int) : Nat → (Nat → Int) → Nat → Int
  | 0, f => f
  | l + 1, f => if bs D p (l : Int) = -1 then spr D p sh l f else am_set (spr D p sh l f) (bs D p (l : Int)).toNat (spr D p sh l f (bs D p (l : Int)).toNat + sh)
theorem spr_s (D : Nat → Int) (p sh : Int) (l : Nat) (f : Nat → Int) : spr D p sh (l + 1) f = if bs D p (l : Int) = -1 then spr D p sh l f else am_set (spr D p sh l f) (bs D p (l : Int)).toNat (spr D p sh l f (bs D p (l : Int)).toNat + sh) := rfl
def sp1 (D : Nat → Int) (p : Nat) (sh : Int) (f : Nat → Int) : Nat → Int := spr D (p : Int) sh 4 (am_set f p (f p + sh))
/-- the first neighbour that is nearer, else the place itself -/
noncomputable def gnk (D : Nat → Int) (ck p : Int) : Nat → Nat → Int
  | 0, _ => p
  | k + 1, l => if ¬ bs D p (l : Int) = -1 ∧ 0 < nr D ck p ∧ nr D ck (bs D p (l : Int)) < nr D ck p then bs D p (l : Int) else gnk D ck p k (l + 1)
theorem gnk_s (D : Nat → Int) (ck p : Int) (k l : Nat) : gnk D ck p (k + 1) l = if ¬ bs D p (l : Int) = -1 ∧ 0 < nr D ck p ∧ nr D ck (bs D p (l : Int)) < nr D ck p then bs D p (l : Int) else gnk D ck p k (l + 1) := rfl
theorem gnk_pl {D : Nat → Int} {ck p : Int} (hp : isP D p) : ∀ k l, isP D (gnk D ck p k l) := by
  intro k
  induction k with
  | zero => intro l; exact hp
  | succ k ih =>
    intro l
    rw [gnk_s]
    by_cases c : ¬ bs D p (l : Int) = -1 ∧ 0 < nr D ck p ∧ nr D ck (bs D p (l : Int)) < nr D ck p
    · rw [if_pos c]; exact bs_pl c.1
    · rw [if_neg c]; exact ih (l + 1)
/-- a minute by a rule, over the places below i -/
noncomputable def rs (D : Nat → Int) (ru ck : Int) (c : Nat → Int) : Nat → Nat → Int
  | 0 => fun _ => 0
  | p + 1 => if c p ≤ 0 then rs D ru ck c p else if ru = 0 then am_set (rs D ru ck c p) p (rs D ru ck c p p + c p * 60) else if ru = 1 then sp1 D p (c p * 60 / wyk D (p : Int) 4) (rs D ru ck c p) else am_set (rs D ru ck c p) (gnk D ck (p : Int) 4 0).toNat (rs D ru ck c p (gnk D ck (p : Int) 4 0).toNat + c p * 60)
theorem rs_s (D : Nat → Int) (ru ck : Int) (c : Nat → Int) (p : Nat) : rs D ru ck c (p + 1) = if c p ≤ 0 then rs D ru ck c p else if ru = 0 then am_set (rs D ru ck c p) p (rs D ru ck c p p + c p * 60) else if ru = 1 then sp1 D p (c p * 60 / wyk D (p : Int) 4) (rs D ru ck c p) else am_set (rs D ru ck c p) (gnk D ck (p : Int) 4 0).toNat (rs D ru ck c p (gnk D ck (p : Int) 4 0).toNat + c p * 60) := rfl
/-- a chance row: none below 0, only places, all together B at most -/
def cO (D : Nat → Int) (B : Int) (c : Nat → Int) : Prop := (∀ j, j < 64 → 0 ≤ c j) ∧ (∀ j, j < 64 → ¬ c j = 0 → ¬ D j = -1) ∧ sm c 64 ≤ B
theorem cO_set {D : Nat → Int} {B : Int} {c : Nat → Int} {r : Nat} {x : Int} (h : cO D B c) (hr : r < 64) (hD : ¬ D r = -1) (hx : 0 ≤ x) : cO D (B + x) (am_set c r (c r + x)) := by
  obtain ⟨h1, h2, h3⟩ := h
  refine ⟨fun j hj => ?_, fun j hj hn => ?_, ?_⟩
  · by_cases e : j = r
    · subst e; rw [set_eq]; have := h1 j hj; omega
    · rw [set_ne e]; exact h1 j hj
  · by_cases e : j = r
    · subst e; exact hD
    · rw [set_ne e] at hn; exact h2 j hj hn
  · rw [sm_set, if_pos hr]; omega
theorem sm_ge {f : Nat → Int} (h : ∀ j, j < 64 → 0 ≤ f j) : ∀ n j, n ≤ 64 → j < n → f j ≤ sm f n := by
  intro n
  induction n with
  | zero => intro j _ hj; omega
  | succ n ih =>
    intro j hn hj
    show f j ≤ sm f n + f n
    have h0 := sm_nn h n (by omega)
    have h1 := h n (by omega)
    by_cases e : j = n
    · subst e; omega
    · have := ih j (by omega) (by omega); omega
theorem cO_le {D : Nat → Int} {B : Int} {c : Nat → Int} (h : cO D B c) {j : Nat} (hj : j < 64) : 0 ≤ c j ∧ c j ≤ B := by
  have := sm_ge h.1 64 j (by omega) hj
  have := h.2.2
  exact ⟨h.1 j hj, by omega⟩
theorem cO_spr {D : Nat → Int} {B p sh : Int} {f : Nat → Int} (hs : 0 ≤ sh) (h : cO D B f) : ∀ l, cO D (B + sh * (wyk D p l - 1)) (spr D p sh l f) := by
  intro l
  induction l with
  | zero =>
    have e : wyk D p 0 - 1 = 0 := rfl
    rw [e, Int.mul_zero, Int.add_zero]; exact h
  | succ l ih =>
    rw [spr_s, wyk_s]
    by_cases c : bs D p (l : Int) = -1
    · rw [if_pos c, if_pos c, Int.add_zero]; exact ih
    · rw [if_neg c, if_neg c]
      have hP := bs_pl c
      have h1 := hP.1
      have h2 := hP.2.1
      have := cO_set ih (r := (bs D p (l : Int)).toNat) (by omega) hP.2.2 hs
      have e : B + sh * (wyk D p l + 1 - 1) = B + sh * (wyk D p l - 1) + sh := by
        rw [show wyk D p l + 1 - 1 = (wyk D p l - 1) + 1 by omega, Int.mul_add, Int.mul_one]; omega
      rw [e]; exact this
theorem cO_mono {D : Nat → Int} {B B' : Int} {c : Nat → Int} (h : cO D B c) (hb : B ≤ B') : cO D B' c := ⟨h.1, h.2.1, by have := h.2.2; omega⟩
theorem cO_sp1 {D : Nat → Int} {B x : Int} {p : Nat} {f : Nat → Int} (hp : p < 64) (hD : ¬ D p = -1) (hx : 0 ≤ x) (h : cO D B f) : cO D (B + x) (sp1 D p (x / wyk D (p : Int) 4) f) := by
  have hw := wyk_rng D (p : Int) 4
  have hs : 0 ≤ x / wyk D (p : Int) 4 := Int.ediv_nonneg hx (by omega)
  have h1 := cO_set h (r := p) hp hD hs
  have h2 := cO_spr (p := (p : Int)) hs h1 4
  refine cO_mono h2 ?_
  have h3 : x / wyk D (p : Int) 4 * wyk D (p : Int) 4 ≤ x := Int.ediv_mul_le x (by omega)
  have h4 : x / wyk D (p : Int) 4 * (wyk D (p : Int) 4 - 1) = x / wyk D (p : Int) 4 * wyk D (p : Int) 4 - x / wyk D (p : Int) 4 := by rw [Int.mul_sub, Int.mul_one]
  omega
theorem cO_rs {D : Nat → Int} {B ru ck : Int} {c : Nat → Int} (h : cO D B c) : ∀ i, i ≤ 64 → cO D (60 * sm c i) (rs D ru ck c i) := by
  intro i
  induction i with
  | zero =>
    intro _
    refine ⟨fun j _ => Int.le_refl _, fun j _ hn => absurd rfl hn, ?_⟩
    have hz : ∀ n, sm (fun _ => (0 : Int)) n = 0 := by
      intro n
      induction n with
      | zero => rfl
      | succ n ih => show sm _ n + 0 = 0; rw [ih]; rfl
    show sm (fun _ => (0 : Int)) 64 ≤ 60 * 0
    rw [hz]; decide
  | succ i ih =>
    intro hi
    have hc := h.1 i (by omega)
    have hi2 := ih (by omega)
    have e : 60 * sm c (i + 1) = 60 * sm c i + c i * 60 := by show 60 * (sm c i + c i) = _; omega
    rw [rs_s, e]
    by_cases c1 : c i ≤ 0
    · rw [if_pos c1]; exact cO_mono hi2 (by omega)
    · rw [if_neg c1]
      have hD := h.2.1 i (by omega) (by omega)
      by_cases c2 : ru = 0
      · rw [if_pos c2]; exact cO_set hi2 (by omega) hD (by omega)
      · rw [if_neg c2]
        by_cases c3 : ru = 1
        · rw [if_pos c3]; exact cO_sp1 (by omega) hD (by omega) hi2
        · rw [if_neg c3]
          have hP := gnk_pl (D := D) (ck := ck) (p := (i : Int)) ⟨by omega, by omega, hD⟩ 4 0
          have h1 := hP.1
          have h2 := hP.2.1
          exact cO_set hi2 (by omega) hP.2.2 (by omega)
theorem sm_mono {f : Nat → Int} (h : ∀ j, j < 64 → 0 ≤ f j) : ∀ k n, n + k = 64 → sm f n ≤ sm f 64 := by
  intro k
  induction k with
  | zero => intro n hn; rw [show n = 64 by omega]; exact Int.le_refl _
  | succ k ih =>
    intro n hn
    have h1 := ih (n + 1) (by omega)
    have h2 := h n (by omega)
    have : sm f (n + 1) = sm f n + f n := rfl
    omega
theorem cO_rsB {D : Nat → Int} {B ru ck : Int} {c : Nat → Int} (h : cO D B c) {i : Nat} (hi : i ≤ 64) : cO D (60 * B) (rs D ru ck c i) := by
  refine cO_mono (cO_rs h i hi) ?_
  have h1 := sm_mono h.1 (64 - i) i (by omega)
  have h2 := h.2.2
  omega
/-- minute by minute -/
noncomputable def rI (D : Nat → Int) (ru ck : Int) (c : Nat → Int) : Nat → Nat → Int
  | 0 => c
  | m + 1 => rs D ru ck (rI D ru ck c m) 64
def p60 : Nat → Nat
  | 0 => 1
  | k + 1 => p60 k * 60
theorem p60s (k : Nat) : p60 (k + 1) = p60 k * 60 := rfl
theorem p60r : ∀ k : Nat, k ≤ 5 → 1 ≤ p60 k ∧ p60 k ≤ 777600000 := by
  intro k hk
  have : k = 0 ∨ k = 1 ∨ k = 2 ∨ k = 3 ∨ k = 4 ∨ k = 5 := by omega
  rcases this with e | e | e | e | e | e <;> subst e <;> decide
theorem cO_rI {D : Nat → Int} {ru ck : Int} {c : Nat → Int} (h : cO D 1 c) : ∀ m, cO D (p60 m : Nat) (rI D ru ck c m) := by
  intro m
  induction m with
  | zero => exact h
  | succ m ih =>
    have := cO_rsB (ru := ru) (ck := ck) ih (i := 64) (by omega)
    have e : ((p60 (m + 1) : Nat) : Int) = 60 * (p60 m : Nat) := by rw [p60s, Int.natCast_mul]; omega
    rw [e]; exact this
def ind (p : Int) : Nat → Int := fun j => if (j : Int) = p then 1 else 0
theorem ind_sm {p : Int} (h0 : 0 ≤ p) : ∀ n, sm (ind p) n = if p < n then 1 else 0 := by
  intro n
  induction n with
  | zero => rw [if_neg (by omega)]; rfl
  | succ n ih =>
    show sm (ind p) n + ind p n = _
    rw [ih]; unfold ind
    by_cases e : (n : Int) = p
    · rw [if_pos e, if_neg (by omega), if_pos (by omega)]; rfl
    · rw [if_neg e]
      by_cases c : p < n
      · rw [if_pos c, if_pos (by omega)]; rfl
      · rw [if_neg c, if_neg (by omega)]; rfl
theorem cO_ind {D : Nat → Int} {p : Int} (hp : isP D p) : cO D 1 (ind p) := by
  refine ⟨fun j _ => ?_, fun j _ hn => ?_, ?_⟩
  · unfold ind; split <;> omega
  · unfold ind at hn
    by_cases e : (j : Int) = p
    · have := hp.2.2
      rw [← e] at this
      exact this
    · rw [if_neg e] at hn; exact absurd rfl hn
  · rw [ind_sm hp.1, if_pos (show p < ((64 : Nat) : Int) from hp.2.1)]; exact Int.le_refl _
/-- where one is by now who stays or goes to the clock -/
noncomputable def psn (D : Nat → Int) (ru ck p : Int) : Nat → Int
  | 0 => p
  | m + 1 => if ru = 0 then psn D ru ck p m else gnk D ck (psn D ru ck p m) 4 0
theorem psn_pl {D : Nat → Int} {ru ck p : Int} (hp : isP D p) : ∀ m, isP D (psn D ru ck p m) := by
  intro m
  induction m with
  | zero => exact hp
  | succ m ih =>
    show isP D (if ru = 0 then psn D ru ck p m else gnk D ck (psn D ru ck p m) 4 0)
    split
    · exact ih
    · exact gnk_pl ih 4 0
theorem rs_ind {D : Nat → Int} {ru ck K : Int} {c : Nat → Int} {p : Int} (hK : 1 ≤ K) (hr : ¬ ru = 1) (hp : isP D p) (hc : ∀ j, j < 64 → c j = K * ind p j) : ∀ i j, i ≤ 64 → j < 64 → rs D ru ck c i j = if p < i then (K * 60) * ind (if ru = 0 then p else gnk D ck p 4 0) j else 0 := by
  have hp0 := hp.1
  have hp1 := hp.2.1
  have hg := gnk_pl (ck := ck) hp 4 0
  have g0 := hg.1
  have g1 := hg.2.1
  intro i
  induction i with
  | zero => intro j _ _; rw [if_neg (by omega)]; rfl
  | succ i ih =>
    intro j hi hj
    rw [rs_s, hc i (by omega)]
    unfold ind
    by_cases e : (i : Int) = p
    · have ei : i = p.toNat := by omega
      rw [if_pos e, if_neg (by omega), Int.mul_one]
      by_cases c2 : ru = 0
      · rw [if_pos c2, if_pos c2, if_pos (by omega)]
        by_cases e2 : j = i
        · subst e2
          rw [set_eq, ih j (by omega) hj, if_neg (by omega), if_pos e]; omega
        · rw [set_ne e2, ih j (by omega) hj, if_neg (by omega), if_neg (by omega)]; omega
      · rw [if_neg c2, if_neg hr, if_neg c2, if_pos (by omega), e]
        by_cases e2 : j = (gnk D ck p 4 0).toNat
        · subst e2
          rw [set_eq, ih _ (by omega) hj, if_neg (by omega), if_pos (by omega)]; omega
        · rw [set_ne e2, ih j (by omega) hj, if_neg (by omega), if_neg (by omega)]; omega
    · rw [if_neg e, if_pos (by omega), ih j (by omega) hj]
      unfold ind
      by_cases c : p < i
      · rw [if_pos c, if_pos (show p < ((i + 1 : Nat) : Int) by omega)]
      · rw [if_neg c, if_neg (show ¬ p < ((i + 1 : Nat) : Int) by omega)]
theorem rI_ind {D : Nat → Int} {ru ck p : Int} (hr : ¬ ru = 1) (hp : isP D p) : ∀ m j, j < 64 → rI D ru ck (ind p) m j = (p60 m : Nat) * ind (psn D ru ck p m) j := by
  intro m
  induction m with
  | zero => intro j _; show ind p j = ((1 : Nat) : Int) * ind p j; rw [show ((1 : Nat) : Int) = 1 from rfl, Int.one_mul]
  | succ m ih =>
    intro j hj
    have hP := psn_pl (ru := ru) (ck := ck) hp m
    have h1 : 1 ≤ p60 m := by
      clear ih hP
      induction m with
      | zero => decide
      | succ m ih2 => rw [p60s]; omega
    have := rs_ind (D := D) (ru := ru) (ck := ck) (K := (p60 m : Nat)) (c := rI D ru ck (ind p) m) (by omega) hr hP ih 64 j (by omega) hj
    rw [if_pos (show psn D ru ck p m < ((64 : Nat) : Int) from hP.2.1)] at this
    have e : ((p60 (m + 1) : Nat) : Int) = (p60 m : Nat) * 60 := by rw [p60s, Int.natCast_mul]; rfl
    rw [e]
    exact this
theorem lt_scale {a b k : Nat} (hk : 0 < k) {w : Int} : lt_ (k * a) (k * b) w = lt_ a b w := by
  unfold lt_
  rw [Nat.gcd_mul_left]
  by_cases c : w = 0
  · rw [if_pos c, if_pos c]
    show (((k * a) / (k * Nat.gcd a b) : Nat) : Int) = ((a / Nat.gcd a b : Nat) : Int)
    rw [Nat.mul_div_mul_left _ _ hk]
  · rw [if_neg c, if_neg c]
    show (((k * b) / (k * Nat.gcd a b) : Nat) : Int) = ((b / Nat.gcd a b : Nat) : Int)
    rw [Nat.mul_div_mul_left _ _ hk]
def lk (f : Nat → Int) : Nat → Int
  | 0 => 0
  | k + 1 => if f (k + 1) ≤ f (lk f k).toNat then lk f k else ((k + 1 : Nat) : Int)
theorem lk_rng (f : Nat → Int) : ∀ k, 0 ≤ lk f k ∧ lk f k ≤ k := by
  intro k
  induction k with
  | zero => unfold lk; omega
  | succ k ih => unfold lk; split <;> omega
theorem lk_scale {f g : Nat → Int} {K : Int} (hK : 1 ≤ K) (h : ∀ j, j < 64 → f j = K * g j) : ∀ k, k < 64 → lk f k = lk g k := by
  intro k
  induction k with
  | zero => intro _; rfl
  | succ k ih =>
    intro hk
    have e := ih (by omega)
    have r := lk_rng g k
    unfold lk
    rw [e, h (k + 1) hk, h (lk g k).toNat (by omega)]
    by_cases c : g (k + 1) ≤ g (lk g k).toNat
    · rw [if_pos c, if_pos (Int.mul_le_mul_of_nonneg_left c (by omega))]
    · rw [if_neg c, if_neg]
      intro hx
      exact c (Int.le_of_mul_le_mul_left hx (by omega))
theorem lk_ind {f : Nat → Int} {p : Int} (hp : 0 ≤ p ∧ p < 64) (h : ∀ j, j < 64 → f j = ind p j) : ∀ k : Nat, k < 64 → lk f k = if p ≤ k then p else 0 := by
  intro k
  induction k with
  | zero => intro _; by_cases c : p ≤ ((0 : Nat) : Int); rw [if_pos c]; unfold lk; omega; rw [if_neg c]; rfl
  | succ k ih =>
    intro hk
    have e := ih (by omega)
    unfold lk
    rw [e, h (k + 1) hk]
    by_cases c : p ≤ k
    · rw [if_pos c, h p.toNat (by omega), if_pos (show p ≤ ((k + 1 : Nat) : Int) by omega), if_pos]
      unfold ind; rw [if_neg (by omega)]; split <;> omega
    · rw [if_neg c, h (0 : Int).toNat (by decide)]
      by_cases c2 : p = ((k + 1 : Nat) : Int)
      · rw [if_pos (show p ≤ ((k + 1 : Nat) : Int) by omega), if_neg]
        · exact c2.symm
        · unfold ind; rw [if_pos c2.symm, if_neg (by omega)]; decide
      · rw [if_neg (show ¬ p ≤ ((k + 1 : Nat) : Int) by omega), if_pos]
        unfold ind; rw [if_neg (fun e => c2 e.symm)]; split <;> omega
