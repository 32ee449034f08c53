/-! ways: a walk from p to q, n steps, c all densities together; the least K c + n -/
def isP (d : Nat → Int) (p : Int) : Prop := 0 ≤ p ∧ p < 64 ∧ ¬ d p.toNat = -1
def dR (d : Nat → Int) : Prop := ∀ j, -1 ≤ d j ∧ d j ≤ 9
def wk (d : Nat → Int) (q : Int) : Nat → Int → Int → Prop
  | 0, c, p => p = q ∧ c = 0
  | n + 1, c, p => ∃ l : Nat, l < 4 ∧ ¬ bs d p (l : Int) = -1 ∧ wk d q n (c - d (bs d p (l : Int)).toNat) (bs d p (l : Int))
theorem pon_in {d : Nat → Int} {p : Int} (h : isP d p) : f_2_placeOrNone d p = p := by
  unfold f_2_placeOrNone
  obtain ⟨h1, h2, h3⟩ := h
  rw [if_pos ⟨by omega, by omega, h3⟩]
theorem nb0 (d : Nat → Int) (p : Int) : nb d p 0 = f_2_placeOrNone d (p - 8) := by unfold nb; rw [if_pos rfl]
theorem nb1 (d : Nat → Int) (p : Int) : nb d p 1 = if p % 8 = 7 then -1 else f_2_placeOrNone d (p + 1) := by unfold nb; rw [if_neg (by decide), if_pos rfl]
theorem nb2 (d : Nat → Int) (p : Int) : nb d p 2 = f_2_placeOrNone d (p + 8) := by unfold nb; rw [if_neg (by decide), if_neg (by decide), if_pos rfl]
theorem nb3 (d : Nat → Int) (p : Int) : nb d p 3 = if p % 8 = 0 then -1 else f_2_placeOrNone d (p - 1) := by unfold nb; rw [if_neg (by decide), if_neg (by decide), if_neg (by decide)]
theorem bs_pl {d : Nat → Int} {p l : Int} (h : ¬ bs d p l = -1) : isP d (bs d p l) := by
  rcases bs_rng d p l with e | e
  · exact absurd e h
  · exact e
theorem bs_sym {d : Nat → Int} {p : Int} {l : Nat} (hp : isP d p) (hl : l < 4) (h : ¬ bs d p (l : Int) = -1) : ∃ l' : Nat, l' < 4 ∧ bs d (bs d p (l : Int)) (l' : Int) = p := by
  have hr := bs_pl h
  have e : bs d p (l : Int) = nb d p (l : Int) := by rw [bs_in hp.1 hp.2.1 (by omega) (by omega), if_neg hp.2.2]
  have e' : ∀ l' : Nat, l' < 4 → bs d (bs d p (l : Int)) (l' : Int) = nb d (bs d p (l : Int)) (l' : Int) := fun l' h' => by rw [bs_in hr.1 hr.2.1 (by omega) (by omega), if_neg hr.2.2]
  rcases (show l = 0 ∨ l = 1 ∨ l = 2 ∨ l = 3 by omega) with rfl | rfl | rfl | rfl
  · have h2 : ¬ nb d p 0 = -1 := by rw [e] at h; exact h
    refine ⟨2, by decide, ?_⟩
    rw [e' 2 (by decide), e]
    show nb d (nb d p 0) 2 = p
    rw [nb0] at h2 ⊢
    rcases pon_rng d (p - 8) with x | ⟨x1, x2, x3, x4⟩
    · exact absurd x h2
    · rw [x1, nb2, show p - 8 + 8 = p by omega]; exact pon_in hp
  · have h2 : ¬ nb d p 1 = -1 := by rw [e] at h; exact h
    refine ⟨3, by decide, ?_⟩
    rw [e' 3 (by decide), e]
    show nb d (nb d p 1) 3 = p
    rw [nb1] at h2 ⊢
    by_cases c : p % 8 = 7
    · rw [if_pos c] at h2; exact absurd rfl h2
    rw [if_neg c] at h2 ⊢
    rcases pon_rng d (p + 1) with x | ⟨x1, x2, x3, x4⟩
    · exact absurd x h2
    · rw [x1, nb3, if_neg (by omega), show p + 1 - 1 = p by omega]; exact pon_in hp
  · have h2 : ¬ nb d p 2 = -1 := by rw [e] at h; exact h
    refine ⟨0, by decide, ?_⟩
    rw [e' 0 (by decide), e]
    show nb d (nb d p 2) 0 = p
    rw [nb2] at h2 ⊢
    rcases pon_rng d (p + 8) with x | ⟨x1, x2, x3, x4⟩
    · exact absurd x h2
    · rw [x1, nb0, show p + 8 - 8 = p by omega]; exact pon_in hp
  · have h2 : ¬ nb d p 3 = -1 := by rw [e] at h; exact h
    refine ⟨1, by decide, ?_⟩
    rw [e' 1 (by decide), e]
    show nb d (nb d p 3) 1 = p
    rw [nb3] at h2 ⊢
    by_cases c : p % 8 = 0
    · rw [if_pos c] at h2; exact absurd rfl h2
    rw [if_neg c] at h2 ⊢
    rcases pon_rng d (p - 1) with x | ⟨x1, x2, x3, x4⟩
    · exact absurd x h2
    · rw [x1, nb1, if_neg (by omega), show p - 1 + 1 = p by omega]; exact pon_in hp
theorem wk_rng {d : Nat → Int} (hd : dR d) {q : Int} : ∀ n c p, wk d q n c p → 0 ≤ c ∧ c ≤ 9 * n := by
  intro n
  induction n with
  | zero => intro c p h; have := h.2; omega
  | succ n ih =>
    intro c p h
    obtain ⟨l, hl, hb, hw⟩ := h
    have h1 := ih _ _ hw
    have h2 := bs_pl hb
    have h3 := hd (bs d p (l : Int)).toNat
    have h4 := h2.2.2
    omega
theorem wk_app {d : Nat → Int} {q : Int} {l : Nat} (hl : l < 4) (hb : ¬ bs d q (l : Int) = -1) : ∀ n c p, wk d q n c p → wk d (bs d q (l : Int)) (n + 1) (c + d (bs d q (l : Int)).toNat) p := by
  intro n
  induction n with
  | zero =>
    intro c p h
    obtain ⟨h1, h2⟩ := h
    subst h1
    refine ⟨l, hl, hb, rfl, ?_⟩
    omega
  | succ n ih =>
    intro c p h
    obtain ⟨l', hl', hb', hw⟩ := h
    refine ⟨l', hl', hb', ?_⟩
    have := ih _ _ hw
    have e : c - d (bs d p (l' : Int)).toNat + d (bs d q (l : Int)).toNat = c + d (bs d q (l : Int)).toNat - d (bs d p (l' : Int)).toNat := by omega
    rw [← e]
    exact this
theorem wk_rev {d : Nat → Int} {q : Int} : ∀ n c p, isP d p → wk d q n c p → ∃ c', wk d p n c' q := by
  intro n
  induction n with
  | zero => intro c p _ h; exact ⟨0, h.1.symm, rfl⟩
  | succ n ih =>
    intro c p hp h
    obtain ⟨l, hl, hb, hw⟩ := h
    obtain ⟨c', hc'⟩ := ih _ _ (bs_pl hb) hw
    obtain ⟨l', hl', hb'⟩ := bs_sym hp hl hb
    have := wk_app hl' (by rw [hb']; have := hp.1; omega) n c' q hc'
    rw [hb'] at this
    exact ⟨_, this⟩
theorem leastN {P : Nat → Prop} : ∀ n, P n → ∃ m, P m ∧ ∀ k, P k → m ≤ k := by
  intro n
  induction n using Nat.strongRecOn with
  | ind n ih =>
    intro hn
    by_cases h : ∃ k, k < n ∧ P k
    · obtain ⟨k, hk, hP⟩ := h; exact ih k hk hP
    · refine ⟨n, hn, fun k hk => ?_⟩
      by_cases e : n ≤ k
      · exact e
      · exact absurd ⟨k, by omega, hk⟩ h
def isF (d : Nat → Int) (K q p v : Int) : Prop := (v = -1 ∧ ∀ n c, ¬ wk d q n c p) ∨ ((∃ (n : Nat) (c : Int), wk d q n c p ∧ v = K * c + n) ∧ ∀ (n : Nat) (c : Int), wk d q n c p → v ≤ K * c + n)
theorem isF_ex {d : Nat → Int} (hd : dR d) {K q p : Int} (hK : 0 ≤ K) : ∃ v, isF d K q p v := by
  by_cases h : ∃ n c, wk d q n c p
  · obtain ⟨n, c, hw⟩ := h
    have nn : ∀ (n : Nat) (c : Int), wk d q n c p → 0 ≤ K * c := fun n c hw => Int.mul_nonneg hK (wk_rng hd n c p hw).1
    obtain ⟨m, ⟨n', c', hw', he⟩, hm⟩ := leastN (P := fun m => ∃ (n : Nat) (c : Int), wk d q n c p ∧ (K * c + n).toNat = m) _ ⟨n, c, hw, rfl⟩
    refine ⟨K * c' + n', Or.inr ⟨⟨n', c', hw', rfl⟩, fun n2 c2 hw2 => ?_⟩⟩
    have h1 := hm _ ⟨n2, c2, hw2, rfl⟩
    have h2 := nn n' c' hw'
    have h3 := nn n2 c2 hw2
    omega
  · exact ⟨-1, Or.inl ⟨rfl, fun n c hw => h ⟨n, c, hw⟩⟩⟩
noncomputable def fF (d : Nat → Int) (K q p : Int) : Int := Classical.epsilon (isF d K q p)
theorem fF_is {d : Nat → Int} (hd : dR d) {K q p : Int} (hK : 0 ≤ K) : isF d K q p (fF d K q p) := Classical.epsilon_spec (isF_ex hd hK)
theorem fF_nn {d : Nat → Int} (hd : dR d) {K q p : Int} (hK : 0 ≤ K) : fF d K q p = -1 ∨ 0 ≤ fF d K q p := by
  rcases fF_is hd (q := q) (p := p) hK with h | h
  · exact Or.inl h.1
  · obtain ⟨⟨n, c, hw, he⟩, -⟩ := h
    have := Int.mul_nonneg hK (wk_rng hd n c p hw).1
    right; omega
theorem fF_le {d : Nat → Int} (hd : dR d) {K q p : Int} (hK : 0 ≤ K) {n : Nat} {c : Int} (hw : wk d q n c p) : 0 ≤ fF d K q p ∧ fF d K q p ≤ K * c + n := by
  have h0 := fF_nn hd (q := q) (p := p) hK
  rcases fF_is hd (q := q) (p := p) hK with h | h
  · exact absurd hw (h.2 n c)
  · have := h.2 n c hw
    rcases h0 with h0 | h0
    · obtain ⟨⟨n', c', hw', he⟩, -⟩ := h
      have := Int.mul_nonneg hK (wk_rng hd n' c' p hw').1
      omega
    · exact ⟨h0, this⟩
theorem fF_wk {d : Nat → Int} (hd : dR d) {K q p : Int} (hK : 0 ≤ K) (h0 : ¬ fF d K q p = -1) : ∃ (n : Nat) (c : Int), wk d q n c p ∧ fF d K q p = K * c + n := by
  rcases fF_is hd (q := q) (p := p) hK with h | h
  · exact absurd h.1 h0
  · exact h.1
theorem fF_z {d : Nat → Int} (hd : dR d) {K q : Int} (hK : 0 ≤ K) : fF d K q q = 0 := by
  have := fF_le hd hK (show wk d q 0 0 q from ⟨rfl, rfl⟩)
  have e : K * 0 = 0 := Int.mul_zero K
  omega
theorem fF_tri {d : Nat → Int} (hd : dR d) {K q p : Int} (hK : 0 ≤ K) {l : Nat} (hl : l < 4) (hb : ¬ bs d p (l : Int) = -1) (hr : ¬ fF d K q (bs d p (l : Int)) = -1) : 0 ≤ fF d K q p ∧ fF d K q p ≤ fF d K q (bs d p (l : Int)) + K * d (bs d p (l : Int)).toNat + 1 := by
  obtain ⟨n, c, hw, he⟩ := fF_wk hd hK hr
  have hw2 : wk d q (n + 1) (c + d (bs d p (l : Int)).toNat) p := ⟨l, hl, hb, by rw [show c + d (bs d p (l : Int)).toNat - d (bs d p (l : Int)).toNat = c by omega]; exact hw⟩
  have h := fF_le hd hK hw2
  rw [Int.mul_add] at h
  have : ((n + 1 : Nat) : Int) = (n : Int) + 1 := rfl
  omega
theorem cnt_mono {f g : Nat → Int} (h : ∀ j, ¬ f j = -1 → ¬ g j = -1) : ∀ n, cntP f n ≤ cntP g n := by
  intro n
  induction n with
  | zero => exact Int.le_refl _
  | succ n ih =>
    show cntP f n + (if f n = -1 then 0 else 1) ≤ cntP g n + (if g n = -1 then 0 else 1)
    by_cases e : f n = -1
    · rw [if_pos e]; split <;> omega
    · rw [if_neg e, if_neg (h n e)]; omega
theorem cnt_lt {f g : Nat → Int} (h : ∀ j, ¬ f j = -1 → ¬ g j = -1) {j : Nat} (hf : f j = -1) (hg : ¬ g j = -1) : ∀ n, j < n → cntP f n + 1 ≤ cntP g n := by
  intro n
  induction n with
  | zero => intro h; omega
  | succ n ih =>
    intro hj
    show cntP f n + (if f n = -1 then 0 else 1) + 1 ≤ cntP g n + (if g n = -1 then 0 else 1)
    by_cases e : j = n
    · subst e
      rw [if_pos hf, if_neg hg]
      have := cnt_mono h j
      omega
    · have := ih (by omega)
      by_cases e : f n = -1
      · rw [if_pos e]; split <;> omega
      · rw [if_neg e, if_neg (h n e)]; omega
theorem cnt_63 {f : Nat → Int} {j : Nat} (hj : j < 64) (hf : f j = -1) : cntP f 64 ≤ 63 := by
  have h1 := cnt_lt (f := f) (g := fun _ => 0) (fun _ _ => (show ¬ (0 : Int) = -1 by decide)) hf (show ¬ (0 : Int) = -1 by decide) 64 hj
  have h2 := (cntP_le (fun _ => 0) 64).2
  omega
/-- how many are nearer than v -/
noncomputable def cF (d : Nat → Int) (K q v : Int) : Nat → Int := fun j => if 0 ≤ fF d K q (j : Int) ∧ fF d K q (j : Int) < v then 0 else -1
theorem wk_le {d : Nat → Int} (hd : dR d) {K q : Int} (hK : 0 ≤ K) : ∀ (n : Nat) (c p : Int), wk d q n c p → fF d K q p = K * c + n → (n : Int) ≤ cntP (cF d K q (fF d K q p)) 64 := by
  intro n
  induction n with
  | zero => intro c p _ _; exact (cntP_le _ 64).1
  | succ n ih =>
    intro c p hw he
    obtain ⟨l, hl, hb, hw2⟩ := hw
    have hp := bs_pl hb
    generalize hr : bs d p (l : Int) = r at *
    have h1 := fF_le hd hK hw2
    have h2 := fF_tri hd (q := q) hK hl (by rw [hr]; exact hb) (by rw [hr]; omega)
    rw [hr] at h2
    have hdr := hd r.toNat
    have hk2 : 0 ≤ K * d r.toNat := Int.mul_nonneg hK (by have := hp.2.2; omega)
    rw [Int.mul_sub] at h1
    have hc : ((n + 1 : Nat) : Int) = (n : Int) + 1 := rfl
    have h3 := ih _ _ hw2 (by rw [Int.mul_sub]; omega)
    have e : ((r.toNat : Nat) : Int) = r := by have := hp.1; omega
    have h4 := cnt_lt (f := cF d K q (fF d K q r)) (g := cF d K q (fF d K q p)) (fun j hj => by
      unfold cF at *
      by_cases c1 : 0 ≤ fF d K q (j : Int) ∧ fF d K q (j : Int) < fF d K q r
      · rw [if_pos (by omega)]; decide
      · rw [if_neg c1] at hj; exact absurd rfl hj) (j := r.toNat) (by unfold cF; rw [e, if_neg (by omega)]) (by unfold cF; rw [e, if_pos (by omega)]; decide) 64 (by have := hp.2.1; omega)
    omega
theorem fF_wk63 {d : Nat → Int} (hd : dR d) {K q p : Int} (hK : 0 ≤ K) (hp : isP d p) (h0 : ¬ fF d K q p = -1) : ∃ (n : Nat) (c : Int), wk d q n c p ∧ fF d K q p = K * c + n ∧ n ≤ 63 ∧ 0 ≤ c ∧ c ≤ 567 := by
  obtain ⟨n, c, hw, he⟩ := fF_wk hd hK h0
  have h1 := wk_le hd hK n c p hw he
  have h2 := cnt_63 (f := cF d K q (fF d K q p)) (j := p.toNat) (by have := hp.2.1; omega) (by unfold cF; rw [show ((p.toNat : Nat) : Int) = p by have := hp.1; omega, if_neg (by omega)])
  have h3 := wk_rng hd n c p hw
  exact ⟨n, c, hw, he, by omega, h3.1, by omega⟩
theorem fF_up {d : Nat → Int} (hd : dR d) {K q p : Int} (hK : 0 ≤ K) (hp : isP d p) : fF d K q p ≤ 567 * K + 63 := by
  by_cases h0 : fF d K q p = -1
  · omega
  · obtain ⟨n, c, hw, he, h1, h2, h3⟩ := fF_wk63 hd hK hp h0
    have : K * c ≤ K * 567 := Int.mul_le_mul_of_nonneg_left h3 hK
    omega
/-- what is least, by its own rules -/
theorem F_fix {d : Nat → Int} (hd : dR d) {K S q : Int} (hK : 0 ≤ K) (hS : 567 * K + 63 < S) {F : Nat → Int} (hq : F q.toNat = 0)
    (hb : ∀ p, isP d p → ∀ l : Nat, l < 4 → ¬ bs d p (l : Int) = -1 → F p.toNat ≤ F (bs d p (l : Int)).toNat + K * d (bs d p (l : Int)).toNat + 1)
    (hw : ∀ p, isP d p → F p.toNat = S ∨ ∃ (n : Nat) (c : Int), wk d q n c p ∧ F p.toNat = K * c + n) :
    ∀ p, isP d p → F p.toNat = if fF d K q p = -1 then S else fF d K q p := by
  have dom : ∀ (n : Nat) (c p : Int), isP d p → wk d q n c p → F p.toNat ≤ K * c + n := by
    intro n
    induction n with
    | zero =>
      intro c p hp h
      obtain ⟨h1, h2⟩ := h
      subst h1; subst h2
      rw [hq, Int.mul_zero]; exact Int.le_refl _
    | succ n ih =>
      intro c p hp h
      obtain ⟨l, hl, hb1, hw1⟩ := h
      have h1 := ih _ _ (bs_pl hb1) hw1
      have h2 := hb p hp l hl hb1
      rw [Int.mul_sub] at h1
      have hc : ((n + 1 : Nat) : Int) = (n : Int) + 1 := rfl
      omega
  intro p hp
  by_cases h0 : fF d K q p = -1
  · rw [if_pos h0]
    rcases hw p hp with h | ⟨n, c, hw1, -⟩
    · exact h
    · have := fF_le hd hK hw1; omega
  · rw [if_neg h0]
    have hup := fF_up hd (q := q) hK hp
    obtain ⟨n, c, hw1, he⟩ := fF_wk hd hK h0
    have h1 := dom n c p hp hw1
    rcases hw p hp with h | ⟨n', c', hw2, he2⟩
    · omega
    · have := fF_le hd hK hw2; omega
theorem fF_sym {d : Nat → Int} (hd : dR d) {p q : Int} (hp : isP d p) (hq : isP d q) : fF d 0 q p = fF d 0 p q := by
  have key : ∀ p q, isP d p → isP d q → ¬ fF d 0 q p = -1 → 0 ≤ fF d 0 p q ∧ fF d 0 p q ≤ fF d 0 q p := by
    intro p q hp hq h
    obtain ⟨n, c, hw, he⟩ := fF_wk hd (Int.le_refl 0) h
    obtain ⟨c', hw'⟩ := wk_rev n c p hp hw
    have := fF_le hd (Int.le_refl 0) hw'
    omega
  by_cases h1 : fF d 0 q p = -1
  · by_cases h2 : fF d 0 p q = -1
    · rw [h1, h2]
    · have := key q p hq hp h2; omega
  · have a := key p q hp hq h1
    have b := key q p hq hp (by omega)
    omega
/-- two weights, the same way -/
theorem fF_two {d : Nat → Int} (hd : dR d) {q p : Int} (hp : isP d p) : (fF d 64 q p = -1 ∧ fF d 1000 q p = -1) ∨ ∃ C N : Int, 0 ≤ C ∧ C ≤ 567 ∧ 0 ≤ N ∧ N ≤ 63 ∧ fF d 64 q p = 64 * C + N ∧ fF d 1000 q p = 1000 * C + N ∧ (N = 0 → p = q) := by
  have k1 : (0 : Int) ≤ 64 := by decide
  have k2 : (0 : Int) ≤ 1000 := by decide
  by_cases h1 : fF d 64 q p = -1
  · left
    refine ⟨h1, ?_⟩
    by_cases h2 : fF d 1000 q p = -1
    · exact h2
    · obtain ⟨n, c, hw, -⟩ := fF_wk hd k2 h2
      have := fF_le hd k1 hw; omega
  · right
    obtain ⟨n, c, hw, he, hn, hc⟩ := fF_wk63 hd k1 hp h1
    have h2 : ¬ fF d 1000 q p = -1 := by have := fF_le hd k2 hw; omega
    obtain ⟨n', c', hw', he', hn', hc'⟩ := fF_wk63 hd k2 hp h2
    have a := fF_le hd k1 hw'
    have b := fF_le hd k2 hw
    have ec : c' = c := by omega
    have en : n' = n := by omega
    refine ⟨c, n, by omega, by omega, by omega, by omega, he, by rw [he', ec, en], fun hz => ?_⟩
    have : n = 0 := by omega
    subst this
    exact hw.1
