/-! the world: what the heap holds of the abstract memory; the relation of frames -/
def am_rv (al : Nat → Nat) : am_V → Value → Prop
  | .inl n, .int v => v.toInt = n
  | .inr (.inl n), .long v => v.toInt = n
  | .inr (.inr (.inl 0)), .null => True
  | .inr (.inr (.inl (o + 1))), .ref a => a = al o
  | _, _ => False
theorem rv_i {al : Nat → Nat} {n : Int} {v : Value} (h : am_rv al (.inl n) v) : ∃ x : Int32, v = .int x ∧ x.toInt = n := by
  cases v <;> simp only [am_rv] at h
  exact ⟨_, rfl, h⟩
theorem rv_l {al : Nat → Nat} {n : Int} {v : Value} (h : am_rv al (.inr (.inl n)) v) : ∃ x : Int64, v = .long x ∧ x.toInt = n := by
  cases v <;> simp only [am_rv] at h
  exact ⟨_, rfl, h⟩
theorem rv_n {al : Nat → Nat} {v : Value} (h : am_rv al (.inr (.inr (.inl 0))) v) : v = .null := by
  cases v <;> simp only [am_rv] at h
  rfl
theorem rv_r {al : Nat → Nat} {o : Nat} {v : Value} (h : am_rv al (.inr (.inr (.inl (o + 1)))) v) : v = .ref (al o) := by
  cases v <;> simp only [am_rv] at h
  rw [h]
theorem rv_j {al : Nat → Nat} {u : Unit} {v : Value} (h : am_rv al (.inr (.inr (.inr u))) v) : False := by
  cases v <;> simp only [am_rv] at h
def am_rvs (al : Nat → Nat) : List am_V → List Value → Prop
  | [], [] => True
  | a :: as, v :: vs => am_rv al a v ∧ am_rvs al as vs
  | _, _ => False
theorem rvs_c {al : Nat → Nat} {a : am_V} {as : List am_V} {vs : List Value} (h : am_rvs al (a :: as) vs) : ∃ v ws, vs = v :: ws ∧ am_rv al a v ∧ am_rvs al as ws := by
  cases vs with
  | nil => exact h.elim
  | cons v ws => exact ⟨v, ws, rfl, h.1, h.2⟩
theorem rvs_0 {al : Nat → Nat} {vs : List Value} (h : am_rvs al [] vs) : vs = [] := by
  cases vs with
  | nil => rfl
  | cons v ws => exact h.elim
theorem rvs_len {al : Nat → Nat} : ∀ {as : List am_V} {vs : List Value}, am_rvs al as vs → as.length = vs.length
  | [], [], _ => rfl
  | [], _ :: _, h => h.elim
  | _ :: _, [], h => h.elim
  | _ :: _, _ :: _, h => by simp [rvs_len h.2]
theorem rvs_app {al : Nat → Nat} : ∀ {as bs : List am_V} {vs ws : List Value}, am_rvs al as vs → am_rvs al bs ws → am_rvs al (as ++ bs) (vs ++ ws)
  | [], _, [], _, _, h => h
  | [], _, _ :: _, _, h, _ => h.elim
  | _ :: _, _, [], _, h, _ => h.elim
  | _ :: _, _, _ :: _, _, h, h2 => ⟨h.1, rvs_app h.2 h2⟩
theorem rvs_rev {al : Nat → Nat} : ∀ {as : List am_V} {vs : List Value}, am_rvs al as vs → am_rvs al as.reverse vs.reverse
  | [], [], _ => trivial
  | [], _ :: _, h => h.elim
  | _ :: _, [], h => h.elim
  | a :: as, v :: vs, h => by
    rw [List.reverse_cons, List.reverse_cons]
    exact rvs_app (rvs_rev h.2) ⟨h.1, trivial⟩
theorem rvs_take {al : Nat → Nat} : ∀ (n : Nat) {as : List am_V} {vs : List Value}, am_rvs al as vs → am_rvs al (as.take n) (vs.take n) ∧ am_rvs al (as.drop n) (vs.drop n)
  | 0, _, _, h => ⟨trivial, h⟩
  | _ + 1, [], [], _ => ⟨trivial, trivial⟩
  | _ + 1, [], _ :: _, h => h.elim
  | _ + 1, _ :: _, [], h => h.elim
  | n + 1, _ :: _, _ :: _, h => ⟨⟨h.1, (rvs_take n h.2).1⟩, (rvs_take n h.2).2⟩
theorem rvs_cat {al : Nat → Nat} : ∀ {as : List am_V} {vs : List Value}, am_rvs al as vs → (vs.map fun v => v.category).sum = am_cat as
  | [], [], _ => rfl
  | [], _ :: _, h => h.elim
  | _ :: _, [], h => h.elim
  | .inl n :: as, v :: vs, h => by
    obtain ⟨x, rfl, -⟩ := rv_i h.1
    rw [List.map_cons, List.sum_cons, rvs_cat h.2]; rfl
  | .inr (.inl n) :: as, v :: vs, h => by
    obtain ⟨x, rfl, -⟩ := rv_l h.1
    rw [List.map_cons, List.sum_cons, rvs_cat h.2]; rfl
  | .inr (.inr (.inl 0)) :: as, v :: vs, h => by
    obtain rfl := rv_n h.1
    rw [List.map_cons, List.sum_cons, rvs_cat h.2]; rfl
  | .inr (.inr (.inl (o + 1))) :: as, v :: vs, h => by
    obtain rfl := rv_r h.1
    rw [List.map_cons, List.sum_cons, rvs_cat h.2]; rfl
  | .inr (.inr (.inr u)) :: as, v :: vs, h => (rv_j h.1).elim
/-- the classes and slots; the addresses; the classes of arrays of ints, longs, sheets -/
abbrev am_G : Type := va_G × (Nat → Nat) × (ClassId × ClassId × ClassId)
def am_A (G : am_G) : Nat → Prop := fun q => ∃ o, o < am_N ∧ q = G.2.1 o
def am_tys (G : am_G) : List (ClassId × FieldType) := [(G.2.2.1, .int), (G.2.2.2.1, .long), (G.2.2.2.2, .object "HandInHand$Sheet")]
def am_fv (al : Nat → Nat) (x : Int) : Nat → Value
  | 0 => .int (Int32.ofInt x)
  | 1 => .long (Int64.ofInt x)
  | t + 2 => .ref (al t)
def am_fvs (al : Nat → Nat) (f : Nat → Int) : Nat → List Nat → List Value
  | _, [] => []
  | k, c :: cs => am_fv al (f k) c :: am_fvs al f (k + 1) cs
def am_cell (G : am_G) (f : Nat → Int) : am_D → va_E
  | .inl (ci, fs) => .inr (ci, am_fvs G.2.1 f 0 fs)
  | .inr (0, n) => .inl (G.2.2.1, n, .inl (fun j => Int32.ofInt (f j)))
  | .inr (1, n) => .inl (G.2.2.2.1, n, .inr (.inl (fun j => Int64.ofInt (f j))))
  | .inr (b + 2, n) => .inl (G.2.2.2.2, n, .inr (.inr (.inr (.inr (fun j => some (G.2.1 (b + j)))))))
def am_wl (G : am_G) (M : am_M) : va_W := (List.range am_N).map (fun o => (G.2.1 o, am_cell G (M o) (am_kd o)))
/-- is a slot a long's? -/
def am_wide (o j : Nat) : Bool := match am_kd o with
  | .inl (_, fs) => fs.getD j 0 == 1
  | .inr (k, _) => k == 1
def am_ok (M : am_M) : Prop := ∀ o j, if am_wide o j then (-9223372036854775808 ≤ M o j ∧ M o j < 9223372036854775808) else (-2147483648 ≤ M o j ∧ M o j < 2147483648)
def am_W (G : am_G) (M : am_M) (H : Heap) : Prop := am_ok M ∧ va_P G.1 am_cl (am_wl G M) H
def am_inj (G : am_G) : Prop := ∀ i j, i < am_N → j < am_N → G.2.1 i = G.2.1 j → i = j
theorem wl_at (G : am_G) (M : am_M) {o : Nat} (ho : o < am_N) : (am_wl G M)[o]? = some (G.2.1 o, am_cell G (M o) (am_kd o)) := by
  unfold am_wl
  rw [List.getElem?_map, List.getElem?_range ho]
  rfl
theorem wl_D {G : am_G} (h : am_inj G) (M : am_M) : va_D (am_A G) (am_wl G M) := by
  have key : ∀ (k : Nat) (q : Nat × va_E), (am_wl G M)[k]? = some q → k < am_N ∧ q.1 = G.2.1 k := by
    intro k q hk
    have hl : k < am_N := by
      have := (List.getElem?_eq_some_iff.mp hk).1
      simpa [am_wl] using this
    rw [wl_at G M hl] at hk
    cases hk
    exact ⟨hl, rfl⟩
  refine ⟨fun i j p q hi hj he => ?_, fun k q hk => ?_⟩
  · obtain ⟨a1, a2⟩ := key i p hi
    obtain ⟨b1, b2⟩ := key j q hj
    exact h i j a1 b1 (by rw [← a2, ← b2]; exact he)
  · obtain ⟨a1, a2⟩ := key k q hk
    exact ⟨k, a1, a2⟩
theorem wl_set (G : am_G) (M : am_M) {o : Nat} (ho : o < am_N) (f : Nat → Int) : (am_wl G M).set o (G.2.1 o, am_cell G f (am_kd o)) = am_wl G (am_ob M o f) := by
  apply List.ext_getElem?
  intro k
  by_cases hk : k < am_N
  · rw [wl_at G _ hk]
    by_cases e : o = k
    · subst e
      rw [List.getElem?_set_self (by simp [am_wl]; exact ho)]
      simp [am_ob]
    · rw [List.getElem?_set_ne e, wl_at G _ hk]
      simp [am_ob, Ne.symm e]
  · rw [List.getElem?_eq_none (by simp [am_wl]; omega), List.getElem?_eq_none (by simp [am_wl]; omega)]
theorem up_ob (M : am_M) (o j : Nat) (x : Int) : am_up M o j x = am_ob M o (am_set (M o) j x) := by
  funext p
  simp only [am_up, am_ob]
theorem kd_lt {o : Nat} {d : am_D} (h : am_kd o = d) (hd : d ≠ .inr (0, 0)) : o < am_N := by
  rcases Nat.lt_or_ge o am_N with h1 | h1
  · exact h1
  · exfalso
    apply hd
    rw [← h]
    unfold am_kd
    rw [List.getD_eq_getElem?_getD, List.getElem?_eq_none (show am_tab.length ≤ o from h1)]
    rfl
theorem fvs_at (al : Nat → Nat) (f : Nat → Int) : ∀ (k : Nat) (cs : List Nat) (j : Nat), (am_fvs al f k cs)[j]? = (cs[j]?).map (fun c => am_fv al (f (k + j)) c)
  | _, [], j => by simp [am_fvs]
  | k, c :: cs, 0 => by simp [am_fvs]
  | k, c :: cs, j + 1 => by
    show (am_fvs al f (k + 1) cs)[j]? = _
    rw [fvs_at al f (k + 1) cs j, List.getElem?_cons_succ]
    congr 2
    funext c
    rw [show k + 1 + j = k + (j + 1) by omega]
theorem fvs_len (al : Nat → Nat) (f : Nat → Int) : ∀ (k : Nat) (cs : List Nat), (am_fvs al f k cs).length = cs.length
  | _, [] => rfl
  | k, _ :: cs => by simp [am_fvs, fvs_len al f (k + 1) cs]
theorem fvs_set (al : Nat → Nat) (f : Nat → Int) (cs : List Nat) {j c : Nat} (x : Int) (hj : cs[j]? = some c) (hc : c < 2) : (am_fvs al f 0 cs).set j (am_fv al x c) = am_fvs al (am_set f j x) 0 cs := by
  apply List.ext_getElem?
  intro i
  have hl : j < cs.length := (List.getElem?_eq_some_iff.mp hj).1
  rw [fvs_at]
  by_cases e : j = i
  · subst e
    rw [List.getElem?_set_self (by rw [fvs_len]; exact hl), hj]
    simp [am_set]
  · rw [List.getElem?_set_ne e, fvs_at]
    congr 1
    funext c
    simp [am_set, Ne.symm e]
theorem ok_up {M : am_M} (h : am_ok M) {o j : Nat} {x : Int} (hx : if am_wide o j then (-9223372036854775808 ≤ x ∧ x < 9223372036854775808) else (-2147483648 ≤ x ∧ x < 2147483648)) : am_ok (am_up M o j x) := by
  intro p i
  have h0 := h p i
  unfold am_up
  by_cases e : p = o
  · subst e
    rw [if_pos rfl]
    unfold am_set
    by_cases e2 : i = j
    · subst e2
      rw [if_pos rfl]
      exact hx
    · rw [if_neg e2]
      exact h0
  · rw [if_neg e]
    exact h0
/-- the locals -/
def am_lr (al : Nat → Nat) (n : Nat) (als : List am_V) (ls : Array Slot) : Prop := ls.size = n ∧ lv_wf ls ∧ ∀ (i : Nat) (a : am_V), als[i]? = some a → a = aJ ∨ ∃ v, ls[i]? = some (.val v) ∧ am_rv al a v
def am_lvs (ls : Array Slot) : List (Nat × Value) := (List.range ls.size).filterMap (fun (i : Nat) => match (ls[i]? : Option Slot) with
  | some (Slot.val v) => some (i, v)
  | _ => none)
theorem lvs_has {n : Nat} {ls : Array Slot} (h1 : ls.size = n) (h2 : lv_wf ls) : lv_has ls n (am_lvs ls) := by
  refine ⟨h1, h2, fun q hq => ?_⟩
  obtain ⟨i, -, hi⟩ := List.mem_filterMap.mp hq
  split at hi
  · cases hi
    assumption
  · cases hi
theorem lvs_in {ls : Array Slot} {i : Nat} {v : Value} (h : ls[i]? = some (.val v)) : (i, v) ∈ am_lvs ls := by
  refine List.mem_filterMap.mpr ⟨i, List.mem_range.mpr (lv_lt h), ?_⟩
  rw [h]
theorem kil_at (als : List am_V) (j i : Nat) (a : am_V) (h : (am_kil als j)[i]? = some a) : a = aJ ∨ (als[i]? = some a ∧ ¬ (i = j ∧ ∃ x, a = aL x)) := by
  unfold am_kil at h
  split at h
  next x hx =>
    by_cases e : j = i
    · subst e
      have hl : j < als.length := (List.getElem?_eq_some_iff.mp hx).1
      rw [List.getElem?_set_self hl] at h
      cases h
      exact Or.inl rfl
    · rw [List.getElem?_set_ne e] at h
      exact Or.inr ⟨h, fun q => e q.1.symm⟩
  next hx =>
    refine Or.inr ⟨h, fun q => ?_⟩
    obtain ⟨rfl, x, rfl⟩ := q
    exact hx x h
theorem st1_at (als : List am_V) (j i : Nat) (a b : am_V) (h : (am_st1 als j b)[i]? = some a) : (i = j ∧ a = b) ∨ a = aJ ∨ (i ≠ j ∧ als[i]? = some a ∧ ¬ (i + 1 = j ∧ ∃ x, a = aL x)) := by
  cases j with
  | zero =>
    unfold am_st1 at h
    by_cases e : i = 0
    · subst e
      by_cases hl : 0 < als.length
      · rw [List.getElem?_set_self hl] at h
        cases h
        exact Or.inl ⟨rfl, rfl⟩
      · rw [List.getElem?_eq_none (by rw [List.length_set]; omega)] at h
        cases h
    · rw [List.getElem?_set_ne (Ne.symm e)] at h
      exact Or.inr (Or.inr ⟨e, h, fun q => by omega⟩)
  | succ j =>
    unfold am_st1 at h
    by_cases e : i = j + 1
    · subst e
      by_cases hl : j + 1 < (am_kil als j).length
      · rw [List.getElem?_set_self hl] at h
        cases h
        exact Or.inl ⟨rfl, rfl⟩
      · rw [List.getElem?_eq_none (by rw [List.length_set]; omega)] at h
        cases h
    · rw [List.getElem?_set_ne (Ne.symm e)] at h
      rcases kil_at als j i a h with h1 | ⟨h1, h2⟩
      · exact Or.inr (Or.inl h1)
      · exact Or.inr (Or.inr ⟨e, h1, fun q => h2 ⟨by omega, q.2⟩⟩)
theorem rv_c2 {al : Nat → Nat} {a : am_V} {v : Value} (h : am_rv al a v) (hc : v.category = 2) : ∃ x, a = aL x := by
  match a, h with
  | .inl n, h => obtain ⟨x, rfl, -⟩ := rv_i h; cases hc
  | .inr (.inl n), h => exact ⟨n, rfl⟩
  | .inr (.inr (.inl 0)), h => obtain rfl := rv_n h; cases hc
  | .inr (.inr (.inl (o + 1))), h => obtain rfl := rv_r h; cases hc
  | .inr (.inr (.inr u)), h => exact (rv_j h).elim
/-- behind a store of one slot -/
theorem lr_st1 {al : Nat → Nat} {n : Nat} {als : List am_V} {ls ls' : Array Slot} {j : Nat} {b : am_V} {w : Value} (h : am_lr al n als ls) (hb : am_rv al b w) (h' : lv_has ls' n ((j, w) :: (am_lvs ls).filter (fun q => !(q.1 == j) && !(q.1 + 1 == j && q.2.category == 2)))) : am_lr al n (am_st1 als j b) ls' := by
  refine ⟨h'.1, h'.2.1, fun i a hi => ?_⟩
  rcases st1_at als j i a b hi with ⟨rfl, rfl⟩ | h1 | ⟨h1, h2, h3⟩
  · exact Or.inr ⟨w, h'.2.2 (i, w) List.mem_cons_self, hb⟩
  · exact Or.inl h1
  · rcases h.2.2 i a h2 with h4 | ⟨v, h4, h5⟩
    · exact Or.inl h4
    · refine Or.inr ⟨v, h'.2.2 (i, v) (List.mem_cons_of_mem _ (List.mem_filter.mpr ⟨lvs_in h4, ?_⟩)), h5⟩
      simp only [Bool.and_eq_true, Bool.not_eq_true', beq_eq_false_iff_ne, ne_eq, Bool.and_eq_false_iff]
      refine ⟨h1, ?_⟩
      by_cases e : i + 1 = j
      · exact Or.inr (fun hc => h3 ⟨e, rv_c2 h5 hc⟩)
      · exact Or.inl e
theorem lr_st2 {al : Nat → Nat} {n : Nat} {als : List am_V} {ls ls' : Array Slot} {j : Nat} {b : am_V} {w : Value} (h : am_lr al n als ls) (hb : am_rv al b w) (h' : lv_has ls' n ((j, w) :: (am_lvs ls).filter (fun q => !(q.1 == j) && (!(q.1 == j + 1) && !(q.1 + 1 == j && q.2.category == 2))))) : am_lr al n (am_st2 als j b) ls' := by
  refine ⟨h'.1, h'.2.1, fun i a hi => ?_⟩
  unfold am_st2 at hi
  by_cases e1 : i = j + 1
  · subst e1
    by_cases hl : j + 1 < (am_st1 als j b).length
    · rw [List.getElem?_set_self hl] at hi
      cases hi
      exact Or.inl rfl
    · rw [List.getElem?_eq_none (by rw [List.length_set]; omega)] at hi
      cases hi
  · rw [List.getElem?_set_ne (Ne.symm e1)] at hi
    rcases st1_at als j i a b hi with ⟨rfl, rfl⟩ | h1 | ⟨h1, h2, h3⟩
    · exact Or.inr ⟨w, h'.2.2 (i, w) List.mem_cons_self, hb⟩
    · exact Or.inl h1
    · rcases h.2.2 i a h2 with h4 | ⟨v, h4, h5⟩
      · exact Or.inl h4
      · refine Or.inr ⟨v, h'.2.2 (i, v) (List.mem_cons_of_mem _ (List.mem_filter.mpr ⟨lvs_in h4, ?_⟩)), h5⟩
        simp only [Bool.and_eq_true, Bool.not_eq_true', beq_eq_false_iff_ne, ne_eq, Bool.and_eq_false_iff]
        refine ⟨h1, e1, ?_⟩
        by_cases e : i + 1 = j
        · exact Or.inr (fun hc => h3 ⟨e, rv_c2 h5 hc⟩)
        · exact Or.inl e
theorem exp_at {al : Nat → Nat} : ∀ (as : List am_V) (vs : List Value) (k i : Nat) (a : am_V), am_rvs al as vs → (am_exp as)[i]? = some a → a = aJ ∨ ∃ v, (k + i, v) ∈ lv_args k vs ∧ am_rv al a v
  | [], _, _, _, _, _, hi => by simp [am_exp] at hi
  | _ :: _, [], _, _, _, h, _ => h.elim
  | .inr (.inl x) :: as, v :: vs, k, i, a, h, hi => by
    obtain ⟨y, rfl, hy⟩ := rv_l h.1
    match i, hi with
    | 0, hi =>
      simp only [am_exp, List.getElem?_cons_zero, Option.some.injEq] at hi
      subst hi
      exact Or.inr ⟨_, List.mem_cons_self, hy⟩
    | 1, hi =>
      simp only [am_exp, List.getElem?_cons_succ, List.getElem?_cons_zero, Option.some.injEq] at hi
      exact Or.inl hi.symm
    | i + 2, hi =>
      simp only [am_exp, List.getElem?_cons_succ] at hi
      rcases exp_at as vs (k + 2) i a h.2 hi with h1 | ⟨w, h1, h2⟩
      · exact Or.inl h1
      · refine Or.inr ⟨w, List.mem_cons_of_mem _ ?_, h2⟩
        rw [show k + (i + 2) = k + 2 + i by omega]
        exact h1
  | .inl x :: as, v :: vs, k, i, a, h, hi => by
    obtain ⟨y, rfl, hy⟩ := rv_i h.1
    match i, hi with
    | 0, hi =>
      simp only [am_exp, List.getElem?_cons_zero, Option.some.injEq] at hi
      subst hi
      exact Or.inr ⟨_, List.mem_cons_self, hy⟩
    | i + 1, hi =>
      simp only [am_exp, List.getElem?_cons_succ] at hi
      rcases exp_at as vs (k + 1) i a h.2 hi with h1 | ⟨w, h1, h2⟩
      · exact Or.inl h1
      · refine Or.inr ⟨w, List.mem_cons_of_mem _ ?_, h2⟩
        rw [show k + (i + 1) = k + 1 + i by omega]
        exact h1
  | .inr (.inr (.inl o)) :: as, v :: vs, k, i, a, h, hi => by
    have hc : ¬ v.category = 2 := fun hc => by obtain ⟨x, hx⟩ := rv_c2 h.1 hc; cases hx
    match i, hi with
    | 0, hi =>
      simp only [am_exp, List.getElem?_cons_zero, Option.some.injEq] at hi
      subst hi
      exact Or.inr ⟨_, List.mem_cons_self, h.1⟩
    | i + 1, hi =>
      simp only [am_exp, List.getElem?_cons_succ] at hi
      rcases exp_at as vs (k + 1) i a h.2 hi with h1 | ⟨w, h1, h2⟩
      · exact Or.inl h1
      · refine Or.inr ⟨w, List.mem_cons_of_mem _ ?_, h2⟩
        rw [show k + (i + 1) = k + 1 + i by omega, if_neg hc]
        exact h1
  | .inr (.inr (.inr u)) :: _, _ :: _, _, _, _, h, _ => (rv_j h.1).elim
theorem exp_len {al : Nat → Nat} : ∀ {as : List am_V} {vs : List Value}, am_rvs al as vs → (lg_sl vs).length = (am_exp as).length
  | [], [], _ => rfl
  | [], _ :: _, h => h.elim
  | _ :: _, [], h => h.elim
  | .inr (.inl x) :: as, v :: vs, h => by
    obtain ⟨y, rfl, hy⟩ := rv_l h.1
    have := exp_len h.2
    simp [lg_sl, am_exp, Value.category] at this ⊢
    omega
  | .inl x :: as, v :: vs, h => by
    obtain ⟨y, rfl, hy⟩ := rv_i h.1
    have := exp_len h.2
    simp [lg_sl, am_exp, Value.category] at this ⊢
    omega
  | .inr (.inr (.inl o)) :: as, v :: vs, h => by
    have hc : ¬ v.category = 2 := fun hc => by obtain ⟨x, hx⟩ := rv_c2 h.1 hc; cases hx
    have := exp_len h.2
    simp [lg_sl, am_exp, hc] at this ⊢
    omega
  | .inr (.inr (.inr u)) :: _, _ :: _, h => (rv_j h.1).elim
theorem lr_entry {al : Nat → Nat} {as : List am_V} {vs : List Value} {n : Nat} (h : am_rvs al as vs) (hl : (am_exp as).length ≤ n) : am_lr al n (am_init n as) ((lg_sl vs ++ List.replicate (n - (lg_sl vs).length) Slot.unset).toArray) := by
  have hv := lv_entry vs (n := n) (by rw [exp_len h]; exact hl)
  refine ⟨hv.1, hv.2.1, fun i a hi => ?_⟩
  unfold am_init at hi
  by_cases e : i < (am_exp as).length
  · rw [List.getElem?_append_left e] at hi
    rcases exp_at as vs 0 i a h hi with h1 | ⟨v, h1, h2⟩
    · exact Or.inl h1
    · rw [Nat.zero_add] at h1
      exact Or.inr ⟨v, hv.2.2 (i, v) h1, h2⟩
  · rw [List.getElem?_append_right (by omega)] at hi
    have := List.mem_of_getElem? hi
    exact Or.inl (List.mem_replicate.mp this).2
