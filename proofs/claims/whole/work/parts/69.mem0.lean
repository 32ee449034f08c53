/-! the memory as the constructors leave it -/
def M0 : am_M := fun o j =>
  if o = 8 then -1 else if o = 9 then -1 else if o = 45 then -1 else if o = 16 then 8 else if o = 17 then 8 else if o = 55 then 8 else if o = 56 then 8
  else if o = 1 then (if j = 0 then 71 else if j = 3 then -1 else 0)
  else if o = 3 then (if j = 0 then 5 else if j = 3 then -1 else 0)
  else if o = 5 then (if j = 0 then 40 else if j = 3 then -1 else 0)
  else if o = 23 then (if j = 2 then -1 else if j = 3 then -1 else 0)
  else if o = 24 then (if j = 4 then 1 else 0)
  else if o = 35 then (if j = 1 then -1 else 0)
  else if o = 36 then (if j = 1 then -1 else 0)
  else if o = 37 then (if j = 1 then -1 else 0)
  else if o = 38 then (if j = 1 then -1 else 0)
  else 0
theorem M0_b (o j : Nat) : -1 ≤ M0 o j ∧ M0 o j ≤ 71 := by
  unfold M0
  (repeat' split) <;> omega
theorem M0_ok : am_ok M0 := by
  intro o j
  have := M0_b o j
  split <;> omega
theorem M0_J : J M0 := by
  have e8 : M0 8 = fun _ => -1 := by funext j; rfl
  have e9 : M0 9 = fun _ => -1 := by funext j; rfl
  have xn : xn0 M0 = 0 ∧ xn1 M0 = 0 ∧ xn2 M0 = 0 := ⟨rfl, rfl, rfl⟩
  have fa : fpAll (M0 2) 0 = (-1, fun _ => -1) := rfl
  have xd : xD M0 = fun _ => -1 := by
    unfold xD dn
    rw [xn.1, fa]
    rfl
  have xp : xP M0 = 0 := by unfold xP vP; rw [xn.2.1]; rfl
  have xw : xW M0 = 0 := by unfold xW vW; rw [xn.2.2]; rfl
  have xnn : xN M0 = 0 := by unfold xN; rw [xw]; rfl
  have c0 : ∀ k, cntP (fun _ => -1) k = 0 := by
    intro k
    induction k with
    | zero => rfl
    | succ k ih => unfold cntP; rw [ih]; rfl
  refine ⟨⟨⟨⟨⟨rfl, rfl, rfl⟩, ⟨by decide, by decide⟩, ⟨by decide, by decide⟩, ⟨by decide, by decide⟩, ?_, ?_, ?_, ⟨by decide, by decide⟩⟩, ⟨?_, ?_, ?_, ?_⟩, ⟨?_, ?_, ?_⟩, ⟨?_, ?_, ?_⟩, ⟨?_, ?_⟩⟩, ?_, rfl, rfl, rfl, ?_, ?_, ?_, rfl⟩, ⟨rfl, by decide, by decide, rfl, by decide, by decide⟩, ?_, ?_, ?_, ⟨rfl, by decide, by decide, ?_⟩, ?_, ⟨rfl, ?_⟩⟩
  · intro j hj; rw [xn.1] at hj; omega
  · intro j hj; rw [xn.2.1] at hj; omega
  · intro j hj; rw [xn.2.2] at hj; omega
  · rw [xn.1, fa]; rfl
  · rw [xd, e8]
  · rw [xd, c0]; rfl
  · rw [xd, e9]; funext j; unfold nbT; rw [if_neg (by intro h; exact h.2 rfl)]
  · rw [xn.2.1]; rfl
  · rw [xp]; rfl
  · intro i hi; rw [xp] at hi; omega
  · rw [xn.2.2]; rfl
  · rw [xw]; rfl
  · intro i hi; rw [xw] at hi; omega
  · rw [xnn]; rfl
  · intro j hj
    rw [xnn] at hj
    obtain rfl : j = 0 := by omega
    rfl
  · intro j _
    have e : M0 49 j = 0 := rfl
    rw [e]
    omega
  · intro j hj; rw [xn.1] at hj; omega
  · intro j hj; rw [xn.2.1] at hj; omega
  · intro j hj; rw [xn.2.2] at hj; omega
  · intro k _
    have e : M0 55 k = 8 := rfl
    rw [e]
    exact ⟨rfl, by omega, by omega⟩
  · intro k _
    have e : M0 56 k = 8 := rfl
    rw [e]
    exact ⟨rfl, by omega, by omega⟩
  · intro k _
    have e : M0 57 k = 0 := rfl
    rw [e]
    exact ⟨rfl, by omega, by omega⟩
  · intro k hk
    have e : M0 44 28 = 0 := rfl
    rw [e] at hk
    omega
  · intro s hs
    have e : M0 45 s = -1 := rfl
    have e2 : M0 46 s = 0 := rfl
    rw [e, e2]
    refine ⟨?_, by omega, by omega, by omega, by omega, fun h => absurd h (by omega)⟩
    rcases s with _ | _ | _ | _ | s
    · rfl
    · rfl
    · rfl
    · rfl
    · omega
  · intro j _
    have e : M0 31 j = 0 := rfl
    rw [e]
    omega
