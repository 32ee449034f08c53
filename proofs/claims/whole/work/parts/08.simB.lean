/-! switches, fields, arrays, calls, returns; a method out of its operations -/
def am_Sound (y : MethodName) (bytes : ByteArray) (maxL : Nat) (ret : Option FieldType) (fr lo : Nat) (S : am_E) : Prop :=
  ∀ (l : Launch) (G : am_G) (as : List am_V) (vs : List Value) (M : am_M) (q : am_Q), am_inj G → am_rvs G.2.1 as vs → S as M q →
    Met l y (Cond.code y bytes maxL ret :: lw_g) ({ frames := fr, cells := 0, slots := 0, locals := lo } : Room) (va_Pc vs (fun U => am_W G M U.heap ∧ va_K G.1 am_cl (am_tys G) U)) (am_Qc G ret q) 0 0 (am_A G)
theorem lw_goodIn {w : Cond} (h : w ∈ lw_g) : GoodIn lw_g (w :: lw_g) := by
  intro u hu
  have hm : u ∈ lw_g := by
    rcases List.mem_cons.mp hu with rfl | h1
    · exact h
    · exact h1
  exact ⟨hm, good_of_word (List.mem_filter.mp hm).2⟩
theorem fk_spec {o ci f c : Nat} (h : am_fk o ci f = some c) : ∃ fs, am_kd o = .inl (ci, fs) ∧ fs[f]? = some c := by
  unfold am_fk at h
  split at h
  next c1 fs hk =>
    split at h
    next e =>
      subst e
      exact ⟨fs, hk, h⟩
    next => cases h
  next => cases h
theorem isC_spec {o ci : Nat} (h : am_isC o ci = true) : ∃ fs, am_kd o = .inl (ci, fs) := by
  unfold am_isC at h
  split at h
  next c1 fs hk =>
    have : c1 = ci := by simpa using h
    subst this
    exact ⟨fs, hk⟩
  next => cases h
theorem al_spec {o k N : Nat} (h : am_al o k = some N) : am_kd o = .inr (k, N) := by
  unfold am_al at h
  split at h
  next => cases h
  next c1 n1 hk =>
    split at h
    next e =>
      subst e
      cases h
      exact hk
    next => cases h
theorem wd_f {o ci f c : Nat} {fs : List Nat} (hk : am_kd o = .inl (ci, fs)) (hf : fs[f]? = some c) : am_wide o f = (c == 1) := by
  unfold am_wide
  rw [hk]
  simp [List.getD_eq_getElem?_getD, hf]
theorem wd_a {o k N j : Nat} (hk : am_kd o = .inr (k, N)) : am_wide o j = (k == 1) := by
  unfold am_wide
  rw [hk]
theorem ok_i {M : am_M} (h : am_ok M) {o j : Nat} (hw : am_wide o j = false) : (Int32.ofInt (M o j)).toInt = M o j := by
  have h1 := h o j
  rw [hw] at h1
  have h2 : -2147483648 ≤ M o j ∧ M o j < 2147483648 := h1
  exact Int32.toInt_ofInt_of_le h2.1 h2.2
theorem ok_l {M : am_M} (h : am_ok M) {o j : Nat} (hw : am_wide o j = true) : (Int64.ofInt (M o j)).toInt = M o j := by
  have h1 := h o j
  rw [hw] at h1
  have h2 : -9223372036854775808 ≤ M o j ∧ M o j < 9223372036854775808 := h1
  exact Int64.toInt_ofInt_of_le h2.1 h2.2
theorem ok_upI {M : am_M} (h : am_ok M) {o j : Nat} (hw : am_wide o j = false) (x : Int32) : am_ok (am_up M o j x.toInt) :=
  ok_up h (by rw [hw]; exact ⟨i32_lo x, i32_hi x⟩)
theorem ok_upL {M : am_M} (h : am_ok M) {o j : Nat} (hw : am_wide o j = true) (x : Int64) : am_ok (am_up M o j x.toInt) :=
  ok_up h (by rw [hw]; exact ⟨i64_lo x, i64_hi x⟩)
theorem tab_le : am_tab.all (fun d => match d with | .inr (_, n) => Nat.ble n 256 | .inl _ => true) = true := by decide +kernel
theorem kd_le {o k N : Nat} (h : am_kd o = .inr (k, N)) : N ≤ 256 := by
  unfold am_kd at h
  rw [List.getD_eq_getElem?_getD] at h
  cases e : am_tab[o]? with
  | none => rw [e] at h; cases h; omega
  | some d =>
    rw [e] at h
    have h1 := List.all_eq_true.mp tab_le d (List.mem_of_getElem? e)
    have h2 : d = .inr (k, N) := h
    rw [h2] at h1
    exact Nat.le_of_ble_eq_true h1
section SIM
variable {own : String} {bytes : ByteArray} {maxL : Nat} {ret : Option FieldType} {R : Room} {pc : Nat}
theorem si_tsw {dflt lo hi : Int} {offs : Array Int} {len d : Nat} {ts : List Nat} (hd : decode bytes pc = .ok (.tableswitch dflt lo hi offs, len)) (h0 : (pc : Int) + dflt = (d : Int)) (h1 : offs.toList.map (fun o => (pc : Int) + o) = ts.map Int.ofNat) (h2 : (ts.length : Int) = hi - lo + 1) : am_Sim own bytes maxL ret R pc (o_tsw lo hi ts d) := by
  intro p l e s m args below meth c G X q C hX als ast M ho H locs ls st hr
  obtain ⟨hx, hb, hml, hret, hlk, hown, hts, hK, hinj⟩ := C
  obtain ⟨hW, hS, hl, hst⟩ := hr
  unfold o_tsw at ho
  split at ho
  next x0 st0 =>
    obtain ⟨v, vs, rfl, h3, h4⟩ := rvs_c hst
    obtain ⟨x, rfl, rfl⟩ := rv_i h3
    unfold am_tgt at ho
    by_cases hc : x.toInt < lo ∨ hi < x.toInt
    · rw [if_pos hc] at ho
      exact lv_tableOut hx hb hd hc h0 (hX _ _ _ _ ho _ _ _ _ ⟨hW, hS, hl, h4⟩)
    · rw [if_neg hc] at ho
      have hlt : (x.toInt - lo).toNat < ts.length := by omega
      have h5 : (offs.toList.map (fun o => (pc : Int) + o))[(x.toInt - lo).toNat]? = some (Int.ofNat (ts.getD (x.toInt - lo).toNat d)) := by
        rw [h1, List.getElem?_map, List.getD_eq_getElem?_getD, List.getElem?_eq_getElem hlt]
        rfl
      rw [List.getElem?_map, Array.getElem?_toList] at h5
      cases e : offs[(x.toInt - lo).toNat]? with
      | none => rw [e] at h5; cases h5
      | some off =>
        rw [e] at h5
        exact lv_tableIn hx hb hd (fun h => hc (Or.inl h)) (fun h => hc (Or.inr h)) e (Option.some.inj h5) (hX _ _ _ _ ho _ _ _ _ ⟨hW, hS, hl, h4⟩)
  next => exact ho.elim
theorem lsw_off (pc d : Nat) (dflt : Int) (h0 : (pc : Int) + dflt = (d : Int)) (v : Int) : ∀ (ps : List (Int × Int)) (ts : List (Int × Nat)), ps.map (fun q => (q.1, (pc : Int) + q.2)) = ts.map (fun q => (q.1, Int.ofNat q.2)) → (pc : Int) + Op.lookupswitch.offset ps dflt v = (am_ltg v d ts : Int)
  | [], [], _ => by rw [Op.lookupswitch.offset_nil]; exact h0
  | [], _ :: _, h => by cases h
  | _ :: _, [], h => by cases h
  | (a, o) :: ps, (b, t) :: ts, h => by
    simp only [List.map_cons, List.cons.injEq, Prod.mk.injEq] at h
    obtain ⟨⟨rfl, h1⟩, h2⟩ := h
    rw [Op.lookupswitch.offset_cons]
    unfold am_ltg
    by_cases e : v = a
    · subst e
      rw [if_pos rfl]
      split
      next => exact h1
      next hne => exact absurd rfl (by first | exact hne | (intro _; exact hne rfl))
    · rw [if_neg e]
      split
      next he => exact absurd (by first | exact he | exact he.symm) e
      next => exact lsw_off pc d dflt h0 v ps ts h2
theorem si_lsw {dflt : Int} {ps : Array (Int × Int)} {len d : Nat} {ts : List (Int × Nat)} (hd : decode bytes pc = .ok (.lookupswitch dflt ps, len)) (h0 : (pc : Int) + dflt = (d : Int)) (hp : (ps.toList.zip (ps.toList.drop 1)).all (fun (a, next) => a.1 < next.1) = true) (h1 : ps.toList.map (fun q => (q.1, (pc : Int) + q.2)) = ts.map (fun q => (q.1, Int.ofNat q.2))) : am_Sim own bytes maxL ret R pc (o_lsw ts d) := by
  intro p l e s m args below meth c G X q C hX als ast M ho H locs ls st hr
  obtain ⟨hx, hb, hml, hret, hlk, hown, hts, hK, hinj⟩ := C
  obtain ⟨hW, hS, hl, hst⟩ := hr
  unfold o_lsw at ho
  split at ho
  next x0 st0 =>
    obtain ⟨v, vs, rfl, h3, h4⟩ := rvs_c hst
    obtain ⟨x, rfl, rfl⟩ := rv_i h3
    exact lv_lookup hx hb hd hp rfl (lsw_off pc d dflt h0 x.toInt _ _ h1) (hX _ _ _ _ ho _ _ _ _ ⟨hW, hS, hl, h4⟩)
  next => exact ho.elim
theorem si_getf {C : String} {T : u_T} {N ci f i : Nat} (hd : decode bytes pc = .ok (.getfield i, 3)) (hc : am_cl[ci]? = some (C, T, N)) (hin : ∀ w ∈ u_ws C T N, w ∈ lw_g) (hf : Nat.ble (f + 1) N = true) (hlink : Cond.fieldLink own i (T f).1 (T f).2.1 (T f).2.2.1 ∈ lw_g) : am_Sim own bytes maxL ret R pc (o_getf ci f (pc + 3)) := by
  intro p l e s m args below meth c G X q C hX als ast M ho H locs ls st hr
  obtain ⟨hx, hb, hml, hret, hlk, hown, hts, hK, hinj⟩ := C
  obtain ⟨hW, hS, hl, hst⟩ := hr
  unfold o_getf at ho
  split at ho
  next o st0 =>
    obtain ⟨v, vs, rfl, h3, h4⟩ := rvs_c hst
    obtain rfl := rv_r h3
    have key : ∀ (c0 : Nat) (w : Value), am_fk o ci f = some c0 → am_fv G.2.1 (M o f) c0 = w → W p l e R s m args below meth c H locs 0 0 (MQ below (am_Qc G ret q) args s 0 0 (am_A G)) (F0 m (pc + 3) ls (w :: vs)) → W p l e R s m args below meth c H locs 0 0 (MQ below (am_Qc G ret q) args s 0 0 (am_A G)) (F0 m pc ls (.ref (G.2.1 o) :: vs)) := by
      intro c0 w hk hw kk
      obtain ⟨fs, k1, k2⟩ := fk_spec hk
      have hlt : o < am_N := kd_lt k1 (by simp)
      have he := wl_at G M hlt
      rw [k1] at he
      exact va_get hx hb hts hin hown hK hW.2 o he hc f (Nat.le_of_ble_eq_true hf) (hts _ hlink) (fun _ h => h) (by rw [fvs_at, k2, Nat.zero_add, ← hw]; rfl) hd kk
    split at ho
    next hk =>
      obtain ⟨fs, k1, k2⟩ := fk_spec hk
      exact key 0 _ hk rfl (hX _ _ _ _ ho _ _ _ _ ⟨hW, hS, hl, ok_i hW.1 (wd_f k1 k2), h4⟩)
    next hk =>
      obtain ⟨fs, k1, k2⟩ := fk_spec hk
      exact key 1 _ hk rfl (hX _ _ _ _ ho _ _ _ _ ⟨hW, hS, hl, ok_l hW.1 (wd_f k1 k2), h4⟩)
    next t hk => exact key (t + 2) _ hk rfl (hX _ _ _ _ ho _ _ _ _ ⟨hW, hS, hl, rfl, h4⟩)
    next => exact ho.elim
  next => exact ho.elim
theorem si_put_core {p : Program} {l : Launch} {e : Env} {s : State} {m : MethodId} {args : Array Value} {below : List Frame} {meth : Method} {c : Code} {G : am_G} {q : am_Q} {M : am_M} {H : Heap} {locs : List Loc} {ls : Array Slot} {vs : List Value} {C : String} {T : u_T} {N ci f i o c0 : Nat} {x : Int} {v : Value} {ty : FieldType}
    (hC : am_Cx G own bytes maxL ret p s m args meth c) (hd : decode bytes pc = .ok (.putfield i, 3)) (hc : am_cl[ci]? = some (C, T, N)) (hin : ∀ w ∈ u_ws C T N, w ∈ lw_g) (ty0 : Nat → FieldType) (hty : ∀ k, k < N → parseFieldDescriptor (T k).2.2.1 = some (ty0 k)) (hnm : ∀ a, a < N → ∀ b, b < N → a ≠ b → (T a).2.1 ≠ (T b).2.1) (hf : Nat.ble (f + 1) N = true) (hlink : Cond.fieldLink own i (T f).1 (T f).2.1 (T f).2.2.1 ∈ lw_g) (hfin : (T f).2.2.2 = false)
    (hk : am_fk o ci f = some c0) (hc0 : c0 < 2) (hv : am_fv G.2.1 x c0 = v) (hdd : parseFieldDescriptor (T f).2.2.1 = some ty) (hn : narrow ty v = v) (hfit : fits ty v = true) (hok : am_ok (am_up M o f x)) (hW : am_W G M H) (hS : va_S (am_A G) s.heap H locs)
    (kk : ∀ (H1 : Heap) (locs1 : List Loc), am_W G (am_up M o f x) H1 → va_S (am_A G) s.heap H1 locs1 → W p l e R s m args below meth c H1 locs1 0 0 (MQ below (am_Qc G ret q) args s 0 0 (am_A G)) (F0 m (pc + 3) ls vs)) :
    W p l e R s m args below meth c H locs 0 0 (MQ below (am_Qc G ret q) args s 0 0 (am_A G)) (F0 m pc ls (v :: .ref (G.2.1 o) :: vs)) := by
  obtain ⟨hx, hb, hml, hret, hlk, hown, hts, hK, hinj⟩ := hC
  obtain ⟨fs, k1, k2⟩ := fk_spec hk
  have hlt : o < am_N := kd_lt k1 (by simp)
  have he := wl_at G M hlt
  rw [k1] at he
  refine va_put hx hb hts hin ty0 hty hnm hown hK hW.2 (wl_D hinj M) hS o he hc f (Nat.le_of_ble_eq_true hf) (hts _ hlink) (fun _ h => h) hfin hdd hn hfit (by rw [fvs_len]; exact (List.getElem?_eq_some_iff.mp k2).1) hd (fun H1 locs1 hP hD hS1 => kk H1 locs1 ⟨hok, ?_⟩ hS1)
  rw [← hv, fvs_set G.2.1 (M o) fs x k2 hc0] at hP
  have e1 : am_cell G (am_set (M o) f x) (am_kd o) = .inr (ci, am_fvs G.2.1 (am_set (M o) f x) 0 fs) := by rw [k1]; rfl
  rw [← e1, wl_set G M hlt, ← up_ob] at hP
  exact hP
theorem si_putI {C : String} {T : u_T} {N ci f i : Nat} (hd : decode bytes pc = .ok (.putfield i, 3)) (hc : am_cl[ci]? = some (C, T, N)) (hin : ∀ w ∈ u_ws C T N, w ∈ lw_g) (ty0 : Nat → FieldType) (hty : ∀ k, k < N → parseFieldDescriptor (T k).2.2.1 = some (ty0 k)) (hnm : ∀ a, a < N → ∀ b, b < N → a ≠ b → (T a).2.1 ≠ (T b).2.1) (hf : Nat.ble (f + 1) N = true) (hlink : Cond.fieldLink own i (T f).1 (T f).2.1 (T f).2.2.1 ∈ lw_g) (hfin : (T f).2.2.2 = false) (hd2 : parseFieldDescriptor (T f).2.2.1 = some .int) : am_Sim own bytes maxL ret R pc (o_putI ci f (pc + 3)) := by
  intro p l e s m args below meth c G X q C hX als ast M ho H locs ls st hr
  have hC := C
  obtain ⟨hW, hS, hl, hst⟩ := hr
  unfold o_putI at ho
  split at ho
  next x0 o st0 =>
    obtain ⟨v, vs, rfl, h1, h2⟩ := rvs_c hst
    obtain ⟨v2, vs2, rfl, h3, h4⟩ := rvs_c h2
    obtain ⟨x, rfl, rfl⟩ := rv_i h1
    obtain rfl := rv_r h3
    obtain ⟨hk, ho⟩ := ho
    obtain ⟨fs, k1, k2⟩ := fk_spec hk
    exact si_put_core hC hd hc hin ty0 hty hnm hf hlink hfin hk (by omega) (show Value.int (Int32.ofInt x.toInt) = .int x by rw [Int32.ofInt_toInt]) hd2 rfl rfl (ok_upI hW.1 (wd_f k1 k2) x) hW hS (fun H1 locs1 hW1 hS1 => hX _ _ _ _ ho _ _ _ _ ⟨hW1, hS1, hl, h4⟩)
  next => exact ho.elim
theorem si_putL {C : String} {T : u_T} {N ci f i : Nat} (hd : decode bytes pc = .ok (.putfield i, 3)) (hc : am_cl[ci]? = some (C, T, N)) (hin : ∀ w ∈ u_ws C T N, w ∈ lw_g) (ty0 : Nat → FieldType) (hty : ∀ k, k < N → parseFieldDescriptor (T k).2.2.1 = some (ty0 k)) (hnm : ∀ a, a < N → ∀ b, b < N → a ≠ b → (T a).2.1 ≠ (T b).2.1) (hf : Nat.ble (f + 1) N = true) (hlink : Cond.fieldLink own i (T f).1 (T f).2.1 (T f).2.2.1 ∈ lw_g) (hfin : (T f).2.2.2 = false) (hd2 : parseFieldDescriptor (T f).2.2.1 = some .long) : am_Sim own bytes maxL ret R pc (o_putL ci f (pc + 3)) := by
  intro p l e s m args below meth c G X q C hX als ast M ho H locs ls st hr
  have hC := C
  obtain ⟨hW, hS, hl, hst⟩ := hr
  unfold o_putL at ho
  split at ho
  next x0 o st0 =>
    obtain ⟨v, vs, rfl, h1, h2⟩ := rvs_c hst
    obtain ⟨v2, vs2, rfl, h3, h4⟩ := rvs_c h2
    obtain ⟨x, rfl, rfl⟩ := rv_l h1
    obtain rfl := rv_r h3
    obtain ⟨hk, ho⟩ := ho
    obtain ⟨fs, k1, k2⟩ := fk_spec hk
    exact si_put_core hC hd hc hin ty0 hty hnm hf hlink hfin hk (by omega) (show Value.long (Int64.ofInt x.toInt) = .long x by rw [Int64.ofInt_toInt]) hd2 rfl rfl (ok_upL hW.1 (wd_f k1 k2) x) hW hS (fun H1 locs1 hW1 hS1 => hX _ _ _ _ ho _ _ _ _ ⟨hW1, hS1, hl, h4⟩)
  next => exact ho.elim
theorem si_iald (hd : decode bytes pc = .ok (.iaload, 1)) : am_Sim own bytes maxL ret R pc (o_iald (pc + 1)) := by
  intro p l e s m args below meth c G X q C hX als ast M ho H locs ls st hr
  obtain ⟨hx, hb, hml, hret, hlk, hown, hts, hK, hinj⟩ := C
  obtain ⟨hW, hS, hl, hst⟩ := hr
  unfold o_iald at ho
  split at ho
  next i0 o st0 =>
    obtain ⟨v, vs, rfl, h1, h2⟩ := rvs_c hst
    obtain ⟨v2, vs2, rfl, h3, h4⟩ := rvs_c h2
    obtain ⟨i, rfl, rfl⟩ := rv_i h1
    obtain rfl := rv_r h3
    obtain ⟨⟨N, ha, b1, b2⟩, ho⟩ := ho
    have k1 := al_spec ha
    have hlt : o < am_N := kd_lt k1 (by simp; omega)
    have he := wl_at G M hlt
    rw [k1] at he
    exact va_iald hx hb hK hW.2 o 0 he rfl (n_idx b1 b2) hd (hX _ _ _ _ ho _ _ _ _ ⟨hW, hS, hl, ok_i hW.1 (wd_a k1), h4⟩)
  next => exact ho.elim
theorem si_lald (hd : decode bytes pc = .ok (.laload, 1)) : am_Sim own bytes maxL ret R pc (o_lald (pc + 1)) := by
  intro p l e s m args below meth c G X q C hX als ast M ho H locs ls st hr
  obtain ⟨hx, hb, hml, hret, hlk, hown, hts, hK, hinj⟩ := C
  obtain ⟨hW, hS, hl, hst⟩ := hr
  unfold o_lald at ho
  split at ho
  next i0 o st0 =>
    obtain ⟨v, vs, rfl, h1, h2⟩ := rvs_c hst
    obtain ⟨v2, vs2, rfl, h3, h4⟩ := rvs_c h2
    obtain ⟨i, rfl, rfl⟩ := rv_i h1
    obtain rfl := rv_r h3
    obtain ⟨⟨N, ha, b1, b2⟩, ho⟩ := ho
    have k1 := al_spec ha
    have hlt : o < am_N := kd_lt k1 (by simp)
    have he := wl_at G M hlt
    rw [k1] at he
    exact va_lald hx hb hK hW.2 o 1 he rfl (n_idx b1 b2) hd (hX _ _ _ _ ho _ _ _ _ ⟨hW, hS, hl, ok_l hW.1 (wd_a k1), h4⟩)
  next => exact ho.elim
theorem si_aald (hd : decode bytes pc = .ok (.aaload, 1)) : am_Sim own bytes maxL ret R pc (o_aald (pc + 1)) := by
  intro p l e s m args below meth c G X q C hX als ast M ho H locs ls st hr
  obtain ⟨hx, hb, hml, hret, hlk, hown, hts, hK, hinj⟩ := C
  obtain ⟨hW, hS, hl, hst⟩ := hr
  unfold o_aald at ho
  split at ho
  next i0 o st0 =>
    obtain ⟨v, vs, rfl, h1, h2⟩ := rvs_c hst
    obtain ⟨v2, vs2, rfl, h3, h4⟩ := rvs_c h2
    obtain ⟨i, rfl, rfl⟩ := rv_i h1
    obtain rfl := rv_r h3
    split at ho
    next b N k1 =>
      obtain ⟨⟨b1, b2⟩, ho⟩ := ho
      have hlt : o < am_N := kd_lt k1 (by simp)
      have he := wl_at G M hlt
      rw [k1] at he
      exact va_aldq hx hb hK hW.2 o 2 he rfl (n_idx b1 b2) hd (hX _ _ _ _ ho _ _ _ _ ⟨hW, hS, hl, rfl, h4⟩)
    next => exact ho.elim
  next => exact ho.elim
theorem si_iast (hd : decode bytes pc = .ok (.iastore, 1)) : am_Sim own bytes maxL ret R pc (o_iast (pc + 1)) := by
  intro p l e s m args below meth c G X q C hX als ast M ho H locs ls st hr
  obtain ⟨hx, hb, hml, hret, hlk, hown, hts, hK, hinj⟩ := C
  obtain ⟨hW, hS, hl, hst⟩ := hr
  unfold o_iast at ho
  split at ho
  next x0 i0 o st0 =>
    obtain ⟨v, vs, rfl, h1, h2⟩ := rvs_c hst
    obtain ⟨v2, vs2, rfl, h3, h4⟩ := rvs_c h2
    obtain ⟨v3, vs3, rfl, h5, h6⟩ := rvs_c h4
    obtain ⟨x, rfl, rfl⟩ := rv_i h1
    obtain ⟨i, rfl, rfl⟩ := rv_i h3
    obtain rfl := rv_r h5
    obtain ⟨⟨N, ha, b1, b2⟩, ho⟩ := ho
    have k1 := al_spec ha
    have hlt : o < am_N := kd_lt k1 (by simp; omega)
    have he := wl_at G M hlt
    rw [k1] at he
    refine va_iast hx hb hK hW.2 (wl_D hinj M) hS o 0 he rfl (n_idx b1 b2) hd (fun H1 locs1 hP hD hS1 => hX _ _ _ _ ho _ _ _ _ ⟨⟨ok_upI hW.1 (wd_a k1) x, ?_⟩, hS1, hl, h6⟩)
    have e1 : am_cell G (am_set (M o) i.toInt.toNat x.toInt) (am_kd o) = .inl (G.2.2.1, N, .inl (upd (fun j => Int32.ofInt (M o j)) i.toNatClampNeg x)) := by
      rw [k1]
      show (Sum.inl (G.2.2.1, N, Sum.inl (fun j => Int32.ofInt (am_set (M o) i.toInt.toNat x.toInt j))) : va_E) = _
      congr 4
      funext j
      unfold am_set upd
      rw [n_clamp]
      split
      · rw [Int32.ofInt_toInt]
      · rfl
    rw [← e1, wl_set G M hlt, ← up_ob] at hP
    exact hP
  next => exact ho.elim
theorem si_last (hd : decode bytes pc = .ok (.lastore, 1)) : am_Sim own bytes maxL ret R pc (o_last (pc + 1)) := by
  intro p l e s m args below meth c G X q C hX als ast M ho H locs ls st hr
  obtain ⟨hx, hb, hml, hret, hlk, hown, hts, hK, hinj⟩ := C
  obtain ⟨hW, hS, hl, hst⟩ := hr
  unfold o_last at ho
  split at ho
  next x0 i0 o st0 =>
    obtain ⟨v, vs, rfl, h1, h2⟩ := rvs_c hst
    obtain ⟨v2, vs2, rfl, h3, h4⟩ := rvs_c h2
    obtain ⟨v3, vs3, rfl, h5, h6⟩ := rvs_c h4
    obtain ⟨x, rfl, rfl⟩ := rv_l h1
    obtain ⟨i, rfl, rfl⟩ := rv_i h3
    obtain rfl := rv_r h5
    obtain ⟨⟨N, ha, b1, b2⟩, ho⟩ := ho
    have k1 := al_spec ha
    have hlt : o < am_N := kd_lt k1 (by simp)
    have he := wl_at G M hlt
    rw [k1] at he
    refine va_last hx hb hK hW.2 (wl_D hinj M) hS o 1 he rfl (n_idx b1 b2) hd (fun H1 locs1 hP hD hS1 => hX _ _ _ _ ho _ _ _ _ ⟨⟨ok_upL hW.1 (wd_a k1) x, ?_⟩, hS1, hl, h6⟩)
    have e1 : am_cell G (am_set (M o) i.toInt.toNat x.toInt) (am_kd o) = .inl (G.2.2.2.1, N, .inr (.inl (vp_updL (fun j => Int64.ofInt (M o j)) i.toNatClampNeg x))) := by
      rw [k1]
      show (Sum.inl (G.2.2.2.1, N, Sum.inr (Sum.inl (fun j => Int64.ofInt (am_set (M o) i.toInt.toNat x.toInt j)))) : va_E) = _
      congr 5
      funext j
      unfold am_set vp_updL
      rw [n_clamp]
      split
      · rw [Int64.ofInt_toInt]
      · rfl
    rw [← e1, wl_set G M hlt, ← up_ob] at hP
    exact hP
  next => exact ho.elim
theorem si_alen (hd : decode bytes pc = .ok (.arraylength, 1)) : am_Sim own bytes maxL ret R pc (o_alen (pc + 1)) := by
  intro p l e s m args below meth c G X q C hX als ast M ho H locs ls st hr
  obtain ⟨hx, hb, hml, hret, hlk, hown, hts, hK, hinj⟩ := C
  obtain ⟨hW, hS, hl, hst⟩ := hr
  unfold o_alen at ho
  split at ho
  next o st0 =>
    obtain ⟨v, vs, rfl, h1, h2⟩ := rvs_c hst
    obtain rfl := rv_r h1
    have nn : ∀ N : Nat, N ≤ 256 → (Int32.ofNat N).toInt = (N : Int) := fun N h => Int32.toInt_ofNat_of_lt (by omega)
    split at ho
    next N k1 =>
      have hlt : o < am_N := kd_lt k1 (by simp; omega)
      have he := wl_at G M hlt
      rw [k1] at he
      exact va_alen hx hb hK hW.2 o 0 he (ty := .int) rfl rfl hd (hX _ _ _ _ ho.2 _ _ _ _ ⟨hW, hS, hl, nn N (kd_le k1), h2⟩)
    next N k1 =>
      have hlt : o < am_N := kd_lt k1 (by simp)
      have he := wl_at G M hlt
      rw [k1] at he
      exact va_alen hx hb hK hW.2 o 1 he (ty := .long) rfl rfl hd (hX _ _ _ _ ho.2 _ _ _ _ ⟨hW, hS, hl, nn N (kd_le k1), h2⟩)
    next => exact ho.elim
  next => exact ho.elim
end SIM
