/-! the law's rows: a script's int, a call -/
abbrev lA (s : State) : Nat → Prop := fun q => s.heap.size ≤ q
def lCx (p : Program) (s : State) (m : MethodId) (c : Code) (b L : Nat) (xs : Nat → Int32) (G : am_G) : Prop :=
  p.tables.exec = Jvm.exec ∧ c.code = code ∧ c.maxLocals = 4 ∧ s.vm.findClass RL = some m.cls ∧ (∀ w ∈ lw_g, w.before #[Value.ref b] s = true) ∧ va_X b L xs s s.heap ∧ b < s.heap.size ∧ va_K G.1 am_cl (am_tys G) s ∧ am_inj G ∧ (∀ q, am_A G q → lA s q) ∧ L ≤ 384
theorem i32_r (x : Int32) : -2147483648 ≤ x.toInt ∧ x.toInt < 2147483648 := by
  have h1 := Int32.toInt_lt x
  have h2 := Int32.le_toInt x
  omega
section LAW
variable {p : Program} {l : Launch} {e : Env} {s : State} {m : MethodId} {below : List Frame} {meth : Method} {c : Code} {H : Heap} {locs : List Loc} {cells slots : Nat} {Q : State → Prop} {pc : Nat} {ls : Array Slot} {G : am_G} {b L : Nat} {xs : Nat → Int32}
abbrev lLv (G : am_G) (b i : Nat) : List (Nat × Value) := [(3, .int (nI i)), (2, .ref (G.2.1 44)), (1, .ref (G.2.1 0)), (0, .ref b)]
theorem lw_arg {i : Nat} (C : lCx p s m c b L xs G) (k : Nat) {kz : Int} (hkz : Int32.ofInt kz = nI k) (hk : k ≤ 5) (hi : i + 6 ≤ L) (hS : va_S (lA s) s.heap H locs) (hl : lv_has ls 4 (lLv G b i)) {rest : List Value}
    (d0 : decode code pc = .ok (.aload_n 0, 1)) (d1 : decode code (pc + 1) = .ok (.iload_n 3, 1)) (d2 : decode code (pc + 2) = .ok (.iconst kz, 1)) (d3 : decode code (pc + 3) = .ok (.iadd, 1)) (d4 : decode code (pc + 4) = .ok (.iaload, 1))
    (kk : W p l e room_1 s m #[Value.ref b] below meth c H locs cells slots Q (F0 m (pc + 5) ls (.int (xs (i + k)) :: rest))) : W p l e room_1 s m #[Value.ref b] below meth c H locs cells slots Q (F0 m pc ls rest) := by
  obtain ⟨hx, hb, hml, hown, hts, hX, hbl, hK, hinj, hAG, hL⟩ := C
  refine lv_aload_n hx hb d0 rfl (lv_at hl 3 rfl) ?_
  refine lv_iload_n hx hb d1 rfl (lv_at hl 0 rfl) ?_
  refine lv_iconst (v := nI k) hx hb d2 hkz ?_
  refine lv_iadd hx hb d3 ?_
  have e1 : nI i + nI k = nI (i + k) := (Int32.ofNat_add i k).symm
  rw [e1]
  refine va_sld hx hb hX hbl (A := lA s) (Nat.not_le.mpr hbl) hS (vp_in_nI (by omega) (by omega)) d4 ?_
  rw [nI_clamp (by omega)]
  exact kk
theorem lw_call {S : am_E} {z : MethodName} {zb : ByteArray} {zL fr lo i ci N : Nat} {T : u_T} {C : String} {zty : FieldType} {rest : List Value} {q : am_Q} {M : am_M} {fs : List Nat} (X : lCx p s m c b L xs G)
    (hZ : am_Sound z zb zL (some zty) fr lo S) (o n : Nat) (as : List am_V) (vs : List Value) (ho : o < am_N) (hc : am_cl[ci]? = some (C, T, N)) (hkd : am_kd o = .inl (ci, fs))
    (hd : decode code pc = .ok (.invokevirtual i, 3)) (hli : Cond.methodLink RL i z ∈ lw_g) (hst : Cond.instanceMethod z ∈ lw_g) (hse : Cond.selects C z z ∈ lw_g) (hini : Cond.initialized z.cls ∈ lw_g) (hcode : Cond.code z zb zL (some zty) ∈ lw_g) (hdd : z.cls ≠ "java/lang/invoke/MethodHandle" ∧ z.cls ≠ "java/lang/invoke/VarHandle" ∧ (parseMethodDescriptor z.desc).map (fun d => d.parameters.length) = some n) (hR : Nat.ble (fr + 1) 9 = true ∧ Nat.ble (8 + (zL + 11) + lo) 354 = true)
    (hn : vs.length = n) (hls : ls.size = 4) (hcat : (rest.map fun v => v.category).sum ≤ 8) (hcs : cells ≤ 600000 ∧ slots ≤ 7302250)
    (hW : am_W G M H) (hS : va_S (lA s) s.heap H locs) (hrv : am_rvs G.2.1 as vs) (hq : S (aR o :: as) M q)
    (kk : ∀ (r : am_V) (M' : am_M) (v : Value) (H1 : Heap) (locs1 : List Loc), q r M' → am_rv G.2.1 r v → am_W G M' H1 → va_S (lA s) s.heap H1 locs1 → W p l e room_1 s m #[Value.ref b] below meth c H1 locs1 cells slots Q (F0 m (pc + 3) ls (v :: rest))) :
    W p l e room_1 s m #[Value.ref b] below meth c H locs cells slots Q (F0 m pc ls (vs.reverse ++ .ref (G.2.1 o) :: rest)) := by
  obtain ⟨hx, hb, hml, hown, hts, hX, hbl, hK, hinj, hAG, hL⟩ := X
  have he := wl_at G M ho
  rw [hkd] at he
  have hM := hZ l G (aR o :: as) (Value.ref (G.2.1 o) :: vs) M _ hinj ⟨rfl, hrv⟩ hq
  have cb := callB_of (R := room_1) n hts (lw_goodIn hcode) rfl rfl rfl (hts _ hini) (hts _ hli) hdd ⟨Nat.le_of_ble_eq_true hR.1, Nat.le_of_ble_eq_true hR.2⟩ (rm := { frames := fr, cells := 0, slots := 0, locals := lo })
  have hr := va_runV (b := G.2.1 o) (C := C) (As := vs) (rest := rest) (g := F0 m pc ls (vs.reverse ++ .ref (G.2.1 o) :: rest)) (locs := locs) (below := below) (meth := meth) (e := e) (cells := cells) (slots := slots) ⟨hx, hb, hml, hown, hts⟩ hM ⟨cb, hts _ hst, hts _ hse⟩ ⟨am_blind, va_recv hK hW.2 hc he, fun U hU hW1 => ⟨rfl, by rw [hU]; exact hW, va_K.moved hW1.alike hK⟩⟩ rfl hn hls rfl (lv_room hcat) hd hcs
  intro T hT X
  obtain ⟨v, st₀, t, T', L, h0, X', hL, e1, e2, ⟨⟨r, M', hq, hout, hW', hK'⟩, hz, hk⟩, st⟩ := hr T hT X
  rw [h0] at hz hk
  obtain ⟨w, hw1, hw2⟩ := hout
  have hw3 : v = some w := by simpa using hw1
  subst hw3
  obtain ⟨t2, a1, b1⟩ := kk r M' w T'.heap (locs ++ L) hq hw2 (by rw [e1]; exact hW')
    ⟨Nat.le_trans hS.1 (by rw [e1]; exact hz), fun x h1 h2 => by rw [e1, hk x (Nat.lt_of_lt_of_le h1 hS.1) (fun h3 => h2 (hAG x h3))]; exact hS.2.1 x h1 h2, fun x hx => by
      rcases List.mem_append.mp hx with h | h
      · exact hS.2.2 x h
      · exact hAG _ (hL x h)⟩ T' rfl X'
  exact ⟨t2, st t2 a1, b1⟩
end LAW
theorem cat_le (v : Value) : v.category ≤ 2 := by
  unfold Value.category
  split <;> omega
theorem cmp_self (x : Int64) : lg_cmp x x = 0 := by
  unfold lg_cmp
  simp
section LAWC0
variable {p : Program} {l : Launch} {e : Env} {s : State} {m : MethodId} {below : List Frame} {meth : Method} {c : Code} {H : Heap} {locs : List Loc} {cells slots : Nat} {Q : State → Prop} {ls : Array Slot} {G : am_G} {b L : Nat} {xs : Nat → Int32} {i : Nat} {M : am_M}
theorem lw_c0 (C : lCx p s m c b L xs G) (hcs : cells ≤ 600000 ∧ slots ≤ 7302250) (hi : i + 6 ≤ L) (hJ : J M) (hW : am_W G M H) (hS : va_S (lA s) s.heap H locs) (hl : lv_has ls 4 (lLv G b i))
    (kk : ∀ (M1 : am_M) (H1 : Heap) (locs1 : List Loc), J M1 → am_W G M1 H1 → va_S (lA s) s.heap H1 locs1 → W p l e room_1 s m #[Value.ref b] below meth c H1 locs1 cells slots Q (F0 m 1383 ls [])) : W p l e room_1 s m #[Value.ref b] below meth c H locs cells slots Q (F0 m 196 ls []) := by
  have hx := C.1
  have hb := C.2.1
  refine lv_aload_n hx hb dL_law_196 rfl (lv_at hl 2 rfl) ?_
  refine lw_arg (pc := 197) C 1 (by decide) (by decide) hi hS hl dL_law_197 dL_law_198 dL_law_199 dL_law_200 dL_law_201 ?_
  refine lw_arg (pc := 202) C 2 (by decide) (by decide) hi hS hl dL_law_202 dL_law_203 dL_law_204 dL_law_205 dL_law_206 ?_
  refine lw_call (pc := 207) (rest := []) (C := RX11) C snd_11_type 0 2 [aI (xs (i + 1)).toInt, aI (xs (i + 2)).toInt] [.int (xs (i + 1)), .int (xs (i + 2))] (by decide) (ci := 11) rfl rfl dL_law_207 (in_g (i := 377) (by decide +kernel) (by decide +kernel)) (in_g (i := 378) (by decide +kernel) (by decide +kernel)) (in_g (i := 379) (by decide +kernel) (by decide +kernel)) (in_g (i := 65) (by decide +kernel) (by decide +kernel)) (in_g (i := 380) (by decide +kernel) (by decide +kernel)) (by decide +kernel) ⟨rfl, rfl⟩ rfl hl.1 (Nat.zero_le _) hcs hW hS (by exact ⟨rfl, rfl, trivial⟩) (lc_type hJ) (fun r1 M1 w1 H locs hq1 hv1 hW hS => ?_)
  have hcat1 : (([w1] : List Value).map fun v => v.category).sum ≤ 8 := by rw [List.map_cons, List.map_nil, List.sum_cons, List.sum_nil]; have := cat_le w1; omega
  refine lv_aload_n hx hb dL_law_210 rfl (lv_at hl 1 rfl) ?_
  refine lw_arg (pc := 211) C 1 (by decide) (by decide) hi hS hl dL_law_211 dL_law_212 dL_law_213 dL_law_214 dL_law_215 ?_
  refine lw_arg (pc := 216) C 2 (by decide) (by decide) hi hS hl dL_law_216 dL_law_217 dL_law_218 dL_law_219 dL_law_220 ?_
  refine lw_call (pc := 221) (rest := [w1]) (C := RX12) C snd_12_type 44 2 [aI (xs (i + 1)).toInt, aI (xs (i + 2)).toInt] [.int (xs (i + 1)), .int (xs (i + 2))] (by decide) (ci := 12) rfl rfl dL_law_221 (in_g (i := 1100) (by decide +kernel) (by decide +kernel)) (in_g (i := 1101) (by decide +kernel) (by decide +kernel)) (in_g (i := 1102) (by decide +kernel) (by decide +kernel)) (in_g (i := 78) (by decide +kernel) (by decide +kernel)) (in_g (i := 1103) (by decide +kernel) (by decide +kernel)) (by decide +kernel) ⟨rfl, rfl⟩ rfl hl.1 hcat1 hcs hW hS (by exact ⟨rfl, rfl, trivial⟩) (hq1) (fun r2 M2 w2 H locs hq2 hv2 hW hS => ?_)
  obtain ⟨⟨v, e1, e2⟩, hJ2⟩ := hq2
  subst e1
  subst e2
  obtain ⟨x, rfl, h1⟩ := rv_i hv1
  obtain ⟨y, rfl, h2⟩ := rv_i hv2
  obtain rfl : x = y := Int32.toInt_inj.mp (h1.trans h2.symm)
  exact lv_icmp_eq (tgt := 1383) hx hb dL_law_224 (by decide) (fun _ => kk M2 H locs hJ2 hW hS) (fun h => absurd rfl h)
theorem lw_c1 (C : lCx p s m c b L xs G) (hcs : cells ≤ 600000 ∧ slots ≤ 7302250) (hi : i + 6 ≤ L) (hJ : J M) (hW : am_W G M H) (hS : va_S (lA s) s.heap H locs) (hl : lv_has ls 4 (lLv G b i))
    (kk : ∀ (M1 : am_M) (H1 : Heap) (locs1 : List Loc), J M1 → am_W G M1 H1 → va_S (lA s) s.heap H1 locs1 → W p l e room_1 s m #[Value.ref b] below meth c H1 locs1 cells slots Q (F0 m 1383 ls [])) : W p l e room_1 s m #[Value.ref b] below meth c H locs cells slots Q (F0 m 229 ls []) := by
  have hx := C.1
  have hb := C.2.1
  refine lv_aload_n hx hb dL_law_229 rfl (lv_at hl 2 rfl) ?_
  refine lw_arg (pc := 230) C 1 (by decide) (by decide) hi hS hl dL_law_230 dL_law_231 dL_law_232 dL_law_233 dL_law_234 ?_
  refine lw_call (pc := 235) (rest := []) (C := RX11) C snd_11_wipe 0 1 [aI (xs (i + 1)).toInt] [.int (xs (i + 1))] (by decide) (ci := 11) rfl rfl dL_law_235 (in_g (i := 445) (by decide +kernel) (by decide +kernel)) (in_g (i := 446) (by decide +kernel) (by decide +kernel)) (in_g (i := 447) (by decide +kernel) (by decide +kernel)) (in_g (i := 65) (by decide +kernel) (by decide +kernel)) (in_g (i := 448) (by decide +kernel) (by decide +kernel)) (by decide +kernel) ⟨rfl, rfl⟩ rfl hl.1 (Nat.zero_le _) hcs hW hS (by exact ⟨rfl, trivial⟩) (lc_wipe hJ) (fun r1 M1 w1 H locs hq1 hv1 hW hS => ?_)
  have hcat1 : (([w1] : List Value).map fun v => v.category).sum ≤ 8 := by rw [List.map_cons, List.map_nil, List.sum_cons, List.sum_nil]; have := cat_le w1; omega
  refine lv_aload_n hx hb dL_law_238 rfl (lv_at hl 1 rfl) ?_
  refine lw_arg (pc := 239) C 1 (by decide) (by decide) hi hS hl dL_law_239 dL_law_240 dL_law_241 dL_law_242 dL_law_243 ?_
  refine lw_call (pc := 244) (rest := [w1]) (C := RX12) C snd_12_wipe 44 1 [aI (xs (i + 1)).toInt] [.int (xs (i + 1))] (by decide) (ci := 12) rfl rfl dL_law_244 (in_g (i := 1108) (by decide +kernel) (by decide +kernel)) (in_g (i := 1109) (by decide +kernel) (by decide +kernel)) (in_g (i := 1110) (by decide +kernel) (by decide +kernel)) (in_g (i := 78) (by decide +kernel) (by decide +kernel)) (in_g (i := 1111) (by decide +kernel) (by decide +kernel)) (by decide +kernel) ⟨rfl, rfl⟩ rfl hl.1 hcat1 hcs hW hS (by exact ⟨rfl, trivial⟩) (hq1) (fun r2 M2 w2 H locs hq2 hv2 hW hS => ?_)
  obtain ⟨⟨v, e1, e2⟩, hJ2⟩ := hq2
  subst e1
  subst e2
  obtain ⟨x, rfl, h1⟩ := rv_i hv1
  obtain ⟨y, rfl, h2⟩ := rv_i hv2
  obtain rfl : x = y := Int32.toInt_inj.mp (h1.trans h2.symm)
  exact lv_icmp_eq (tgt := 1383) hx hb dL_law_247 (by decide) (fun _ => kk M2 H locs hJ2 hW hS) (fun h => absurd rfl h)
end LAWC0
