/-! THE CLAIM OUT OF ONE WALK OF THE LAW'S BODY. Your part is whole_start (and what it stands on); all else here is the same for every law, but numbers. -/
def R_law : String := "HandInHandLaw"
def lw_P (b : Addr) (xs : List Int32) (args : Array Value) (s : State) : Prop := args = #[.ref b] ∧ s.IntsAt b xs ∧ xs.length ≤ 384 ∧ (Jvm.Cond.and given_1 narrow_1).before args s = true
def lw_Q (_ : Array Value) (s : State) (o : Outcome) (t : State) : Prop := o = .returned (some (.int 1)) ∧ Framed s o t [] 600000 7302250
def lw_Z (below : List Frame) (a : Array Value) (s : State) : State → Prop := fun t => ∃ o, t.status = .running ∧ Ended t below o ∧ lw_Q a s o t
/-- the law's own end, with 1 on the stack, nothing written that was there before, its room as the claim has it -/
theorem lw_ret {p : Program} {l : Launch} {e : Env} {s : State} {m : MethodId} {below : List Frame} {meth : Method} {c : Code} {b : Nat} (hx : p.tables.exec = Jvm.exec) (hb : c.code = code) (hr : meth.sig.returnType = ret) (hlocks : meth.locks = false) {pc : Nat} {H : Heap} {ls : Array Slot} (hdg : decode code pc = .ok (.ireturn, 1)) : W p l e room_1 s m #[Value.ref b] below meth c H [] 600000 7302250 (lw_Z below #[Value.ref b] s) (F0 m pc ls [.int 1]) := by
  intro T hT X
  obtain ⟨fs, hret, hrun, hended, hW, hframe⟩ := X.leave (v := some (.int 1)) (hlocks := hlocks) (fun h => by rw [hr] at h; cases h)
  have hmeth' : T.vm.method? m = some meth := X.method'
  refine ⟨T.setFrames fs, ?_, .returned (some (.int 1)), hrun, hended, rfl, ⟨_, rfl⟩, hW, hframe⟩
  jvm_step X.here [X.here.top, hx, hb, hdg, hmeth', hr, ret, narrow_b1]
  (try refine ⟨rfl, ?_⟩); (try refine ⟨rfl, ?_⟩)
  first | (intro acts; rw [hret _ acts rfl rfl rfl]) | rw [hret _ _ rfl rfl rfl]
  exact Steps.refl _
/-- what holds at the law's entry: the machine, the code, the tables' words (any of lw_tbl by 'hts w (by decide +kernel)'), the script of L ints xs at the cell b, what the Statement gives of the start (any of its parts by flat_of_before) -/
def lw_At (p : Program) (s : State) (m : MethodId) (meth : Method) (c : Code) (b L : Nat) (xs : Nat → Int32) : Prop :=
  p.tables.exec = Jvm.exec ∧ c.code = code ∧ meth.sig.returnType = ret ∧ c.maxLocals = 4 ∧ s.vm.findClass R_law = some m.cls ∧ (∀ w ∈ lw_tbl, w.before #[Value.ref b] s = true) ∧ va_X b L xs s s.heap ∧ b < s.heap.size ∧ meth.locks = false ∧ (Jvm.Cond.and given_1 narrow_1).before #[Value.ref b] s = true
theorem sub6 {L i : Nat} (hL : L ≤ 384) (hi : i ≤ 400) (h : ¬ Int32.ofNat L - 6 < nI i) : i + 6 ≤ L := by
  rw [Int32.lt_iff_toInt_lt, nI_toInt (by omega)] at h
  have e0 : (Int32.ofNat L).toInt = (L : Int) := nI_toInt (by omega)
  have e6 : (6 : Int32).toInt = 6 := by decide
  have e : (Int32.ofNat L - 6).toInt = (L : Int) - 6 := by
    rw [Int32.toInt_sub, e0, e6, Int.bmod_def]
    split <;> omega
  rw [e] at h
  omega
theorem nI_6 (i : Nat) : nI i + Int32.ofInt 6 = nI (i + 6) := (Int32.ofNat_add i 6).symm
section LOOP
variable {p : Program} {l : Launch} {e : Env} {s : State} {m : MethodId} {below : List Frame} {meth : Method} {c : Code} {cells slots : Nat} {G : am_G} {b L : Nat} {xs : Nat → Int32}
set_option maxHeartbeats 4000000 in
set_option maxRecDepth 100000 in
theorem law_loop (C : lCx p s m c b L xs G) (hcs : cells ≤ 600000 ∧ slots ≤ 7302250) (hr : meth.sig.returnType = ret) (hlocks : meth.locks = false) : ∀ (d i : Nat) (M : am_M) (H : Heap) (locs : List Loc) (ls : Array Slot), L ≤ i + d → i ≤ 400 → J M → am_W G M H → va_S (lA s) s.heap H locs → lv_has ls 4 (lLv G b i) → W p l e room_1 s m #[Value.ref b] below meth c H locs cells slots (lw_Z below #[Value.ref b] s) (F0 m 18 ls []) := by
  intro d
  have hx := C.1
  have hb := C.2.1
  have hX := C.2.2.2.2.2.1
  have hbl := C.2.2.2.2.2.2.1
  have hL : L ≤ 384 := C.2.2.2.2.2.2.2.2.2.2
  induction d with
  | zero =>
    intro i M H locs ls hd hi hJ hW hS hl
    refine lv_iload_n hx hb dL_law_18 rfl (lv_at hl 0 rfl) ?_
    refine lv_aload_n hx hb dL_law_19 rfl (lv_at hl 3 rfl) ?_
    refine va_slen hx hb hX hbl (A := lA s) (Nat.not_le.mpr hbl) hS dL_law_20 ?_
    refine lv_bipush (v := 6) hx hb dL_law_21 (by decide) ?_
    refine lv_isub hx hb dL_law_23 ?_
    refine lv_icmp_gt (tgt := 1389) hx hb dL_law_24 (by decide) (fun _ => ?_) (fun h => absurd (sub6 hL hi h) (by omega))
    refine lv_iconst (v := 1) hx hb dL_law_1389 (by decide) ?_
    refine W.widen (k := 600000) (n := 7302250) hcs.1 hcs.2 ?_
    refine va_forget hS.2.2 ?_
    exact lw_ret hx hb hr hlocks dL_law_1390
  | succ d ih =>
    intro i M H locs ls hd hi hJ hW hS hl
    refine lv_iload_n hx hb dL_law_18 rfl (lv_at hl 0 rfl) ?_
    refine lv_aload_n hx hb dL_law_19 rfl (lv_at hl 3 rfl) ?_
    refine va_slen hx hb hX hbl (A := lA s) (Nat.not_le.mpr hbl) hS dL_law_20 ?_
    refine lv_bipush (v := 6) hx hb dL_law_21 (by decide) ?_
    refine lv_isub hx hb dL_law_23 ?_
    refine lv_icmp_gt (tgt := 1389) hx hb dL_law_24 (by decide) (fun _ => ?_) (fun h => ?_)
    · refine lv_iconst (v := 1) hx hb dL_law_1389 (by decide) ?_
      refine W.widen (k := 600000) (n := 7302250) hcs.1 hcs.2 ?_
      refine va_forget hS.2.2 ?_
      exact lw_ret hx hb hr hlocks dL_law_1390
    · have h6 := sub6 hL hi h
      have next : ∀ (M1 : am_M) (H1 : Heap) (locs1 : List Loc), J M1 → am_W G M1 H1 → va_S (lA s) s.heap H1 locs1 → W p l e room_1 s m #[Value.ref b] below meth c H1 locs1 cells slots (lw_Z below #[Value.ref b] s) (F0 m 1383 ls []) := by
        intro M1 H1 locs1 hJ1 hW1 hS1
        refine lv_iinc (v := nI (i + 6)) (k := 0) (lv' := lLv G b (i + 6)) hx hb dL_law_1383 hl rfl (nI_6 i) (by decide) rfl (fun ls hl => ?_)
        refine lv_goto (tgt := 18) hx hb dL_law_1386 (by decide) ?_
        exact ih (i + 6) M1 H1 locs1 ls (by omega) (by omega) hJ1 hW1 hS1 hl
      refine lv_aload_n hx hb dL_law_27 rfl (lv_at hl 3 rfl) ?_
      refine lv_iload_n hx hb dL_law_28 rfl (lv_at hl 0 rfl) ?_
      refine va_sld hx hb hX hbl (A := lA s) (Nat.not_le.mpr hbl) hS (vp_in_nI (by omega) (by omega)) dL_law_29 ?_
      refine lv_bipush (v := 63) hx hb dL_law_30 (by decide) ?_
      refine lv_iand hx hb dL_law_32 ?_
      generalize (xs (nI i).toNatClampNeg &&& 63) = x
      by_cases h0 : x.toInt < 0 ∨ 36 < x.toInt
      · exact lv_tableOut (tgt := 1383) hx hb dL_law_33 h0 (by decide) (next M H locs hJ hW hS)
      · obtain ⟨k, hk⟩ : ∃ k : Nat, x.toInt = (k : Int) := ⟨x.toInt.toNat, by omega⟩
        have hk37 : k < 37 := by omega
        clear h0 h
        match k, hk37, hk with
        | 0, _, hk => exact lv_tableIn (off := 163) (tgt := 196) hx hb dL_law_33 (by rw [hk]; decide) (by rw [hk]; decide) (by rw [hk]; rfl) (by decide) (lw_c0 C hcs h6 hJ hW hS hl next)
        | 1, _, hk => exact lv_tableIn (off := 196) (tgt := 229) hx hb dL_law_33 (by rw [hk]; decide) (by rw [hk]; decide) (by rw [hk]; rfl) (by decide) (lw_c1 C hcs h6 hJ hW hS hl next)
        | 2, _, hk => exact lv_tableIn (off := 219) (tgt := 252) hx hb dL_law_33 (by rw [hk]; decide) (by rw [hk]; decide) (by rw [hk]; rfl) (by decide) (lw_c2 C hcs h6 hJ hW hS hl next)
        | 3, _, hk => exact lv_tableIn (off := 242) (tgt := 275) hx hb dL_law_33 (by rw [hk]; decide) (by rw [hk]; decide) (by rw [hk]; rfl) (by decide) (lw_c3 C hcs h6 hJ hW hS hl next)
        | 4, _, hk => exact lv_tableIn (off := 265) (tgt := 298) hx hb dL_law_33 (by rw [hk]; decide) (by rw [hk]; decide) (by rw [hk]; rfl) (by decide) (lw_c4 C hcs h6 hJ hW hS hl next)
        | 5, _, hk => exact lv_tableIn (off := 298) (tgt := 331) hx hb dL_law_33 (by rw [hk]; decide) (by rw [hk]; decide) (by rw [hk]; rfl) (by decide) (lw_c5 C hcs h6 hJ hW hS hl next)
        | 6, _, hk => exact lv_tableIn (off := 341) (tgt := 374) hx hb dL_law_33 (by rw [hk]; decide) (by rw [hk]; decide) (by rw [hk]; rfl) (by decide) (lw_c6 C hcs h6 hJ hW hS hl next)
        | 7, _, hk => exact lv_tableIn (off := 384) (tgt := 417) hx hb dL_law_33 (by rw [hk]; decide) (by rw [hk]; decide) (by rw [hk]; rfl) (by decide) (lw_c7 C hcs h6 hJ hW hS hl next)
        | 8, _, hk => exact lv_tableIn (off := 407) (tgt := 440) hx hb dL_law_33 (by rw [hk]; decide) (by rw [hk]; decide) (by rw [hk]; rfl) (by decide) (lw_c8 C hcs h6 hJ hW hS hl next)
        | 9, _, hk => exact lv_tableIn (off := 430) (tgt := 463) hx hb dL_law_33 (by rw [hk]; decide) (by rw [hk]; decide) (by rw [hk]; rfl) (by decide) (lw_c9 C hcs h6 hJ hW hS hl next)
        | 10, _, hk => exact lv_tableIn (off := 443) (tgt := 476) hx hb dL_law_33 (by rw [hk]; decide) (by rw [hk]; decide) (by rw [hk]; rfl) (by decide) (lw_c10 C hcs h6 hJ hW hS hl next)
        | 11, _, hk => exact lv_tableIn (off := 466) (tgt := 499) hx hb dL_law_33 (by rw [hk]; decide) (by rw [hk]; decide) (by rw [hk]; rfl) (by decide) (lw_c11 C hcs h6 hJ hW hS hl next)
        | 12, _, hk => exact lv_tableIn (off := 499) (tgt := 532) hx hb dL_law_33 (by rw [hk]; decide) (by rw [hk]; decide) (by rw [hk]; rfl) (by decide) (lw_c12 C hcs h6 hJ hW hS hl next)
        | 13, _, hk => exact lv_tableIn (off := 542) (tgt := 575) hx hb dL_law_33 (by rw [hk]; decide) (by rw [hk]; decide) (by rw [hk]; rfl) (by decide) (lw_c13 C hcs h6 hJ hW hS hl next)
        | 14, _, hk => exact lv_tableIn (off := 565) (tgt := 598) hx hb dL_law_33 (by rw [hk]; decide) (by rw [hk]; decide) (by rw [hk]; rfl) (by decide) (lw_c14 C hcs h6 hJ hW hS hl next)
        | 15, _, hk => exact lv_tableIn (off := 578) (tgt := 611) hx hb dL_law_33 (by rw [hk]; decide) (by rw [hk]; decide) (by rw [hk]; rfl) (by decide) (lw_c15 C hcs h6 hJ hW hS hl next)
        | 16, _, hk => exact lv_tableIn (off := 591) (tgt := 624) hx hb dL_law_33 (by rw [hk]; decide) (by rw [hk]; decide) (by rw [hk]; rfl) (by decide) (lw_c16 C hcs h6 hJ hW hS hl next)
        | 17, _, hk => exact lv_tableIn (off := 624) (tgt := 657) hx hb dL_law_33 (by rw [hk]; decide) (by rw [hk]; decide) (by rw [hk]; rfl) (by decide) (lw_c17 C hcs h6 hJ hW hS hl next)
        | 18, _, hk => exact lv_tableIn (off := 678) (tgt := 711) hx hb dL_law_33 (by rw [hk]; decide) (by rw [hk]; decide) (by rw [hk]; rfl) (by decide) (lw_c18 C hcs h6 hJ hW hS hl next)
        | 19, _, hk => exact lv_tableIn (off := 702) (tgt := 735) hx hb dL_law_33 (by rw [hk]; decide) (by rw [hk]; decide) (by rw [hk]; rfl) (by decide) (lw_c19 C hcs h6 hJ hW hS hl next)
        | 20, _, hk => exact lv_tableIn (off := 735) (tgt := 768) hx hb dL_law_33 (by rw [hk]; decide) (by rw [hk]; decide) (by rw [hk]; rfl) (by decide) (lw_c20 C hcs h6 hJ hW hS hl next)
        | 21, _, hk => exact lv_tableIn (off := 768) (tgt := 801) hx hb dL_law_33 (by rw [hk]; decide) (by rw [hk]; decide) (by rw [hk]; rfl) (by decide) (lw_c21 C hcs h6 hJ hW hS hl next)
        | 22, _, hk => exact lv_tableIn (off := 822) (tgt := 855) hx hb dL_law_33 (by rw [hk]; decide) (by rw [hk]; decide) (by rw [hk]; rfl) (by decide) (lw_c22 C hcs h6 hJ hW hS hl next)
        | 23, _, hk => exact lv_tableIn (off := 855) (tgt := 888) hx hb dL_law_33 (by rw [hk]; decide) (by rw [hk]; decide) (by rw [hk]; rfl) (by decide) (lw_c23 C hcs h6 hJ hW hS hl next)
        | 24, _, hk => exact lv_tableIn (off := 888) (tgt := 921) hx hb dL_law_33 (by rw [hk]; decide) (by rw [hk]; decide) (by rw [hk]; rfl) (by decide) (lw_c24 C hcs h6 hJ hW hS hl next)
        | 25, _, hk => exact lv_tableIn (off := 901) (tgt := 934) hx hb dL_law_33 (by rw [hk]; decide) (by rw [hk]; decide) (by rw [hk]; rfl) (by decide) (lw_c25 C hcs h6 hJ hW hS hl next)
        | 26, _, hk => exact lv_tableIn (off := 935) (tgt := 968) hx hb dL_law_33 (by rw [hk]; decide) (by rw [hk]; decide) (by rw [hk]; rfl) (by decide) (lw_c26 C hcs h6 hJ hW hS hl next)
        | 27, _, hk => exact lv_tableIn (off := 979) (tgt := 1012) hx hb dL_law_33 (by rw [hk]; decide) (by rw [hk]; decide) (by rw [hk]; rfl) (by decide) (lw_c27 C hcs h6 hJ hW hS hl next)
        | 28, _, hk => exact lv_tableIn (off := 1012) (tgt := 1045) hx hb dL_law_33 (by rw [hk]; decide) (by rw [hk]; decide) (by rw [hk]; rfl) (by decide) (lw_c28 C hcs h6 hJ hW hS hl next)
        | 29, _, hk => exact lv_tableIn (off := 1055) (tgt := 1088) hx hb dL_law_33 (by rw [hk]; decide) (by rw [hk]; decide) (by rw [hk]; rfl) (by decide) (lw_c29 C hcs h6 hJ hW hS hl next)
        | 30, _, hk => exact lv_tableIn (off := 1098) (tgt := 1131) hx hb dL_law_33 (by rw [hk]; decide) (by rw [hk]; decide) (by rw [hk]; rfl) (by decide) (lw_c30 C hcs h6 hJ hW hS hl next)
        | 31, _, hk => exact lv_tableIn (off := 1121) (tgt := 1154) hx hb dL_law_33 (by rw [hk]; decide) (by rw [hk]; decide) (by rw [hk]; rfl) (by decide) (lw_c31 C hcs h6 hJ hW hS hl next)
        | 32, _, hk => exact lv_tableIn (off := 1174) (tgt := 1207) hx hb dL_law_33 (by rw [hk]; decide) (by rw [hk]; decide) (by rw [hk]; rfl) (by decide) (lw_c32 C hcs h6 hJ hW hS hl next)
        | 33, _, hk => exact lv_tableIn (off := 1217) (tgt := 1250) hx hb dL_law_33 (by rw [hk]; decide) (by rw [hk]; decide) (by rw [hk]; rfl) (by decide) (lw_c33 C hcs h6 hJ hW hS hl next)
        | 34, _, hk => exact lv_tableIn (off := 1280) (tgt := 1313) hx hb dL_law_33 (by rw [hk]; decide) (by rw [hk]; decide) (by rw [hk]; rfl) (by decide) (lw_c34 C hcs h6 hJ hW hS hl next)
        | 35, _, hk => exact lv_tableIn (off := 1313) (tgt := 1346) hx hb dL_law_33 (by rw [hk]; decide) (by rw [hk]; decide) (by rw [hk]; rfl) (by decide) (lw_c35 C hcs h6 hJ hW hS hl next)
        | 36, _, hk => exact lv_tableIn (off := 1336) (tgt := 1369) hx hb dL_law_33 (by rw [hk]; decide) (by rw [hk]; decide) (by rw [hk]; rfl) (by decide) (lw_c36 C hcs h6 hJ hW hS hl next)
        | k + 37, h37, _ => exact absurd h37 (by omega)
end LOOP

