section LAWC20
variable {p : Program} {l : Launch} {e : Env} {s : State} {m : MethodId} {below : List Frame} {meth : Method} {c : Code} {H : Heap} {locs : List Loc} {cells slots : Nat} {Q : State → Prop} {ls : Array Slot} {G : am_G} {b L : Nat} {xs : Nat → Int32} {i : Nat} {M : am_M}
theorem lw_c20 (C : lCx p s m c b L xs G) (hcs : cells ≤ 600000 ∧ slots ≤ 7302250) (hi : i + 6 ≤ L) (hJ : J M) (hW : am_W G M H) (hS : va_S (lA s) s.heap H locs) (hl : lv_has ls 4 (lLv G b i))
    (kk : ∀ (M1 : am_M) (H1 : Heap) (locs1 : List Loc), J M1 → am_W G M1 H1 → va_S (lA s) s.heap H1 locs1 → W p l e room_1 s m #[Value.ref b] below meth c H1 locs1 cells slots Q (F0 m 1383 ls [])) : W p l e room_1 s m #[Value.ref b] below meth c H locs cells slots Q (F0 m 768 ls []) := by
  have hx := C.1
  have hb := C.2.1
  refine lv_aload_n hx hb dL_law_768 rfl (lv_at hl 2 rfl) ?_
  refine lw_arg (pc := 769) C 1 (by decide) (by decide) hi hS hl dL_law_769 dL_law_770 dL_law_771 dL_law_772 dL_law_773 ?_
  refine lw_arg (pc := 774) C 2 (by decide) (by decide) hi hS hl dL_law_774 dL_law_775 dL_law_776 dL_law_777 dL_law_778 ?_
  refine lw_call (pc := 779) (rest := []) (C := RX11) C snd_11_fairs 0 2 [aI (xs (i + 1)).toInt, aI (xs (i + 2)).toInt] [.int (xs (i + 1)), .int (xs (i + 2))] (by decide) (ci := 11) rfl rfl dL_law_779 (in_g (i := 719) (by decide +kernel) (by decide +kernel)) (in_g (i := 720) (by decide +kernel) (by decide +kernel)) (in_g (i := 721) (by decide +kernel) (by decide +kernel)) (in_g (i := 65) (by decide +kernel) (by decide +kernel)) (in_g (i := 722) (by decide +kernel) (by decide +kernel)) (by decide +kernel) ⟨rfl, rfl⟩ rfl hl.1 (Nat.zero_le _) hcs hW hS (by exact ⟨rfl, rfl, trivial⟩) (lc_fairs hJ) (fun r1 M1 w1 H locs hq1 hv1 hW hS => ?_)
  have hcat1 : (([w1] : List Value).map fun v => v.category).sum ≤ 8 := by rw [List.map_cons, List.map_nil, List.sum_cons, List.sum_nil]; have := cat_le w1; omega
  refine lv_aload_n hx hb dL_law_782 rfl (lv_at hl 1 rfl) ?_
  refine lw_arg (pc := 783) C 1 (by decide) (by decide) hi hS hl dL_law_783 dL_law_784 dL_law_785 dL_law_786 dL_law_787 ?_
  refine lw_arg (pc := 788) C 2 (by decide) (by decide) hi hS hl dL_law_788 dL_law_789 dL_law_790 dL_law_791 dL_law_792 ?_
  refine lw_call (pc := 793) (rest := [w1]) (C := RX12) C snd_12_fairs 44 2 [aI (xs (i + 1)).toInt, aI (xs (i + 2)).toInt] [.int (xs (i + 1)), .int (xs (i + 2))] (by decide) (ci := 12) rfl rfl dL_law_793 (in_g (i := 1311) (by decide +kernel) (by decide +kernel)) (in_g (i := 1312) (by decide +kernel) (by decide +kernel)) (in_g (i := 1313) (by decide +kernel) (by decide +kernel)) (in_g (i := 78) (by decide +kernel) (by decide +kernel)) (in_g (i := 1314) (by decide +kernel) (by decide +kernel)) (by decide +kernel) ⟨rfl, rfl⟩ rfl hl.1 hcat1 hcs hW hS (by exact ⟨rfl, rfl, trivial⟩) (hq1) (fun r2 M2 w2 H locs hq2 hv2 hW hS => ?_)
  obtain ⟨⟨v, e1, e2⟩, hJ2⟩ := hq2
  subst e1
  subst e2
  obtain ⟨x, rfl, h1⟩ := rv_i hv1
  obtain ⟨y, rfl, h2⟩ := rv_i hv2
  obtain rfl : x = y := Int32.toInt_inj.mp (h1.trans h2.symm)
  exact lv_icmp_eq (tgt := 1383) hx hb dL_law_796 (by decide) (fun _ => kk M2 H locs hJ2 hW hS) (fun h => absurd rfl h)
theorem lw_c21 (C : lCx p s m c b L xs G) (hcs : cells ≤ 600000 ∧ slots ≤ 7302250) (hi : i + 6 ≤ L) (hJ : J M) (hW : am_W G M H) (hS : va_S (lA s) s.heap H locs) (hl : lv_has ls 4 (lLv G b i))
    (kk : ∀ (M1 : am_M) (H1 : Heap) (locs1 : List Loc), J M1 → am_W G M1 H1 → va_S (lA s) s.heap H1 locs1 → W p l e room_1 s m #[Value.ref b] below meth c H1 locs1 cells slots Q (F0 m 1383 ls [])) : W p l e room_1 s m #[Value.ref b] below meth c H locs cells slots Q (F0 m 801 ls []) := by
  have hx := C.1
  have hb := C.2.1
  refine lv_aload_n hx hb dL_law_801 rfl (lv_at hl 2 rfl) ?_
  refine lw_arg (pc := 802) C 1 (by decide) (by decide) hi hS hl dL_law_802 dL_law_803 dL_law_804 dL_law_805 dL_law_806 ?_
  refine lw_arg (pc := 807) C 2 (by decide) (by decide) hi hS hl dL_law_807 dL_law_808 dL_law_809 dL_law_810 dL_law_811 ?_
  refine lw_arg (pc := 812) C 3 (by decide) (by decide) hi hS hl dL_law_812 dL_law_813 dL_law_814 dL_law_815 dL_law_816 ?_
  refine lw_arg (pc := 817) C 4 (by decide) (by decide) hi hS hl dL_law_817 dL_law_818 dL_law_819 dL_law_820 dL_law_821 ?_
  refine lw_call (pc := 822) (rest := []) (C := RX11) C snd_11_is 0 4 [aI (xs (i + 1)).toInt, aI (xs (i + 2)).toInt, aI (xs (i + 3)).toInt, aI (xs (i + 4)).toInt] [.int (xs (i + 1)), .int (xs (i + 2)), .int (xs (i + 3)), .int (xs (i + 4))] (by decide) (ci := 11) rfl rfl dL_law_822 (in_g (i := 723) (by decide +kernel) (by decide +kernel)) (in_g (i := 724) (by decide +kernel) (by decide +kernel)) (in_g (i := 725) (by decide +kernel) (by decide +kernel)) (in_g (i := 65) (by decide +kernel) (by decide +kernel)) (in_g (i := 726) (by decide +kernel) (by decide +kernel)) (by decide +kernel) ⟨rfl, rfl⟩ rfl hl.1 (Nat.zero_le _) hcs hW hS (by exact ⟨rfl, rfl, rfl, rfl, trivial⟩) (lc_is hJ) (fun r1 M1 w1 H locs hq1 hv1 hW hS => ?_)
  have hcat1 : (([w1] : List Value).map fun v => v.category).sum ≤ 8 := by rw [List.map_cons, List.map_nil, List.sum_cons, List.sum_nil]; have := cat_le w1; omega
  refine lv_aload_n hx hb dL_law_825 rfl (lv_at hl 1 rfl) ?_
  refine lw_arg (pc := 826) C 1 (by decide) (by decide) hi hS hl dL_law_826 dL_law_827 dL_law_828 dL_law_829 dL_law_830 ?_
  refine lw_arg (pc := 831) C 2 (by decide) (by decide) hi hS hl dL_law_831 dL_law_832 dL_law_833 dL_law_834 dL_law_835 ?_
  refine lw_arg (pc := 836) C 3 (by decide) (by decide) hi hS hl dL_law_836 dL_law_837 dL_law_838 dL_law_839 dL_law_840 ?_
  refine lw_arg (pc := 841) C 4 (by decide) (by decide) hi hS hl dL_law_841 dL_law_842 dL_law_843 dL_law_844 dL_law_845 ?_
  refine lw_call (pc := 846) (rest := [w1]) (C := RX12) C snd_12_is 44 4 [aI (xs (i + 1)).toInt, aI (xs (i + 2)).toInt, aI (xs (i + 3)).toInt, aI (xs (i + 4)).toInt] [.int (xs (i + 1)), .int (xs (i + 2)), .int (xs (i + 3)), .int (xs (i + 4))] (by decide) (ci := 12) rfl rfl dL_law_846 (in_g (i := 1320) (by decide +kernel) (by decide +kernel)) (in_g (i := 1321) (by decide +kernel) (by decide +kernel)) (in_g (i := 1322) (by decide +kernel) (by decide +kernel)) (in_g (i := 78) (by decide +kernel) (by decide +kernel)) (in_g (i := 1323) (by decide +kernel) (by decide +kernel)) (by decide +kernel) ⟨rfl, rfl⟩ rfl hl.1 hcat1 hcs hW hS (by exact ⟨rfl, rfl, rfl, rfl, trivial⟩) (hq1) (fun r2 M2 w2 H locs hq2 hv2 hW hS => ?_)
  obtain ⟨⟨v, e1, e2⟩, hJ2⟩ := hq2
  subst e1
  subst e2
  obtain ⟨x, rfl, h1⟩ := rv_l hv1
  obtain ⟨y, rfl, h2⟩ := rv_l hv2
  obtain rfl : x = y := Int64.toInt_inj.mp (h1.trans h2.symm)
  refine W.lcmp hx hb dL_law_849 ?_
  exact lv_if_eq (tgt := 1383) hx hb dL_law_850 (by decide) (fun _ => kk M2 H locs hJ2 hW hS) (fun h => absurd (cmp_self x) h)
theorem lw_c22 (C : lCx p s m c b L xs G) (hcs : cells ≤ 600000 ∧ slots ≤ 7302250) (hi : i + 6 ≤ L) (hJ : J M) (hW : am_W G M H) (hS : va_S (lA s) s.heap H locs) (hl : lv_has ls 4 (lLv G b i))
    (kk : ∀ (M1 : am_M) (H1 : Heap) (locs1 : List Loc), J M1 → am_W G M1 H1 → va_S (lA s) s.heap H1 locs1 → W p l e room_1 s m #[Value.ref b] below meth c H1 locs1 cells slots Q (F0 m 1383 ls [])) : W p l e room_1 s m #[Value.ref b] below meth c H locs cells slots Q (F0 m 855 ls []) := by
  have hx := C.1
  have hb := C.2.1
  refine lv_aload_n hx hb dL_law_855 rfl (lv_at hl 2 rfl) ?_
  refine lw_arg (pc := 856) C 1 (by decide) (by decide) hi hS hl dL_law_856 dL_law_857 dL_law_858 dL_law_859 dL_law_860 ?_
  refine lw_arg (pc := 861) C 2 (by decide) (by decide) hi hS hl dL_law_861 dL_law_862 dL_law_863 dL_law_864 dL_law_865 ?_
  refine lw_call (pc := 866) (rest := []) (C := RX11) C snd_11_likeliest 0 2 [aI (xs (i + 1)).toInt, aI (xs (i + 2)).toInt] [.int (xs (i + 1)), .int (xs (i + 2))] (by decide) (ci := 11) rfl rfl dL_law_866 (in_g (i := 769) (by decide +kernel) (by decide +kernel)) (in_g (i := 770) (by decide +kernel) (by decide +kernel)) (in_g (i := 771) (by decide +kernel) (by decide +kernel)) (in_g (i := 65) (by decide +kernel) (by decide +kernel)) (in_g (i := 772) (by decide +kernel) (by decide +kernel)) (by decide +kernel) ⟨rfl, rfl⟩ rfl hl.1 (Nat.zero_le _) hcs hW hS (by exact ⟨rfl, rfl, trivial⟩) (lc_likeliest hJ) (fun r1 M1 w1 H locs hq1 hv1 hW hS => ?_)
  have hcat1 : (([w1] : List Value).map fun v => v.category).sum ≤ 8 := by rw [List.map_cons, List.map_nil, List.sum_cons, List.sum_nil]; have := cat_le w1; omega
  refine lv_aload_n hx hb dL_law_869 rfl (lv_at hl 1 rfl) ?_
  refine lw_arg (pc := 870) C 1 (by decide) (by decide) hi hS hl dL_law_870 dL_law_871 dL_law_872 dL_law_873 dL_law_874 ?_
  refine lw_arg (pc := 875) C 2 (by decide) (by decide) hi hS hl dL_law_875 dL_law_876 dL_law_877 dL_law_878 dL_law_879 ?_
  refine lw_call (pc := 880) (rest := [w1]) (C := RX12) C snd_12_likeliest 44 2 [aI (xs (i + 1)).toInt, aI (xs (i + 2)).toInt] [.int (xs (i + 1)), .int (xs (i + 2))] (by decide) (ci := 12) rfl rfl dL_law_880 (in_g (i := 1341) (by decide +kernel) (by decide +kernel)) (in_g (i := 1342) (by decide +kernel) (by decide +kernel)) (in_g (i := 1343) (by decide +kernel) (by decide +kernel)) (in_g (i := 78) (by decide +kernel) (by decide +kernel)) (in_g (i := 1344) (by decide +kernel) (by decide +kernel)) (by decide +kernel) ⟨rfl, rfl⟩ rfl hl.1 hcat1 hcs hW hS (by exact ⟨rfl, rfl, trivial⟩) (hq1) (fun r2 M2 w2 H locs hq2 hv2 hW hS => ?_)
  obtain ⟨⟨v, e1, e2⟩, hJ2⟩ := hq2
  subst e1
  subst e2
  obtain ⟨x, rfl, h1⟩ := rv_i hv1
  obtain ⟨y, rfl, h2⟩ := rv_i hv2
  obtain rfl : x = y := Int32.toInt_inj.mp (h1.trans h2.symm)
  exact lv_icmp_eq (tgt := 1383) hx hb dL_law_883 (by decide) (fun _ => kk M2 H locs hJ2 hW hS) (fun h => absurd rfl h)
theorem lw_c23 (C : lCx p s m c b L xs G) (hcs : cells ≤ 600000 ∧ slots ≤ 7302250) (hi : i + 6 ≤ L) (hJ : J M) (hW : am_W G M H) (hS : va_S (lA s) s.heap H locs) (hl : lv_has ls 4 (lLv G b i))
    (kk : ∀ (M1 : am_M) (H1 : Heap) (locs1 : List Loc), J M1 → am_W G M1 H1 → va_S (lA s) s.heap H1 locs1 → W p l e room_1 s m #[Value.ref b] below meth c H1 locs1 cells slots Q (F0 m 1383 ls [])) : W p l e room_1 s m #[Value.ref b] below meth c H locs cells slots Q (F0 m 888 ls []) := by
  have hx := C.1
  have hb := C.2.1
  refine lv_aload_n hx hb dL_law_888 rfl (lv_at hl 2 rfl) ?_
  refine lw_arg (pc := 889) C 1 (by decide) (by decide) hi hS hl dL_law_889 dL_law_890 dL_law_891 dL_law_892 dL_law_893 ?_
  refine lw_arg (pc := 894) C 2 (by decide) (by decide) hi hS hl dL_law_894 dL_law_895 dL_law_896 dL_law_897 dL_law_898 ?_
  refine lw_call (pc := 899) (rest := []) (C := RX11) C snd_11_look 0 2 [aI (xs (i + 1)).toInt, aI (xs (i + 2)).toInt] [.int (xs (i + 1)), .int (xs (i + 2))] (by decide) (ci := 11) rfl rfl dL_law_899 (in_g (i := 774) (by decide +kernel) (by decide +kernel)) (in_g (i := 775) (by decide +kernel) (by decide +kernel)) (in_g (i := 776) (by decide +kernel) (by decide +kernel)) (in_g (i := 65) (by decide +kernel) (by decide +kernel)) (in_g (i := 777) (by decide +kernel) (by decide +kernel)) (by decide +kernel) ⟨rfl, rfl⟩ rfl hl.1 (Nat.zero_le _) hcs hW hS (by exact ⟨rfl, rfl, trivial⟩) (lc_look hJ) (fun r1 M1 w1 H locs hq1 hv1 hW hS => ?_)
  have hcat1 : (([w1] : List Value).map fun v => v.category).sum ≤ 8 := by rw [List.map_cons, List.map_nil, List.sum_cons, List.sum_nil]; have := cat_le w1; omega
  refine lv_aload_n hx hb dL_law_902 rfl (lv_at hl 1 rfl) ?_
  refine lw_arg (pc := 903) C 1 (by decide) (by decide) hi hS hl dL_law_903 dL_law_904 dL_law_905 dL_law_906 dL_law_907 ?_
  refine lw_arg (pc := 908) C 2 (by decide) (by decide) hi hS hl dL_law_908 dL_law_909 dL_law_910 dL_law_911 dL_law_912 ?_
  refine lw_call (pc := 913) (rest := [w1]) (C := RX12) C snd_12_look 44 2 [aI (xs (i + 1)).toInt, aI (xs (i + 2)).toInt] [.int (xs (i + 1)), .int (xs (i + 2))] (by decide) (ci := 12) rfl rfl dL_law_913 (in_g (i := 1349) (by decide +kernel) (by decide +kernel)) (in_g (i := 1350) (by decide +kernel) (by decide +kernel)) (in_g (i := 1351) (by decide +kernel) (by decide +kernel)) (in_g (i := 78) (by decide +kernel) (by decide +kernel)) (in_g (i := 1352) (by decide +kernel) (by decide +kernel)) (by decide +kernel) ⟨rfl, rfl⟩ rfl hl.1 hcat1 hcs hW hS (by exact ⟨rfl, rfl, trivial⟩) (hq1) (fun r2 M2 w2 H locs hq2 hv2 hW hS => ?_)
  obtain ⟨⟨v, e1, e2⟩, hJ2⟩ := hq2
  subst e1
  subst e2
  obtain ⟨x, rfl, h1⟩ := rv_i hv1
  obtain ⟨y, rfl, h2⟩ := rv_i hv2
  obtain rfl : x = y := Int32.toInt_inj.mp (h1.trans h2.symm)
  exact lv_icmp_eq (tgt := 1383) hx hb dL_law_916 (by decide) (fun _ => kk M2 H locs hJ2 hW hS) (fun h => absurd rfl h)
theorem lw_c24 (C : lCx p s m c b L xs G) (hcs : cells ≤ 600000 ∧ slots ≤ 7302250) (hi : i + 6 ≤ L) (hJ : J M) (hW : am_W G M H) (hS : va_S (lA s) s.heap H locs) (hl : lv_has ls 4 (lLv G b i))
    (kk : ∀ (M1 : am_M) (H1 : Heap) (locs1 : List Loc), J M1 → am_W G M1 H1 → va_S (lA s) s.heap H1 locs1 → W p l e room_1 s m #[Value.ref b] below meth c H1 locs1 cells slots Q (F0 m 1383 ls [])) : W p l e room_1 s m #[Value.ref b] below meth c H locs cells slots Q (F0 m 921 ls []) := by
  have hx := C.1
  have hb := C.2.1
  refine lv_aload_n hx hb dL_law_921 rfl (lv_at hl 2 rfl) ?_
  refine lw_call (pc := 922) (rest := []) (C := RX11) C snd_11_forget 0 0 [] [] (by decide) (ci := 11) rfl rfl dL_law_922 (in_g (i := 782) (by decide +kernel) (by decide +kernel)) (in_g (i := 783) (by decide +kernel) (by decide +kernel)) (in_g (i := 784) (by decide +kernel) (by decide +kernel)) (in_g (i := 65) (by decide +kernel) (by decide +kernel)) (in_g (i := 785) (by decide +kernel) (by decide +kernel)) (by decide +kernel) ⟨rfl, rfl⟩ rfl hl.1 (Nat.zero_le _) hcs hW hS (by exact trivial) (lc_forget hJ) (fun r1 M1 w1 H locs hq1 hv1 hW hS => ?_)
  have hcat1 : (([w1] : List Value).map fun v => v.category).sum ≤ 8 := by rw [List.map_cons, List.map_nil, List.sum_cons, List.sum_nil]; have := cat_le w1; omega
  refine lv_aload_n hx hb dL_law_925 rfl (lv_at hl 1 rfl) ?_
  refine lw_call (pc := 926) (rest := [w1]) (C := RX12) C snd_12_forget 44 0 [] [] (by decide) (ci := 12) rfl rfl dL_law_926 (in_g (i := 1354) (by decide +kernel) (by decide +kernel)) (in_g (i := 1355) (by decide +kernel) (by decide +kernel)) (in_g (i := 1356) (by decide +kernel) (by decide +kernel)) (in_g (i := 78) (by decide +kernel) (by decide +kernel)) (in_g (i := 1357) (by decide +kernel) (by decide +kernel)) (by decide +kernel) ⟨rfl, rfl⟩ rfl hl.1 hcat1 hcs hW hS (by exact trivial) (hq1) (fun r2 M2 w2 H locs hq2 hv2 hW hS => ?_)
  obtain ⟨⟨v, e1, e2⟩, hJ2⟩ := hq2
  subst e1
  subst e2
  obtain ⟨x, rfl, h1⟩ := rv_i hv1
  obtain ⟨y, rfl, h2⟩ := rv_i hv2
  obtain rfl : x = y := Int32.toInt_inj.mp (h1.trans h2.symm)
  exact lv_icmp_eq (tgt := 1383) hx hb dL_law_929 (by decide) (fun _ => kk M2 H locs hJ2 hW hS) (fun h => absurd rfl h)
theorem lw_c25 (C : lCx p s m c b L xs G) (hcs : cells ≤ 600000 ∧ slots ≤ 7302250) (hi : i + 6 ≤ L) (hJ : J M) (hW : am_W G M H) (hS : va_S (lA s) s.heap H locs) (hl : lv_has ls 4 (lLv G b i))
    (kk : ∀ (M1 : am_M) (H1 : Heap) (locs1 : List Loc), J M1 → am_W G M1 H1 → va_S (lA s) s.heap H1 locs1 → W p l e room_1 s m #[Value.ref b] below meth c H1 locs1 cells slots Q (F0 m 1383 ls [])) : W p l e room_1 s m #[Value.ref b] below meth c H locs cells slots Q (F0 m 934 ls []) := by
  have hx := C.1
  have hb := C.2.1
  refine lv_aload_n hx hb dL_law_934 rfl (lv_at hl 2 rfl) ?_
  refine lw_arg (pc := 935) C 1 (by decide) (by decide) hi hS hl dL_law_935 dL_law_936 dL_law_937 dL_law_938 dL_law_939 ?_
  refine lw_arg (pc := 940) C 2 (by decide) (by decide) hi hS hl dL_law_940 dL_law_941 dL_law_942 dL_law_943 dL_law_944 ?_
  refine lw_call (pc := 945) (rest := []) (C := RX11) C snd_11_seek 0 2 [aI (xs (i + 1)).toInt, aI (xs (i + 2)).toInt] [.int (xs (i + 1)), .int (xs (i + 2))] (by decide) (ci := 11) rfl rfl dL_law_945 (in_g (i := 786) (by decide +kernel) (by decide +kernel)) (in_g (i := 787) (by decide +kernel) (by decide +kernel)) (in_g (i := 788) (by decide +kernel) (by decide +kernel)) (in_g (i := 65) (by decide +kernel) (by decide +kernel)) (in_g (i := 789) (by decide +kernel) (by decide +kernel)) (by decide +kernel) ⟨rfl, rfl⟩ rfl hl.1 (Nat.zero_le _) hcs hW hS (by exact ⟨rfl, rfl, trivial⟩) (lc_seek hJ) (fun r1 M1 w1 H locs hq1 hv1 hW hS => ?_)
  have hcat1 : (([w1] : List Value).map fun v => v.category).sum ≤ 8 := by rw [List.map_cons, List.map_nil, List.sum_cons, List.sum_nil]; have := cat_le w1; omega
  refine lv_aload_n hx hb dL_law_948 rfl (lv_at hl 1 rfl) ?_
  refine lw_arg (pc := 949) C 1 (by decide) (by decide) hi hS hl dL_law_949 dL_law_950 dL_law_951 dL_law_952 dL_law_953 ?_
  refine lw_arg (pc := 954) C 2 (by decide) (by decide) hi hS hl dL_law_954 dL_law_955 dL_law_956 dL_law_957 dL_law_958 ?_
  refine lw_call (pc := 959) (rest := [w1]) (C := RX12) C snd_12_seek 44 2 [aI (xs (i + 1)).toInt, aI (xs (i + 2)).toInt] [.int (xs (i + 1)), .int (xs (i + 2))] (by decide) (ci := 12) rfl rfl dL_law_959 (in_g (i := 1358) (by decide +kernel) (by decide +kernel)) (in_g (i := 1359) (by decide +kernel) (by decide +kernel)) (in_g (i := 1360) (by decide +kernel) (by decide +kernel)) (in_g (i := 78) (by decide +kernel) (by decide +kernel)) (in_g (i := 1361) (by decide +kernel) (by decide +kernel)) (by decide +kernel) ⟨rfl, rfl⟩ rfl hl.1 hcat1 hcs hW hS (by exact ⟨rfl, rfl, trivial⟩) (hq1) (fun r2 M2 w2 H locs hq2 hv2 hW hS => ?_)
  obtain ⟨⟨v, e1, e2⟩, hJ2⟩ := hq2
  subst e1
  subst e2
  obtain ⟨x, rfl, h1⟩ := rv_l hv1
  obtain ⟨y, rfl, h2⟩ := rv_l hv2
  obtain rfl : x = y := Int64.toInt_inj.mp (h1.trans h2.symm)
  refine W.lcmp hx hb dL_law_962 ?_
  exact lv_if_eq (tgt := 1383) hx hb dL_law_963 (by decide) (fun _ => kk M2 H locs hJ2 hW hS) (fun h => absurd (cmp_self x) h)
theorem lw_c26 (C : lCx p s m c b L xs G) (hcs : cells ≤ 600000 ∧ slots ≤ 7302250) (hi : i + 6 ≤ L) (hJ : J M) (hW : am_W G M H) (hS : va_S (lA s) s.heap H locs) (hl : lv_has ls 4 (lLv G b i))
    (kk : ∀ (M1 : am_M) (H1 : Heap) (locs1 : List Loc), J M1 → am_W G M1 H1 → va_S (lA s) s.heap H1 locs1 → W p l e room_1 s m #[Value.ref b] below meth c H1 locs1 cells slots Q (F0 m 1383 ls [])) : W p l e room_1 s m #[Value.ref b] below meth c H locs cells slots Q (F0 m 968 ls []) := by
  have hx := C.1
  have hb := C.2.1
  refine lv_aload_n hx hb dL_law_968 rfl (lv_at hl 2 rfl) ?_
  refine lw_arg (pc := 969) C 1 (by decide) (by decide) hi hS hl dL_law_969 dL_law_970 dL_law_971 dL_law_972 dL_law_973 ?_
  refine lw_arg (pc := 974) C 2 (by decide) (by decide) hi hS hl dL_law_974 dL_law_975 dL_law_976 dL_law_977 dL_law_978 ?_
  refine lw_arg (pc := 979) C 3 (by decide) (by decide) hi hS hl dL_law_979 dL_law_980 dL_law_981 dL_law_982 dL_law_983 ?_
  refine lw_call (pc := 984) (rest := []) (C := RX11) C snd_11_parted 0 3 [aI (xs (i + 1)).toInt, aI (xs (i + 2)).toInt, aI (xs (i + 3)).toInt] [.int (xs (i + 1)), .int (xs (i + 2)), .int (xs (i + 3))] (by decide) (ci := 11) rfl rfl dL_law_984 (in_g (i := 820) (by decide +kernel) (by decide +kernel)) (in_g (i := 821) (by decide +kernel) (by decide +kernel)) (in_g (i := 822) (by decide +kernel) (by decide +kernel)) (in_g (i := 65) (by decide +kernel) (by decide +kernel)) (in_g (i := 823) (by decide +kernel) (by decide +kernel)) (by decide +kernel) ⟨rfl, rfl⟩ rfl hl.1 (Nat.zero_le _) hcs hW hS (by exact ⟨rfl, rfl, rfl, trivial⟩) (lc_parted hJ) (fun r1 M1 w1 H locs hq1 hv1 hW hS => ?_)
  have hcat1 : (([w1] : List Value).map fun v => v.category).sum ≤ 8 := by rw [List.map_cons, List.map_nil, List.sum_cons, List.sum_nil]; have := cat_le w1; omega
  refine lv_aload_n hx hb dL_law_987 rfl (lv_at hl 1 rfl) ?_
  refine lw_arg (pc := 988) C 1 (by decide) (by decide) hi hS hl dL_law_988 dL_law_989 dL_law_990 dL_law_991 dL_law_992 ?_
  refine lw_arg (pc := 993) C 2 (by decide) (by decide) hi hS hl dL_law_993 dL_law_994 dL_law_995 dL_law_996 dL_law_997 ?_
  refine lw_arg (pc := 998) C 3 (by decide) (by decide) hi hS hl dL_law_998 dL_law_999 dL_law_1000 dL_law_1001 dL_law_1002 ?_
  refine lw_call (pc := 1003) (rest := [w1]) (C := RX12) C snd_12_parted 44 3 [aI (xs (i + 1)).toInt, aI (xs (i + 2)).toInt, aI (xs (i + 3)).toInt] [.int (xs (i + 1)), .int (xs (i + 2)), .int (xs (i + 3))] (by decide) (ci := 12) rfl rfl dL_law_1003 (in_g (i := 1379) (by decide +kernel) (by decide +kernel)) (in_g (i := 1380) (by decide +kernel) (by decide +kernel)) (in_g (i := 1381) (by decide +kernel) (by decide +kernel)) (in_g (i := 78) (by decide +kernel) (by decide +kernel)) (in_g (i := 1382) (by decide +kernel) (by decide +kernel)) (by decide +kernel) ⟨rfl, rfl⟩ rfl hl.1 hcat1 hcs hW hS (by exact ⟨rfl, rfl, rfl, trivial⟩) (hq1) (fun r2 M2 w2 H locs hq2 hv2 hW hS => ?_)
  obtain ⟨⟨v, e1, e2⟩, hJ2⟩ := hq2
  subst e1
  subst e2
  obtain ⟨x, rfl, h1⟩ := rv_l hv1
  obtain ⟨y, rfl, h2⟩ := rv_l hv2
  obtain rfl : x = y := Int64.toInt_inj.mp (h1.trans h2.symm)
  refine W.lcmp hx hb dL_law_1006 ?_
  exact lv_if_eq (tgt := 1383) hx hb dL_law_1007 (by decide) (fun _ => kk M2 H locs hJ2 hW hS) (fun h => absurd (cmp_self x) h)
theorem lw_c27 (C : lCx p s m c b L xs G) (hcs : cells ≤ 600000 ∧ slots ≤ 7302250) (hi : i + 6 ≤ L) (hJ : J M) (hW : am_W G M H) (hS : va_S (lA s) s.heap H locs) (hl : lv_has ls 4 (lLv G b i))
    (kk : ∀ (M1 : am_M) (H1 : Heap) (locs1 : List Loc), J M1 → am_W G M1 H1 → va_S (lA s) s.heap H1 locs1 → W p l e room_1 s m #[Value.ref b] below meth c H1 locs1 cells slots Q (F0 m 1383 ls [])) : W p l e room_1 s m #[Value.ref b] below meth c H locs cells slots Q (F0 m 1012 ls []) := by
  have hx := C.1
  have hb := C.2.1
  refine lv_aload_n hx hb dL_law_1012 rfl (lv_at hl 2 rfl) ?_
  refine lw_arg (pc := 1013) C 1 (by decide) (by decide) hi hS hl dL_law_1013 dL_law_1014 dL_law_1015 dL_law_1016 dL_law_1017 ?_
  refine lw_arg (pc := 1018) C 2 (by decide) (by decide) hi hS hl dL_law_1018 dL_law_1019 dL_law_1020 dL_law_1021 dL_law_1022 ?_
  refine lw_call (pc := 1023) (rest := []) (C := RX11) C snd_11_meet 0 2 [aI (xs (i + 1)).toInt, aI (xs (i + 2)).toInt] [.int (xs (i + 1)), .int (xs (i + 2))] (by decide) (ci := 11) rfl rfl dL_law_1023 (in_g (i := 833) (by decide +kernel) (by decide +kernel)) (in_g (i := 834) (by decide +kernel) (by decide +kernel)) (in_g (i := 835) (by decide +kernel) (by decide +kernel)) (in_g (i := 65) (by decide +kernel) (by decide +kernel)) (in_g (i := 836) (by decide +kernel) (by decide +kernel)) (by decide +kernel) ⟨rfl, rfl⟩ rfl hl.1 (Nat.zero_le _) hcs hW hS (by exact ⟨rfl, rfl, trivial⟩) (lc_meet hJ) (fun r1 M1 w1 H locs hq1 hv1 hW hS => ?_)
  have hcat1 : (([w1] : List Value).map fun v => v.category).sum ≤ 8 := by rw [List.map_cons, List.map_nil, List.sum_cons, List.sum_nil]; have := cat_le w1; omega
  refine lv_aload_n hx hb dL_law_1026 rfl (lv_at hl 1 rfl) ?_
  refine lw_arg (pc := 1027) C 1 (by decide) (by decide) hi hS hl dL_law_1027 dL_law_1028 dL_law_1029 dL_law_1030 dL_law_1031 ?_
  refine lw_arg (pc := 1032) C 2 (by decide) (by decide) hi hS hl dL_law_1032 dL_law_1033 dL_law_1034 dL_law_1035 dL_law_1036 ?_
  refine lw_call (pc := 1037) (rest := [w1]) (C := RX12) C snd_12_meet 44 2 [aI (xs (i + 1)).toInt, aI (xs (i + 2)).toInt] [.int (xs (i + 1)), .int (xs (i + 2))] (by decide) (ci := 12) rfl rfl dL_law_1037 (in_g (i := 1387) (by decide +kernel) (by decide +kernel)) (in_g (i := 1388) (by decide +kernel) (by decide +kernel)) (in_g (i := 1389) (by decide +kernel) (by decide +kernel)) (in_g (i := 78) (by decide +kernel) (by decide +kernel)) (in_g (i := 1390) (by decide +kernel) (by decide +kernel)) (by decide +kernel) ⟨rfl, rfl⟩ rfl hl.1 hcat1 hcs hW hS (by exact ⟨rfl, rfl, trivial⟩) (hq1) (fun r2 M2 w2 H locs hq2 hv2 hW hS => ?_)
  obtain ⟨⟨v, e1, e2⟩, hJ2⟩ := hq2
  subst e1
  subst e2
  obtain ⟨x, rfl, h1⟩ := rv_i hv1
  obtain ⟨y, rfl, h2⟩ := rv_i hv2
  obtain rfl : x = y := Int32.toInt_inj.mp (h1.trans h2.symm)
  exact lv_icmp_eq (tgt := 1383) hx hb dL_law_1040 (by decide) (fun _ => kk M2 H locs hJ2 hW hS) (fun h => absurd rfl h)
theorem lw_c28 (C : lCx p s m c b L xs G) (hcs : cells ≤ 600000 ∧ slots ≤ 7302250) (hi : i + 6 ≤ L) (hJ : J M) (hW : am_W G M H) (hS : va_S (lA s) s.heap H locs) (hl : lv_has ls 4 (lLv G b i))
    (kk : ∀ (M1 : am_M) (H1 : Heap) (locs1 : List Loc), J M1 → am_W G M1 H1 → va_S (lA s) s.heap H1 locs1 → W p l e room_1 s m #[Value.ref b] below meth c H1 locs1 cells slots Q (F0 m 1383 ls [])) : W p l e room_1 s m #[Value.ref b] below meth c H locs cells slots Q (F0 m 1045 ls []) := by
  have hx := C.1
  have hb := C.2.1
  refine lv_aload_n hx hb dL_law_1045 rfl (lv_at hl 2 rfl) ?_
  refine lw_arg (pc := 1046) C 1 (by decide) (by decide) hi hS hl dL_law_1046 dL_law_1047 dL_law_1048 dL_law_1049 dL_law_1050 ?_
  refine lw_arg (pc := 1051) C 2 (by decide) (by decide) hi hS hl dL_law_1051 dL_law_1052 dL_law_1053 dL_law_1054 dL_law_1055 ?_
  refine lw_arg (pc := 1056) C 3 (by decide) (by decide) hi hS hl dL_law_1056 dL_law_1057 dL_law_1058 dL_law_1059 dL_law_1060 ?_
  refine lw_call (pc := 1061) (rest := []) (C := RX11) C snd_11_counts 0 3 [aI (xs (i + 1)).toInt, aI (xs (i + 2)).toInt, aI (xs (i + 3)).toInt] [.int (xs (i + 1)), .int (xs (i + 2)), .int (xs (i + 3))] (by decide) (ci := 11) rfl rfl dL_law_1061 (in_g (i := 847) (by decide +kernel) (by decide +kernel)) (in_g (i := 848) (by decide +kernel) (by decide +kernel)) (in_g (i := 849) (by decide +kernel) (by decide +kernel)) (in_g (i := 65) (by decide +kernel) (by decide +kernel)) (in_g (i := 850) (by decide +kernel) (by decide +kernel)) (by decide +kernel) ⟨rfl, rfl⟩ rfl hl.1 (Nat.zero_le _) hcs hW hS (by exact ⟨rfl, rfl, rfl, trivial⟩) (lc_counts hJ) (fun r1 M1 w1 H locs hq1 hv1 hW hS => ?_)
  have hcat1 : (([w1] : List Value).map fun v => v.category).sum ≤ 8 := by rw [List.map_cons, List.map_nil, List.sum_cons, List.sum_nil]; have := cat_le w1; omega
  refine lv_aload_n hx hb dL_law_1064 rfl (lv_at hl 1 rfl) ?_
  refine lw_arg (pc := 1065) C 1 (by decide) (by decide) hi hS hl dL_law_1065 dL_law_1066 dL_law_1067 dL_law_1068 dL_law_1069 ?_
  refine lw_arg (pc := 1070) C 2 (by decide) (by decide) hi hS hl dL_law_1070 dL_law_1071 dL_law_1072 dL_law_1073 dL_law_1074 ?_
  refine lw_arg (pc := 1075) C 3 (by decide) (by decide) hi hS hl dL_law_1075 dL_law_1076 dL_law_1077 dL_law_1078 dL_law_1079 ?_
  refine lw_call (pc := 1080) (rest := [w1]) (C := RX12) C snd_12_counts 44 3 [aI (xs (i + 1)).toInt, aI (xs (i + 2)).toInt, aI (xs (i + 3)).toInt] [.int (xs (i + 1)), .int (xs (i + 2)), .int (xs (i + 3))] (by decide) (ci := 12) rfl rfl dL_law_1080 (in_g (i := 1395) (by decide +kernel) (by decide +kernel)) (in_g (i := 1396) (by decide +kernel) (by decide +kernel)) (in_g (i := 1397) (by decide +kernel) (by decide +kernel)) (in_g (i := 78) (by decide +kernel) (by decide +kernel)) (in_g (i := 1398) (by decide +kernel) (by decide +kernel)) (by decide +kernel) ⟨rfl, rfl⟩ rfl hl.1 hcat1 hcs hW hS (by exact ⟨rfl, rfl, rfl, trivial⟩) (hq1) (fun r2 M2 w2 H locs hq2 hv2 hW hS => ?_)
  obtain ⟨⟨v, e1, e2⟩, hJ2⟩ := hq2
  subst e1
  subst e2
  obtain ⟨x, rfl, h1⟩ := rv_i hv1
  obtain ⟨y, rfl, h2⟩ := rv_i hv2
  obtain rfl : x = y := Int32.toInt_inj.mp (h1.trans h2.symm)
  exact lv_icmp_eq (tgt := 1383) hx hb dL_law_1083 (by decide) (fun _ => kk M2 H locs hJ2 hW hS) (fun h => absurd rfl h)
theorem lw_c29 (C : lCx p s m c b L xs G) (hcs : cells ≤ 600000 ∧ slots ≤ 7302250) (hi : i + 6 ≤ L) (hJ : J M) (hW : am_W G M H) (hS : va_S (lA s) s.heap H locs) (hl : lv_has ls 4 (lLv G b i))
    (kk : ∀ (M1 : am_M) (H1 : Heap) (locs1 : List Loc), J M1 → am_W G M1 H1 → va_S (lA s) s.heap H1 locs1 → W p l e room_1 s m #[Value.ref b] below meth c H1 locs1 cells slots Q (F0 m 1383 ls [])) : W p l e room_1 s m #[Value.ref b] below meth c H locs cells slots Q (F0 m 1088 ls []) := by
  have hx := C.1
  have hb := C.2.1
  refine lv_aload_n hx hb dL_law_1088 rfl (lv_at hl 2 rfl) ?_
  refine lw_arg (pc := 1089) C 1 (by decide) (by decide) hi hS hl dL_law_1089 dL_law_1090 dL_law_1091 dL_law_1092 dL_law_1093 ?_
  refine lw_arg (pc := 1094) C 2 (by decide) (by decide) hi hS hl dL_law_1094 dL_law_1095 dL_law_1096 dL_law_1097 dL_law_1098 ?_
  refine lw_arg (pc := 1099) C 3 (by decide) (by decide) hi hS hl dL_law_1099 dL_law_1100 dL_law_1101 dL_law_1102 dL_law_1103 ?_
  refine lw_call (pc := 1104) (rest := []) (C := RX11) C snd_11_sheet 0 3 [aI (xs (i + 1)).toInt, aI (xs (i + 2)).toInt, aI (xs (i + 3)).toInt] [.int (xs (i + 1)), .int (xs (i + 2)), .int (xs (i + 3))] (by decide) (ci := 11) rfl rfl dL_law_1104 (in_g (i := 851) (by decide +kernel) (by decide +kernel)) (in_g (i := 852) (by decide +kernel) (by decide +kernel)) (in_g (i := 853) (by decide +kernel) (by decide +kernel)) (in_g (i := 65) (by decide +kernel) (by decide +kernel)) (in_g (i := 854) (by decide +kernel) (by decide +kernel)) (by decide +kernel) ⟨rfl, rfl⟩ rfl hl.1 (Nat.zero_le _) hcs hW hS (by exact ⟨rfl, rfl, rfl, trivial⟩) (lc_sheet hJ) (fun r1 M1 w1 H locs hq1 hv1 hW hS => ?_)
  have hcat1 : (([w1] : List Value).map fun v => v.category).sum ≤ 8 := by rw [List.map_cons, List.map_nil, List.sum_cons, List.sum_nil]; have := cat_le w1; omega
  refine lv_aload_n hx hb dL_law_1107 rfl (lv_at hl 1 rfl) ?_
  refine lw_arg (pc := 1108) C 1 (by decide) (by decide) hi hS hl dL_law_1108 dL_law_1109 dL_law_1110 dL_law_1111 dL_law_1112 ?_
  refine lw_arg (pc := 1113) C 2 (by decide) (by decide) hi hS hl dL_law_1113 dL_law_1114 dL_law_1115 dL_law_1116 dL_law_1117 ?_
  refine lw_arg (pc := 1118) C 3 (by decide) (by decide) hi hS hl dL_law_1118 dL_law_1119 dL_law_1120 dL_law_1121 dL_law_1122 ?_
  refine lw_call (pc := 1123) (rest := [w1]) (C := RX12) C snd_12_sheet 44 3 [aI (xs (i + 1)).toInt, aI (xs (i + 2)).toInt, aI (xs (i + 3)).toInt] [.int (xs (i + 1)), .int (xs (i + 2)), .int (xs (i + 3))] (by decide) (ci := 12) rfl rfl dL_law_1123 (in_g (i := 1060) (by decide +kernel) (by decide +kernel)) (in_g (i := 1061) (by decide +kernel) (by decide +kernel)) (in_g (i := 1062) (by decide +kernel) (by decide +kernel)) (in_g (i := 78) (by decide +kernel) (by decide +kernel)) (in_g (i := 1063) (by decide +kernel) (by decide +kernel)) (by decide +kernel) ⟨rfl, rfl⟩ rfl hl.1 hcat1 hcs hW hS (by exact ⟨rfl, rfl, rfl, trivial⟩) (hq1) (fun r2 M2 w2 H locs hq2 hv2 hW hS => ?_)
  obtain ⟨⟨v, e1, e2⟩, hJ2⟩ := hq2
  subst e1
  subst e2
  obtain ⟨x, rfl, h1⟩ := rv_i hv1
  obtain ⟨y, rfl, h2⟩ := rv_i hv2
  obtain rfl : x = y := Int32.toInt_inj.mp (h1.trans h2.symm)
  exact lv_icmp_eq (tgt := 1383) hx hb dL_law_1126 (by decide) (fun _ => kk M2 H locs hJ2 hW hS) (fun h => absurd rfl h)
theorem lw_c30 (C : lCx p s m c b L xs G) (hcs : cells ≤ 600000 ∧ slots ≤ 7302250) (hi : i + 6 ≤ L) (hJ : J M) (hW : am_W G M H) (hS : va_S (lA s) s.heap H locs) (hl : lv_has ls 4 (lLv G b i))
    (kk : ∀ (M1 : am_M) (H1 : Heap) (locs1 : List Loc), J M1 → am_W G M1 H1 → va_S (lA s) s.heap H1 locs1 → W p l e room_1 s m #[Value.ref b] below meth c H1 locs1 cells slots Q (F0 m 1383 ls [])) : W p l e room_1 s m #[Value.ref b] below meth c H locs cells slots Q (F0 m 1131 ls []) := by
  have hx := C.1
  have hb := C.2.1
  refine lv_aload_n hx hb dL_law_1131 rfl (lv_at hl 2 rfl) ?_
  refine lw_arg (pc := 1132) C 1 (by decide) (by decide) hi hS hl dL_law_1132 dL_law_1133 dL_law_1134 dL_law_1135 dL_law_1136 ?_
  refine lw_call (pc := 1137) (rest := []) (C := RX11) C snd_11_lose 0 1 [aI (xs (i + 1)).toInt] [.int (xs (i + 1))] (by decide) (ci := 11) rfl rfl dL_law_1137 (in_g (i := 866) (by decide +kernel) (by decide +kernel)) (in_g (i := 867) (by decide +kernel) (by decide +kernel)) (in_g (i := 868) (by decide +kernel) (by decide +kernel)) (in_g (i := 65) (by decide +kernel) (by decide +kernel)) (in_g (i := 869) (by decide +kernel) (by decide +kernel)) (by decide +kernel) ⟨rfl, rfl⟩ rfl hl.1 (Nat.zero_le _) hcs hW hS (by exact ⟨rfl, trivial⟩) (lc_lose hJ) (fun r1 M1 w1 H locs hq1 hv1 hW hS => ?_)
  have hcat1 : (([w1] : List Value).map fun v => v.category).sum ≤ 8 := by rw [List.map_cons, List.map_nil, List.sum_cons, List.sum_nil]; have := cat_le w1; omega
  refine lv_aload_n hx hb dL_law_1140 rfl (lv_at hl 1 rfl) ?_
  refine lw_arg (pc := 1141) C 1 (by decide) (by decide) hi hS hl dL_law_1141 dL_law_1142 dL_law_1143 dL_law_1144 dL_law_1145 ?_
  refine lw_call (pc := 1146) (rest := [w1]) (C := RX12) C snd_12_lose 44 1 [aI (xs (i + 1)).toInt] [.int (xs (i + 1))] (by decide) (ci := 12) rfl rfl dL_law_1146 (in_g (i := 1076) (by decide +kernel) (by decide +kernel)) (in_g (i := 1077) (by decide +kernel) (by decide +kernel)) (in_g (i := 1078) (by decide +kernel) (by decide +kernel)) (in_g (i := 78) (by decide +kernel) (by decide +kernel)) (in_g (i := 1079) (by decide +kernel) (by decide +kernel)) (by decide +kernel) ⟨rfl, rfl⟩ rfl hl.1 hcat1 hcs hW hS (by exact ⟨rfl, trivial⟩) (hq1) (fun r2 M2 w2 H locs hq2 hv2 hW hS => ?_)
  obtain ⟨⟨v, e1, e2⟩, hJ2⟩ := hq2
  subst e1
  subst e2
  obtain ⟨x, rfl, h1⟩ := rv_i hv1
  obtain ⟨y, rfl, h2⟩ := rv_i hv2
  obtain rfl : x = y := Int32.toInt_inj.mp (h1.trans h2.symm)
  exact lv_icmp_eq (tgt := 1383) hx hb dL_law_1149 (by decide) (fun _ => kk M2 H locs hJ2 hW hS) (fun h => absurd rfl h)
theorem lw_c31 (C : lCx p s m c b L xs G) (hcs : cells ≤ 600000 ∧ slots ≤ 7302250) (hi : i + 6 ≤ L) (hJ : J M) (hW : am_W G M H) (hS : va_S (lA s) s.heap H locs) (hl : lv_has ls 4 (lLv G b i))
    (kk : ∀ (M1 : am_M) (H1 : Heap) (locs1 : List Loc), J M1 → am_W G M1 H1 → va_S (lA s) s.heap H1 locs1 → W p l e room_1 s m #[Value.ref b] below meth c H1 locs1 cells slots Q (F0 m 1383 ls [])) : W p l e room_1 s m #[Value.ref b] below meth c H locs cells slots Q (F0 m 1154 ls []) := by
  have hx := C.1
  have hb := C.2.1
  refine lv_aload_n hx hb dL_law_1154 rfl (lv_at hl 2 rfl) ?_
  refine lw_arg (pc := 1155) C 1 (by decide) (by decide) hi hS hl dL_law_1155 dL_law_1156 dL_law_1157 dL_law_1158 dL_law_1159 ?_
  refine lw_arg (pc := 1160) C 2 (by decide) (by decide) hi hS hl dL_law_1160 dL_law_1161 dL_law_1162 dL_law_1163 dL_law_1164 ?_
  refine lw_arg (pc := 1165) C 3 (by decide) (by decide) hi hS hl dL_law_1165 dL_law_1166 dL_law_1167 dL_law_1168 dL_law_1169 ?_
  refine lw_arg (pc := 1170) C 4 (by decide) (by decide) hi hS hl dL_law_1170 dL_law_1171 dL_law_1172 dL_law_1173 dL_law_1174 ?_
  refine lw_call (pc := 1175) (rest := []) (C := RX11) C snd_11_lay 0 4 [aI (xs (i + 1)).toInt, aI (xs (i + 2)).toInt, aI (xs (i + 3)).toInt, aI (xs (i + 4)).toInt] [.int (xs (i + 1)), .int (xs (i + 2)), .int (xs (i + 3)), .int (xs (i + 4))] (by decide) (ci := 11) rfl rfl dL_law_1175 (in_g (i := 874) (by decide +kernel) (by decide +kernel)) (in_g (i := 875) (by decide +kernel) (by decide +kernel)) (in_g (i := 876) (by decide +kernel) (by decide +kernel)) (in_g (i := 65) (by decide +kernel) (by decide +kernel)) (in_g (i := 877) (by decide +kernel) (by decide +kernel)) (by decide +kernel) ⟨rfl, rfl⟩ rfl hl.1 (Nat.zero_le _) hcs hW hS (by exact ⟨rfl, rfl, rfl, rfl, trivial⟩) (lc_lay hJ) (fun r1 M1 w1 H locs hq1 hv1 hW hS => ?_)
  have hcat1 : (([w1] : List Value).map fun v => v.category).sum ≤ 8 := by rw [List.map_cons, List.map_nil, List.sum_cons, List.sum_nil]; have := cat_le w1; omega
  refine lv_aload_n hx hb dL_law_1178 rfl (lv_at hl 1 rfl) ?_
  refine lw_arg (pc := 1179) C 1 (by decide) (by decide) hi hS hl dL_law_1179 dL_law_1180 dL_law_1181 dL_law_1182 dL_law_1183 ?_
  refine lw_arg (pc := 1184) C 2 (by decide) (by decide) hi hS hl dL_law_1184 dL_law_1185 dL_law_1186 dL_law_1187 dL_law_1188 ?_
  refine lw_arg (pc := 1189) C 3 (by decide) (by decide) hi hS hl dL_law_1189 dL_law_1190 dL_law_1191 dL_law_1192 dL_law_1193 ?_
  refine lw_arg (pc := 1194) C 4 (by decide) (by decide) hi hS hl dL_law_1194 dL_law_1195 dL_law_1196 dL_law_1197 dL_law_1198 ?_
  refine lw_call (pc := 1199) (rest := [w1]) (C := RX12) C snd_12_lay 44 4 [aI (xs (i + 1)).toInt, aI (xs (i + 2)).toInt, aI (xs (i + 3)).toInt, aI (xs (i + 4)).toInt] [.int (xs (i + 1)), .int (xs (i + 2)), .int (xs (i + 3)), .int (xs (i + 4))] (by decide) (ci := 12) rfl rfl dL_law_1199 (in_g (i := 1080) (by decide +kernel) (by decide +kernel)) (in_g (i := 1081) (by decide +kernel) (by decide +kernel)) (in_g (i := 1082) (by decide +kernel) (by decide +kernel)) (in_g (i := 78) (by decide +kernel) (by decide +kernel)) (in_g (i := 1083) (by decide +kernel) (by decide +kernel)) (by decide +kernel) ⟨rfl, rfl⟩ rfl hl.1 hcat1 hcs hW hS (by exact ⟨rfl, rfl, rfl, rfl, trivial⟩) (hq1) (fun r2 M2 w2 H locs hq2 hv2 hW hS => ?_)
  obtain ⟨⟨v, e1, e2⟩, hJ2⟩ := hq2
  subst e1
  subst e2
  obtain ⟨x, rfl, h1⟩ := rv_i hv1
  obtain ⟨y, rfl, h2⟩ := rv_i hv2
  obtain rfl : x = y := Int32.toInt_inj.mp (h1.trans h2.symm)
  exact lv_icmp_eq (tgt := 1383) hx hb dL_law_1202 (by decide) (fun _ => kk M2 H locs hJ2 hW hS) (fun h => absurd rfl h)
theorem lw_c32 (C : lCx p s m c b L xs G) (hcs : cells ≤ 600000 ∧ slots ≤ 7302250) (hi : i + 6 ≤ L) (hJ : J M) (hW : am_W G M H) (hS : va_S (lA s) s.heap H locs) (hl : lv_has ls 4 (lLv G b i))
    (kk : ∀ (M1 : am_M) (H1 : Heap) (locs1 : List Loc), J M1 → am_W G M1 H1 → va_S (lA s) s.heap H1 locs1 → W p l e room_1 s m #[Value.ref b] below meth c H1 locs1 cells slots Q (F0 m 1383 ls [])) : W p l e room_1 s m #[Value.ref b] below meth c H locs cells slots Q (F0 m 1207 ls []) := by
  have hx := C.1
  have hb := C.2.1
  refine lv_aload_n hx hb dL_law_1207 rfl (lv_at hl 2 rfl) ?_
  refine lw_arg (pc := 1208) C 1 (by decide) (by decide) hi hS hl dL_law_1208 dL_law_1209 dL_law_1210 dL_law_1211 dL_law_1212 ?_
  refine lw_arg (pc := 1213) C 2 (by decide) (by decide) hi hS hl dL_law_1213 dL_law_1214 dL_law_1215 dL_law_1216 dL_law_1217 ?_
  refine lw_arg (pc := 1218) C 3 (by decide) (by decide) hi hS hl dL_law_1218 dL_law_1219 dL_law_1220 dL_law_1221 dL_law_1222 ?_
  refine lw_call (pc := 1223) (rest := []) (C := RX11) C snd_11_get 0 3 [aI (xs (i + 1)).toInt, aI (xs (i + 2)).toInt, aI (xs (i + 3)).toInt] [.int (xs (i + 1)), .int (xs (i + 2)), .int (xs (i + 3))] (by decide) (ci := 11) rfl rfl dL_law_1223 (in_g (i := 887) (by decide +kernel) (by decide +kernel)) (in_g (i := 888) (by decide +kernel) (by decide +kernel)) (in_g (i := 889) (by decide +kernel) (by decide +kernel)) (in_g (i := 65) (by decide +kernel) (by decide +kernel)) (in_g (i := 890) (by decide +kernel) (by decide +kernel)) (by decide +kernel) ⟨rfl, rfl⟩ rfl hl.1 (Nat.zero_le _) hcs hW hS (by exact ⟨rfl, rfl, rfl, trivial⟩) (lc_get hJ) (fun r1 M1 w1 H locs hq1 hv1 hW hS => ?_)
  have hcat1 : (([w1] : List Value).map fun v => v.category).sum ≤ 8 := by rw [List.map_cons, List.map_nil, List.sum_cons, List.sum_nil]; have := cat_le w1; omega
  refine lv_aload_n hx hb dL_law_1226 rfl (lv_at hl 1 rfl) ?_
  refine lw_arg (pc := 1227) C 1 (by decide) (by decide) hi hS hl dL_law_1227 dL_law_1228 dL_law_1229 dL_law_1230 dL_law_1231 ?_
  refine lw_arg (pc := 1232) C 2 (by decide) (by decide) hi hS hl dL_law_1232 dL_law_1233 dL_law_1234 dL_law_1235 dL_law_1236 ?_
  refine lw_arg (pc := 1237) C 3 (by decide) (by decide) hi hS hl dL_law_1237 dL_law_1238 dL_law_1239 dL_law_1240 dL_law_1241 ?_
  refine lw_call (pc := 1242) (rest := [w1]) (C := RX12) C snd_12_get 44 3 [aI (xs (i + 1)).toInt, aI (xs (i + 2)).toInt, aI (xs (i + 3)).toInt] [.int (xs (i + 1)), .int (xs (i + 2)), .int (xs (i + 3))] (by decide) (ci := 12) rfl rfl dL_law_1242 (in_g (i := 1091) (by decide +kernel) (by decide +kernel)) (in_g (i := 1092) (by decide +kernel) (by decide +kernel)) (in_g (i := 1093) (by decide +kernel) (by decide +kernel)) (in_g (i := 78) (by decide +kernel) (by decide +kernel)) (in_g (i := 1094) (by decide +kernel) (by decide +kernel)) (by decide +kernel) ⟨rfl, rfl⟩ rfl hl.1 hcat1 hcs hW hS (by exact ⟨rfl, rfl, rfl, trivial⟩) (hq1) (fun r2 M2 w2 H locs hq2 hv2 hW hS => ?_)
  obtain ⟨⟨v, e1, e2⟩, hJ2⟩ := hq2
  subst e1
  subst e2
  obtain ⟨x, rfl, h1⟩ := rv_i hv1
  obtain ⟨y, rfl, h2⟩ := rv_i hv2
  obtain rfl : x = y := Int32.toInt_inj.mp (h1.trans h2.symm)
  exact lv_icmp_eq (tgt := 1383) hx hb dL_law_1245 (by decide) (fun _ => kk M2 H locs hJ2 hW hS) (fun h => absurd rfl h)
theorem lw_c33 (C : lCx p s m c b L xs G) (hcs : cells ≤ 600000 ∧ slots ≤ 7302250) (hi : i + 6 ≤ L) (hJ : J M) (hW : am_W G M H) (hS : va_S (lA s) s.heap H locs) (hl : lv_has ls 4 (lLv G b i))
    (kk : ∀ (M1 : am_M) (H1 : Heap) (locs1 : List Loc), J M1 → am_W G M1 H1 → va_S (lA s) s.heap H1 locs1 → W p l e room_1 s m #[Value.ref b] below meth c H1 locs1 cells slots Q (F0 m 1383 ls [])) : W p l e room_1 s m #[Value.ref b] below meth c H locs cells slots Q (F0 m 1250 ls []) := by
  have hx := C.1
  have hb := C.2.1
  refine lv_aload_n hx hb dL_law_1250 rfl (lv_at hl 2 rfl) ?_
  refine lw_arg (pc := 1251) C 1 (by decide) (by decide) hi hS hl dL_law_1251 dL_law_1252 dL_law_1253 dL_law_1254 dL_law_1255 ?_
  refine lw_arg (pc := 1256) C 2 (by decide) (by decide) hi hS hl dL_law_1256 dL_law_1257 dL_law_1258 dL_law_1259 dL_law_1260 ?_
  refine lw_arg (pc := 1261) C 3 (by decide) (by decide) hi hS hl dL_law_1261 dL_law_1262 dL_law_1263 dL_law_1264 dL_law_1265 ?_
  refine lw_arg (pc := 1266) C 4 (by decide) (by decide) hi hS hl dL_law_1266 dL_law_1267 dL_law_1268 dL_law_1269 dL_law_1270 ?_
  refine lw_arg (pc := 1271) C 5 (by decide) (by decide) hi hS hl dL_law_1271 dL_law_1272 dL_law_1273 dL_law_1274 dL_law_1275 ?_
  refine lw_call (pc := 1276) (rest := []) (C := RX11) C snd_11_copy 0 5 [aI (xs (i + 1)).toInt, aI (xs (i + 2)).toInt, aI (xs (i + 3)).toInt, aI (xs (i + 4)).toInt, aI (xs (i + 5)).toInt] [.int (xs (i + 1)), .int (xs (i + 2)), .int (xs (i + 3)), .int (xs (i + 4)), .int (xs (i + 5))] (by decide) (ci := 11) rfl rfl dL_law_1276 (in_g (i := 892) (by decide +kernel) (by decide +kernel)) (in_g (i := 893) (by decide +kernel) (by decide +kernel)) (in_g (i := 894) (by decide +kernel) (by decide +kernel)) (in_g (i := 65) (by decide +kernel) (by decide +kernel)) (in_g (i := 895) (by decide +kernel) (by decide +kernel)) (by decide +kernel) ⟨rfl, rfl⟩ rfl hl.1 (Nat.zero_le _) hcs hW hS (by exact ⟨rfl, rfl, rfl, rfl, rfl, trivial⟩) (lc_copy hJ (i32_r _) (i32_r _) (i32_r _)) (fun r1 M1 w1 H locs hq1 hv1 hW hS => ?_)
  have hcat1 : (([w1] : List Value).map fun v => v.category).sum ≤ 8 := by rw [List.map_cons, List.map_nil, List.sum_cons, List.sum_nil]; have := cat_le w1; omega
  refine lv_aload_n hx hb dL_law_1279 rfl (lv_at hl 1 rfl) ?_
  refine lw_arg (pc := 1280) C 1 (by decide) (by decide) hi hS hl dL_law_1280 dL_law_1281 dL_law_1282 dL_law_1283 dL_law_1284 ?_
  refine lw_arg (pc := 1285) C 2 (by decide) (by decide) hi hS hl dL_law_1285 dL_law_1286 dL_law_1287 dL_law_1288 dL_law_1289 ?_
  refine lw_arg (pc := 1290) C 3 (by decide) (by decide) hi hS hl dL_law_1290 dL_law_1291 dL_law_1292 dL_law_1293 dL_law_1294 ?_
  refine lw_arg (pc := 1295) C 4 (by decide) (by decide) hi hS hl dL_law_1295 dL_law_1296 dL_law_1297 dL_law_1298 dL_law_1299 ?_
  refine lw_arg (pc := 1300) C 5 (by decide) (by decide) hi hS hl dL_law_1300 dL_law_1301 dL_law_1302 dL_law_1303 dL_law_1304 ?_
  refine lw_call (pc := 1305) (rest := [w1]) (C := RX12) C snd_12_copy 44 5 [aI (xs (i + 1)).toInt, aI (xs (i + 2)).toInt, aI (xs (i + 3)).toInt, aI (xs (i + 4)).toInt, aI (xs (i + 5)).toInt] [.int (xs (i + 1)), .int (xs (i + 2)), .int (xs (i + 3)), .int (xs (i + 4)), .int (xs (i + 5))] (by decide) (ci := 12) rfl rfl dL_law_1305 (in_g (i := 1096) (by decide +kernel) (by decide +kernel)) (in_g (i := 1097) (by decide +kernel) (by decide +kernel)) (in_g (i := 1098) (by decide +kernel) (by decide +kernel)) (in_g (i := 78) (by decide +kernel) (by decide +kernel)) (in_g (i := 1099) (by decide +kernel) (by decide +kernel)) (by decide +kernel) ⟨rfl, rfl⟩ rfl hl.1 hcat1 hcs hW hS (by exact ⟨rfl, rfl, rfl, rfl, rfl, trivial⟩) (hq1) (fun r2 M2 w2 H locs hq2 hv2 hW hS => ?_)
  obtain ⟨⟨v, e1, e2⟩, hJ2⟩ := hq2
  subst e1
  subst e2
  obtain ⟨x, rfl, h1⟩ := rv_i hv1
  obtain ⟨y, rfl, h2⟩ := rv_i hv2
  obtain rfl : x = y := Int32.toInt_inj.mp (h1.trans h2.symm)
  exact lv_icmp_eq (tgt := 1383) hx hb dL_law_1308 (by decide) (fun _ => kk M2 H locs hJ2 hW hS) (fun h => absurd rfl h)
theorem lw_c34 (C : lCx p s m c b L xs G) (hcs : cells ≤ 600000 ∧ slots ≤ 7302250) (hi : i + 6 ≤ L) (hJ : J M) (hW : am_W G M H) (hS : va_S (lA s) s.heap H locs) (hl : lv_has ls 4 (lLv G b i))
    (kk : ∀ (M1 : am_M) (H1 : Heap) (locs1 : List Loc), J M1 → am_W G M1 H1 → va_S (lA s) s.heap H1 locs1 → W p l e room_1 s m #[Value.ref b] below meth c H1 locs1 cells slots Q (F0 m 1383 ls [])) : W p l e room_1 s m #[Value.ref b] below meth c H locs cells slots Q (F0 m 1313 ls []) := by
  have hx := C.1
  have hb := C.2.1
  refine lv_aload_n hx hb dL_law_1313 rfl (lv_at hl 2 rfl) ?_
  refine lw_arg (pc := 1314) C 1 (by decide) (by decide) hi hS hl dL_law_1314 dL_law_1315 dL_law_1316 dL_law_1317 dL_law_1318 ?_
  refine lw_arg (pc := 1319) C 2 (by decide) (by decide) hi hS hl dL_law_1319 dL_law_1320 dL_law_1321 dL_law_1322 dL_law_1323 ?_
  refine lw_call (pc := 1324) (rest := []) (C := RX11) C snd_11_write 0 2 [aI (xs (i + 1)).toInt, aI (xs (i + 2)).toInt] [.int (xs (i + 1)), .int (xs (i + 2))] (by decide) (ci := 11) rfl rfl dL_law_1324 (in_g (i := 901) (by decide +kernel) (by decide +kernel)) (in_g (i := 902) (by decide +kernel) (by decide +kernel)) (in_g (i := 903) (by decide +kernel) (by decide +kernel)) (in_g (i := 65) (by decide +kernel) (by decide +kernel)) (in_g (i := 904) (by decide +kernel) (by decide +kernel)) (by decide +kernel) ⟨rfl, rfl⟩ rfl hl.1 (Nat.zero_le _) hcs hW hS (by exact ⟨rfl, rfl, trivial⟩) (lc_write hJ) (fun r1 M1 w1 H locs hq1 hv1 hW hS => ?_)
  have hcat1 : (([w1] : List Value).map fun v => v.category).sum ≤ 8 := by rw [List.map_cons, List.map_nil, List.sum_cons, List.sum_nil]; have := cat_le w1; omega
  refine lv_aload_n hx hb dL_law_1327 rfl (lv_at hl 1 rfl) ?_
  refine lw_arg (pc := 1328) C 1 (by decide) (by decide) hi hS hl dL_law_1328 dL_law_1329 dL_law_1330 dL_law_1331 dL_law_1332 ?_
  refine lw_arg (pc := 1333) C 2 (by decide) (by decide) hi hS hl dL_law_1333 dL_law_1334 dL_law_1335 dL_law_1336 dL_law_1337 ?_
  refine lw_call (pc := 1338) (rest := [w1]) (C := RX12) C snd_12_write 44 2 [aI (xs (i + 1)).toInt, aI (xs (i + 2)).toInt] [.int (xs (i + 1)), .int (xs (i + 2))] (by decide) (ci := 12) rfl rfl dL_law_1338 (in_g (i := 1403) (by decide +kernel) (by decide +kernel)) (in_g (i := 1404) (by decide +kernel) (by decide +kernel)) (in_g (i := 1405) (by decide +kernel) (by decide +kernel)) (in_g (i := 78) (by decide +kernel) (by decide +kernel)) (in_g (i := 1406) (by decide +kernel) (by decide +kernel)) (by decide +kernel) ⟨rfl, rfl⟩ rfl hl.1 hcat1 hcs hW hS (by exact ⟨rfl, rfl, trivial⟩) (hq1) (fun r2 M2 w2 H locs hq2 hv2 hW hS => ?_)
  obtain ⟨⟨v, e1, e2⟩, hJ2⟩ := hq2
  subst e1
  subst e2
  obtain ⟨x, rfl, h1⟩ := rv_i hv1
  obtain ⟨y, rfl, h2⟩ := rv_i hv2
  obtain rfl : x = y := Int32.toInt_inj.mp (h1.trans h2.symm)
  exact lv_icmp_eq (tgt := 1383) hx hb dL_law_1341 (by decide) (fun _ => kk M2 H locs hJ2 hW hS) (fun h => absurd rfl h)
theorem lw_c35 (C : lCx p s m c b L xs G) (hcs : cells ≤ 600000 ∧ slots ≤ 7302250) (hi : i + 6 ≤ L) (hJ : J M) (hW : am_W G M H) (hS : va_S (lA s) s.heap H locs) (hl : lv_has ls 4 (lLv G b i))
    (kk : ∀ (M1 : am_M) (H1 : Heap) (locs1 : List Loc), J M1 → am_W G M1 H1 → va_S (lA s) s.heap H1 locs1 → W p l e room_1 s m #[Value.ref b] below meth c H1 locs1 cells slots Q (F0 m 1383 ls [])) : W p l e room_1 s m #[Value.ref b] below meth c H locs cells slots Q (F0 m 1346 ls []) := by
  have hx := C.1
  have hb := C.2.1
  refine lv_aload_n hx hb dL_law_1346 rfl (lv_at hl 2 rfl) ?_
  refine lw_arg (pc := 1347) C 1 (by decide) (by decide) hi hS hl dL_law_1347 dL_law_1348 dL_law_1349 dL_law_1350 dL_law_1351 ?_
  refine lw_call (pc := 1352) (rest := []) (C := RX11) C snd_11_count 0 1 [aI (xs (i + 1)).toInt] [.int (xs (i + 1))] (by decide) (ci := 11) rfl rfl dL_law_1352 (in_g (i := 905) (by decide +kernel) (by decide +kernel)) (in_g (i := 906) (by decide +kernel) (by decide +kernel)) (in_g (i := 907) (by decide +kernel) (by decide +kernel)) (in_g (i := 65) (by decide +kernel) (by decide +kernel)) (in_g (i := 908) (by decide +kernel) (by decide +kernel)) (by decide +kernel) ⟨rfl, rfl⟩ rfl hl.1 (Nat.zero_le _) hcs hW hS (by exact ⟨rfl, trivial⟩) (lc_count hJ) (fun r1 M1 w1 H locs hq1 hv1 hW hS => ?_)
  have hcat1 : (([w1] : List Value).map fun v => v.category).sum ≤ 8 := by rw [List.map_cons, List.map_nil, List.sum_cons, List.sum_nil]; have := cat_le w1; omega
  refine lv_aload_n hx hb dL_law_1355 rfl (lv_at hl 1 rfl) ?_
  refine lw_arg (pc := 1356) C 1 (by decide) (by decide) hi hS hl dL_law_1356 dL_law_1357 dL_law_1358 dL_law_1359 dL_law_1360 ?_
  refine lw_call (pc := 1361) (rest := [w1]) (C := RX12) C snd_12_count 44 1 [aI (xs (i + 1)).toInt] [.int (xs (i + 1))] (by decide) (ci := 12) rfl rfl dL_law_1361 (in_g (i := 1407) (by decide +kernel) (by decide +kernel)) (in_g (i := 1408) (by decide +kernel) (by decide +kernel)) (in_g (i := 1409) (by decide +kernel) (by decide +kernel)) (in_g (i := 78) (by decide +kernel) (by decide +kernel)) (in_g (i := 1410) (by decide +kernel) (by decide +kernel)) (by decide +kernel) ⟨rfl, rfl⟩ rfl hl.1 hcat1 hcs hW hS (by exact ⟨rfl, trivial⟩) (hq1) (fun r2 M2 w2 H locs hq2 hv2 hW hS => ?_)
  obtain ⟨⟨v, e1, e2⟩, hJ2⟩ := hq2
  subst e1
  subst e2
  obtain ⟨x, rfl, h1⟩ := rv_i hv1
  obtain ⟨y, rfl, h2⟩ := rv_i hv2
  obtain rfl : x = y := Int32.toInt_inj.mp (h1.trans h2.symm)
  exact lv_icmp_eq (tgt := 1383) hx hb dL_law_1364 (by decide) (fun _ => kk M2 H locs hJ2 hW hS) (fun h => absurd rfl h)
theorem lw_c36 (C : lCx p s m c b L xs G) (hcs : cells ≤ 600000 ∧ slots ≤ 7302250) (hi : i + 6 ≤ L) (hJ : J M) (hW : am_W G M H) (hS : va_S (lA s) s.heap H locs) (hl : lv_has ls 4 (lLv G b i))
    (kk : ∀ (M1 : am_M) (H1 : Heap) (locs1 : List Loc), J M1 → am_W G M1 H1 → va_S (lA s) s.heap H1 locs1 → W p l e room_1 s m #[Value.ref b] below meth c H1 locs1 cells slots Q (F0 m 1383 ls [])) : W p l e room_1 s m #[Value.ref b] below meth c H locs cells slots Q (F0 m 1369 ls []) := by
  have hx := C.1
  have hb := C.2.1
  refine lv_aload_n hx hb dL_law_1369 rfl (lv_at hl 2 rfl) ?_
  refine lw_call (pc := 1370) (rest := []) (C := RX11) C snd_11_digest 0 0 [] [] (by decide) (ci := 11) rfl rfl dL_law_1370 (in_g (i := 909) (by decide +kernel) (by decide +kernel)) (in_g (i := 910) (by decide +kernel) (by decide +kernel)) (in_g (i := 911) (by decide +kernel) (by decide +kernel)) (in_g (i := 65) (by decide +kernel) (by decide +kernel)) (in_g (i := 912) (by decide +kernel) (by decide +kernel)) (by decide +kernel) ⟨rfl, rfl⟩ rfl hl.1 (Nat.zero_le _) hcs hW hS (by exact trivial) (lc_digest hJ) (fun r1 M1 w1 H locs hq1 hv1 hW hS => ?_)
  have hcat1 : (([w1] : List Value).map fun v => v.category).sum ≤ 8 := by rw [List.map_cons, List.map_nil, List.sum_cons, List.sum_nil]; have := cat_le w1; omega
  refine lv_aload_n hx hb dL_law_1373 rfl (lv_at hl 1 rfl) ?_
  refine lw_call (pc := 1374) (rest := [w1]) (C := RX12) C snd_12_digest 44 0 [] [] (by decide) (ci := 12) rfl rfl dL_law_1374 (in_g (i := 1411) (by decide +kernel) (by decide +kernel)) (in_g (i := 1412) (by decide +kernel) (by decide +kernel)) (in_g (i := 1413) (by decide +kernel) (by decide +kernel)) (in_g (i := 78) (by decide +kernel) (by decide +kernel)) (in_g (i := 1414) (by decide +kernel) (by decide +kernel)) (by decide +kernel) ⟨rfl, rfl⟩ rfl hl.1 hcat1 hcs hW hS (by exact trivial) (hq1) (fun r2 M2 w2 H locs hq2 hv2 hW hS => ?_)
  obtain ⟨⟨v, e1, e2⟩, hJ2⟩ := hq2
  subst e1
  subst e2
  obtain ⟨x, rfl, h1⟩ := rv_l hv1
  obtain ⟨y, rfl, h2⟩ := rv_l hv2
  obtain rfl : x = y := Int64.toInt_inj.mp (h1.trans h2.symm)
  refine W.lcmp hx hb dL_law_1377 ?_
  exact lv_if_eq (tgt := 1383) hx hb dL_law_1378 (by decide) (fun _ => kk M2 H locs hJ2 hW hS) (fun h => absurd (cmp_self x) h)
end LAWC20
