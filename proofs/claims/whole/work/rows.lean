section
-- ===== PART A: goes FIRST, ahead of the names: the tables' words, and 'selects' of the private methods out of them =====
/-- a private method of a class that the tables say can be made, by its rows of tables_1 -/
def lw_okq (q : MethodName × Nat) : Prop := (q.1.cls ≠ "java/lang/invoke/MethodHandle" ∧ q.1.cls ≠ "java/lang/invoke/VarHandle") ∧ Cond.instantiable q.1.cls q.2 ∈ tables_1 ∧ Cond.privateMethod q.1 ∈ tables_1 ∧ Cond.instanceMethod q.1 ∈ tables_1
theorem lw_p0 : lw_okq (⟨"HandInHand", "textOf", "(I)LHandInHand$Text;"⟩, 17) := ⟨⟨by decide +kernel, by decide +kernel⟩, List.mem_of_getElem? (i := 19) (by decide +kernel), List.mem_of_getElem? (i := 318) (by decide +kernel), List.mem_of_getElem? (i := 319) (by decide +kernel)⟩
theorem lw_p1 : lw_okq (⟨"HandInHand", "reread", "(I)V"⟩, 17) := ⟨⟨by decide +kernel, by decide +kernel⟩, List.mem_of_getElem? (i := 19) (by decide +kernel), List.mem_of_getElem? (i := 330) (by decide +kernel), List.mem_of_getElem? (i := 331) (by decide +kernel)⟩
theorem lw_p2 : lw_okq (⟨"HandInHand$Fair", "layRows", "(LHandInHand$Text;)I"⟩, 3) := ⟨⟨by decide +kernel, by decide +kernel⟩, List.mem_of_getElem? (i := 52) (by decide +kernel), List.mem_of_getElem? (i := 338) (by decide +kernel), List.mem_of_getElem? (i := 339) (by decide +kernel)⟩
theorem lw_p3 : lw_okq (⟨"HandInHand$Fair", "link", "()V"⟩, 3) := ⟨⟨by decide +kernel, by decide +kernel⟩, List.mem_of_getElem? (i := 52) (by decide +kernel), List.mem_of_getElem? (i := 346) (by decide +kernel), List.mem_of_getElem? (i := 347) (by decide +kernel)⟩
theorem lw_p4 : lw_okq (⟨"HandInHand$Fair", "placeOrNone", "(I)I"⟩, 3) := ⟨⟨by decide +kernel, by decide +kernel⟩, List.mem_of_getElem? (i := 52) (by decide +kernel), List.mem_of_getElem? (i := 354) (by decide +kernel), List.mem_of_getElem? (i := 355) (by decide +kernel)⟩
theorem lw_p5 : lw_okq (⟨"HandInHand", "sheetOf", "(I)LHandInHand$Sheet;"⟩, 17) := ⟨⟨by decide +kernel, by decide +kernel⟩, List.mem_of_getElem? (i := 19) (by decide +kernel), List.mem_of_getElem? (i := 425) (by decide +kernel), List.mem_of_getElem? (i := 426) (by decide +kernel)⟩
theorem lw_p6 : lw_okq (⟨"HandInHand", "found", "(I)I"⟩, 17) := ⟨⟨by decide +kernel, by decide +kernel⟩, List.mem_of_getElem? (i := 19) (by decide +kernel), List.mem_of_getElem? (i := 433) (by decide +kernel), List.mem_of_getElem? (i := 434) (by decide +kernel)⟩
theorem lw_p7 : lw_okq (⟨"HandInHand$EasyWay", "cheapestOpen", "()I"⟩, 3) := ⟨⟨by decide +kernel, by decide +kernel⟩, List.mem_of_getElem? (i := 88) (by decide +kernel), List.mem_of_getElem? (i := 493) (by decide +kernel), List.mem_of_getElem? (i := 494) (by decide +kernel)⟩
theorem lw_p8 : lw_okq (⟨"HandInHand$EasyWay", "tollInto", "(I)I"⟩, 3) := ⟨⟨by decide +kernel, by decide +kernel⟩, List.mem_of_getElem? (i := 88) (by decide +kernel), List.mem_of_getElem? (i := 498) (by decide +kernel), List.mem_of_getElem? (i := 499) (by decide +kernel)⟩
theorem lw_p9 : lw_okq (⟨"HandInHand$EasyWay", "reaches", "(I)Z"⟩, 3) := ⟨⟨by decide +kernel, by decide +kernel⟩, List.mem_of_getElem? (i := 88) (by decide +kernel), List.mem_of_getElem? (i := 508) (by decide +kernel), List.mem_of_getElem? (i := 509) (by decide +kernel)⟩
theorem lw_p10 : lw_okq (⟨"HandInHand$EasyWay", "firstLetter", "(I)I"⟩, 3) := ⟨⟨by decide +kernel, by decide +kernel⟩, List.mem_of_getElem? (i := 88) (by decide +kernel), List.mem_of_getElem? (i := 520) (by decide +kernel), List.mem_of_getElem? (i := 521) (by decide +kernel)⟩
theorem lw_p11 : lw_okq (⟨"HandInHand", "densityOfStep", "(I)I"⟩, 17) := ⟨⟨by decide +kernel, by decide +kernel⟩, List.mem_of_getElem? (i := 19) (by decide +kernel), List.mem_of_getElem? (i := 557) (by decide +kernel), List.mem_of_getElem? (i := 558) (by decide +kernel)⟩
theorem lw_p12 : lw_okq (⟨"HandInHand$RowFinder", "cheapestNext", "(II)I"⟩, 3) := ⟨⟨by decide +kernel, by decide +kernel⟩, List.mem_of_getElem? (i := 226) (by decide +kernel), List.mem_of_getElem? (i := 585) (by decide +kernel), List.mem_of_getElem? (i := 586) (by decide +kernel)⟩
theorem lw_p13 : lw_okq (⟨"HandInHand$RowFinder", "costBy", "(III)I"⟩, 3) := ⟨⟨by decide +kernel, by decide +kernel⟩, List.mem_of_getElem? (i := 226) (by decide +kernel), List.mem_of_getElem? (i := 589) (by decide +kernel), List.mem_of_getElem? (i := 590) (by decide +kernel)⟩
theorem lw_p14 : lw_okq (⟨"HandInHand", "goThroughFair", "()V"⟩, 17) := ⟨⟨by decide +kernel, by decide +kernel⟩, List.mem_of_getElem? (i := 19) (by decide +kernel), List.mem_of_getElem? (i := 632) (by decide +kernel), List.mem_of_getElem? (i := 633) (by decide +kernel)⟩
theorem lw_p15 : lw_okq (⟨"HandInHand$Tearing", "tears", "(II)Z"⟩, 5) := ⟨⟨by decide +kernel, by decide +kernel⟩, List.mem_of_getElem? (i := 155) (by decide +kernel), List.mem_of_getElem? (i := 643) (by decide +kernel), List.mem_of_getElem? (i := 644) (by decide +kernel)⟩
def lw_privs_1 : List (MethodName × Nat) := [(⟨"HandInHand", "textOf", "(I)LHandInHand$Text;"⟩, 17), (⟨"HandInHand", "reread", "(I)V"⟩, 17), (⟨"HandInHand$Fair", "layRows", "(LHandInHand$Text;)I"⟩, 3), (⟨"HandInHand$Fair", "link", "()V"⟩, 3), (⟨"HandInHand$Fair", "placeOrNone", "(I)I"⟩, 3), (⟨"HandInHand", "sheetOf", "(I)LHandInHand$Sheet;"⟩, 17), (⟨"HandInHand", "found", "(I)I"⟩, 17), (⟨"HandInHand$EasyWay", "cheapestOpen", "()I"⟩, 3), (⟨"HandInHand$EasyWay", "tollInto", "(I)I"⟩, 3), (⟨"HandInHand$EasyWay", "reaches", "(I)Z"⟩, 3), (⟨"HandInHand$EasyWay", "firstLetter", "(I)I"⟩, 3), (⟨"HandInHand", "densityOfStep", "(I)I"⟩, 17), (⟨"HandInHand$RowFinder", "cheapestNext", "(II)I"⟩, 3), (⟨"HandInHand$RowFinder", "costBy", "(III)I"⟩, 3), (⟨"HandInHand", "goThroughFair", "()V"⟩, 17), (⟨"HandInHand$Tearing", "tears", "(II)Z"⟩, 5)]
theorem lw_r1 : ∀ q ∈ lw_privs_1, lw_okq q := List.forall_mem_cons.mpr ⟨lw_p0, List.forall_mem_cons.mpr ⟨lw_p1, List.forall_mem_cons.mpr ⟨lw_p2, List.forall_mem_cons.mpr ⟨lw_p3, List.forall_mem_cons.mpr ⟨lw_p4, List.forall_mem_cons.mpr ⟨lw_p5, List.forall_mem_cons.mpr ⟨lw_p6, List.forall_mem_cons.mpr ⟨lw_p7, List.forall_mem_cons.mpr ⟨lw_p8, List.forall_mem_cons.mpr ⟨lw_p9, List.forall_mem_cons.mpr ⟨lw_p10, List.forall_mem_cons.mpr ⟨lw_p11, List.forall_mem_cons.mpr ⟨lw_p12, List.forall_mem_cons.mpr ⟨lw_p13, List.forall_mem_cons.mpr ⟨lw_p14, List.forall_mem_cons.mpr ⟨lw_p15, fun _ h => absurd h List.not_mem_nil⟩⟩⟩⟩⟩⟩⟩⟩⟩⟩⟩⟩⟩⟩⟩⟩
theorem lw_p16 : lw_okq (⟨"HandInHand$Tearing", "lotOfSixteen", "()I"⟩, 5) := ⟨⟨by decide +kernel, by decide +kernel⟩, List.mem_of_getElem? (i := 155) (by decide +kernel), List.mem_of_getElem? (i := 647) (by decide +kernel), List.mem_of_getElem? (i := 648) (by decide +kernel)⟩
theorem lw_p17 : lw_okq (⟨"HandInHand", "loseFrom", "(II)V"⟩, 17) := ⟨⟨by decide +kernel, by decide +kernel⟩, List.mem_of_getElem? (i := 19) (by decide +kernel), List.mem_of_getElem? (i := 667) (by decide +kernel), List.mem_of_getElem? (i := 668) (by decide +kernel)⟩
theorem lw_p18 : lw_okq (⟨"HandInHand$Lost", "spread", "(I)V"⟩, 5) := ⟨⟨by decide +kernel, by decide +kernel⟩, List.mem_of_getElem? (i := 185) (by decide +kernel), List.mem_of_getElem? (i := 683) (by decide +kernel), List.mem_of_getElem? (i := 684) (by decide +kernel)⟩
theorem lw_p19 : lw_okq (⟨"HandInHand", "canSeek", "(II)Z"⟩, 17) := ⟨⟨by decide +kernel, by decide +kernel⟩, List.mem_of_getElem? (i := 19) (by decide +kernel), List.mem_of_getElem? (i := 727) (by decide +kernel), List.mem_of_getElem? (i := 728) (by decide +kernel)⟩
theorem lw_p20 : lw_okq (⟨"HandInHand", "layLegs", "(II)Z"⟩, 17) := ⟨⟨by decide +kernel, by decide +kernel⟩, List.mem_of_getElem? (i := 19) (by decide +kernel), List.mem_of_getElem? (i := 743) (by decide +kernel), List.mem_of_getElem? (i := 744) (by decide +kernel)⟩
theorem lw_p21 : lw_okq (⟨"HandInHand", "comeFrom", "(I)V"⟩, 17) := ⟨⟨by decide +kernel, by decide +kernel⟩, List.mem_of_getElem? (i := 19) (by decide +kernel), List.mem_of_getElem? (i := 775) (by decide +kernel), List.mem_of_getElem? (i := 776) (by decide +kernel)⟩
theorem lw_p22 : lw_okq (⟨"HandInHand", "leastFar", "()I"⟩, 17) := ⟨⟨by decide +kernel, by decide +kernel⟩, List.mem_of_getElem? (i := 19) (by decide +kernel), List.mem_of_getElem? (i := 780) (by decide +kernel), List.mem_of_getElem? (i := 781) (by decide +kernel)⟩
theorem lw_p23 : lw_okq (⟨"HandInHand", "withPersons", "(J)J"⟩, 17) := ⟨⟨by decide +kernel, by decide +kernel⟩, List.mem_of_getElem? (i := 19) (by decide +kernel), List.mem_of_getElem? (i := 859) (by decide +kernel), List.mem_of_getElem? (i := 860) (by decide +kernel)⟩
theorem lw_p24 : lw_okq (⟨"HandInHand", "withWays", "(J)J"⟩, 17) := ⟨⟨by decide +kernel, by decide +kernel⟩, List.mem_of_getElem? (i := 19) (by decide +kernel), List.mem_of_getElem? (i := 865) (by decide +kernel), List.mem_of_getElem? (i := 866) (by decide +kernel)⟩
theorem lw_p25 : lw_okq (⟨"HandInHand", "withTearing", "(J)J"⟩, 17) := ⟨⟨by decide +kernel, by decide +kernel⟩, List.mem_of_getElem? (i := 19) (by decide +kernel), List.mem_of_getElem? (i := 873) (by decide +kernel), List.mem_of_getElem? (i := 874) (by decide +kernel)⟩
theorem lw_p26 : lw_okq (⟨"HandInHand", "withSeeking", "(J)J"⟩, 17) := ⟨⟨by decide +kernel, by decide +kernel⟩, List.mem_of_getElem? (i := 19) (by decide +kernel), List.mem_of_getElem? (i := 881) (by decide +kernel), List.mem_of_getElem? (i := 882) (by decide +kernel)⟩
theorem lw_p27 : lw_okq (⟨"HandInHandModel", "met", "(I)I"⟩, 34) := ⟨⟨by decide +kernel, by decide +kernel⟩, List.mem_of_getElem? (i := 888) (by decide +kernel), List.mem_of_getElem? (i := 1009) (by decide +kernel), List.mem_of_getElem? (i := 1010) (by decide +kernel)⟩
theorem lw_p28 : lw_okq (⟨"HandInHandModel", "lacks", "(III)I"⟩, 34) := ⟨⟨by decide +kernel, by decide +kernel⟩, List.mem_of_getElem? (i := 888) (by decide +kernel), List.mem_of_getElem? (i := 1021) (by decide +kernel), List.mem_of_getElem? (i := 1022) (by decide +kernel)⟩
theorem lw_p29 : lw_okq (⟨"HandInHandModel", "readsFair", "()I"⟩, 34) := ⟨⟨by decide +kernel, by decide +kernel⟩, List.mem_of_getElem? (i := 888) (by decide +kernel), List.mem_of_getElem? (i := 1057) (by decide +kernel), List.mem_of_getElem? (i := 1058) (by decide +kernel)⟩
theorem lw_p30 : lw_okq (⟨"HandInHandModel", "clears", "()V"⟩, 34) := ⟨⟨by decide +kernel, by decide +kernel⟩, List.mem_of_getElem? (i := 888) (by decide +kernel), List.mem_of_getElem? (i := 1061) (by decide +kernel), List.mem_of_getElem? (i := 1062) (by decide +kernel)⟩
theorem lw_p31 : lw_okq (⟨"HandInHandModel", "readsRow", "(II)I"⟩, 34) := ⟨⟨by decide +kernel, by decide +kernel⟩, List.mem_of_getElem? (i := 888) (by decide +kernel), List.mem_of_getElem? (i := 1065) (by decide +kernel), List.mem_of_getElem? (i := 1066) (by decide +kernel)⟩
def lw_privs_2 : List (MethodName × Nat) := [(⟨"HandInHand$Tearing", "lotOfSixteen", "()I"⟩, 5), (⟨"HandInHand", "loseFrom", "(II)V"⟩, 17), (⟨"HandInHand$Lost", "spread", "(I)V"⟩, 5), (⟨"HandInHand", "canSeek", "(II)Z"⟩, 17), (⟨"HandInHand", "layLegs", "(II)Z"⟩, 17), (⟨"HandInHand", "comeFrom", "(I)V"⟩, 17), (⟨"HandInHand", "leastFar", "()I"⟩, 17), (⟨"HandInHand", "withPersons", "(J)J"⟩, 17), (⟨"HandInHand", "withWays", "(J)J"⟩, 17), (⟨"HandInHand", "withTearing", "(J)J"⟩, 17), (⟨"HandInHand", "withSeeking", "(J)J"⟩, 17), (⟨"HandInHandModel", "met", "(I)I"⟩, 34), (⟨"HandInHandModel", "lacks", "(III)I"⟩, 34), (⟨"HandInHandModel", "readsFair", "()I"⟩, 34), (⟨"HandInHandModel", "clears", "()V"⟩, 34), (⟨"HandInHandModel", "readsRow", "(II)I"⟩, 34)]
theorem lw_r2 : ∀ q ∈ lw_privs_2, lw_okq q := List.forall_mem_cons.mpr ⟨lw_p16, List.forall_mem_cons.mpr ⟨lw_p17, List.forall_mem_cons.mpr ⟨lw_p18, List.forall_mem_cons.mpr ⟨lw_p19, List.forall_mem_cons.mpr ⟨lw_p20, List.forall_mem_cons.mpr ⟨lw_p21, List.forall_mem_cons.mpr ⟨lw_p22, List.forall_mem_cons.mpr ⟨lw_p23, List.forall_mem_cons.mpr ⟨lw_p24, List.forall_mem_cons.mpr ⟨lw_p25, List.forall_mem_cons.mpr ⟨lw_p26, List.forall_mem_cons.mpr ⟨lw_p27, List.forall_mem_cons.mpr ⟨lw_p28, List.forall_mem_cons.mpr ⟨lw_p29, List.forall_mem_cons.mpr ⟨lw_p30, List.forall_mem_cons.mpr ⟨lw_p31, fun _ h => absurd h List.not_mem_nil⟩⟩⟩⟩⟩⟩⟩⟩⟩⟩⟩⟩⟩⟩⟩⟩
theorem lw_p32 : lw_okq (⟨"HandInHandModel", "here", "(I)I"⟩, 34) := ⟨⟨by decide +kernel, by decide +kernel⟩, List.mem_of_getElem? (i := 888) (by decide +kernel), List.mem_of_getElem? (i := 1069) (by decide +kernel), List.mem_of_getElem? (i := 1070) (by decide +kernel)⟩
theorem lw_p33 : lw_okq (⟨"HandInHandModel", "readsOrder", "()I"⟩, 34) := ⟨⟨by decide +kernel, by decide +kernel⟩, List.mem_of_getElem? (i := 888) (by decide +kernel), List.mem_of_getElem? (i := 1075) (by decide +kernel), List.mem_of_getElem? (i := 1076) (by decide +kernel)⟩
theorem lw_p34 : lw_okq (⟨"HandInHandModel", "readsWay", "()I"⟩, 34) := ⟨⟨by decide +kernel, by decide +kernel⟩, List.mem_of_getElem? (i := 888) (by decide +kernel), List.mem_of_getElem? (i := 1083) (by decide +kernel), List.mem_of_getElem? (i := 1084) (by decide +kernel)⟩
theorem lw_p35 : lw_okq (⟨"HandInHandModel", "reads", "()V"⟩, 34) := ⟨⟨by decide +kernel, by decide +kernel⟩, List.mem_of_getElem? (i := 888) (by decide +kernel), List.mem_of_getElem? (i := 1119) (by decide +kernel), List.mem_of_getElem? (i := 1120) (by decide +kernel)⟩
theorem lw_p36 : lw_okq (⟨"HandInHandModel", "walks", "()V"⟩, 34) := ⟨⟨by decide +kernel, by decide +kernel⟩, List.mem_of_getElem? (i := 888) (by decide +kernel), List.mem_of_getElem? (i := 1123) (by decide +kernel), List.mem_of_getElem? (i := 1124) (by decide +kernel)⟩
theorem lw_p37 : lw_okq (⟨"HandInHandModel", "isPlace", "(I)Z"⟩, 34) := ⟨⟨by decide +kernel, by decide +kernel⟩, List.mem_of_getElem? (i := 888) (by decide +kernel), List.mem_of_getElem? (i := 1127) (by decide +kernel), List.mem_of_getElem? (i := 1128) (by decide +kernel)⟩
theorem lw_p38 : lw_okq (⟨"HandInHandModel", "beside", "(II)I"⟩, 34) := ⟨⟨by decide +kernel, by decide +kernel⟩, List.mem_of_getElem? (i := 888) (by decide +kernel), List.mem_of_getElem? (i := 1131) (by decide +kernel), List.mem_of_getElem? (i := 1132) (by decide +kernel)⟩
theorem lw_p39 : lw_okq (⟨"HandInHandModel", "nearOf", "(II)I"⟩, 34) := ⟨⟨by decide +kernel, by decide +kernel⟩, List.mem_of_getElem? (i := 888) (by decide +kernel), List.mem_of_getElem? (i := 1148) (by decide +kernel), List.mem_of_getElem? (i := 1149) (by decide +kernel)⟩
theorem lw_p40 : lw_okq (⟨"HandInHandModel", "findFar", "(II)V"⟩, 34) := ⟨⟨by decide +kernel, by decide +kernel⟩, List.mem_of_getElem? (i := 888) (by decide +kernel), List.mem_of_getElem? (i := 1152) (by decide +kernel), List.mem_of_getElem? (i := 1153) (by decide +kernel)⟩
theorem lw_p41 : lw_okq (⟨"HandInHandModel", "easiestOf", "(III)I"⟩, 34) := ⟨⟨by decide +kernel, by decide +kernel⟩, List.mem_of_getElem? (i := 888) (by decide +kernel), List.mem_of_getElem? (i := 1161) (by decide +kernel), List.mem_of_getElem? (i := 1162) (by decide +kernel)⟩
theorem lw_p42 : lw_okq (⟨"HandInHandModel", "orderOf", "(I)I"⟩, 34) := ⟨⟨by decide +kernel, by decide +kernel⟩, List.mem_of_getElem? (i := 888) (by decide +kernel), List.mem_of_getElem? (i := 1169) (by decide +kernel), List.mem_of_getElem? (i := 1170) (by decide +kernel)⟩
theorem lw_p43 : lw_okq (⟨"HandInHandModel", "looseNow", "()I"⟩, 34) := ⟨⟨by decide +kernel, by decide +kernel⟩, List.mem_of_getElem? (i := 888) (by decide +kernel), List.mem_of_getElem? (i := 1177) (by decide +kernel), List.mem_of_getElem? (i := 1178) (by decide +kernel)⟩
theorem lw_p44 : lw_okq (⟨"HandInHandModel", "gripAt", "(I)I"⟩, 34) := ⟨⟨by decide +kernel, by decide +kernel⟩, List.mem_of_getElem? (i := 888) (by decide +kernel), List.mem_of_getElem? (i := 1181) (by decide +kernel), List.mem_of_getElem? (i := 1182) (by decide +kernel)⟩
theorem lw_p45 : lw_okq (⟨"HandInHandModel", "riskNow", "()I"⟩, 34) := ⟨⟨by decide +kernel, by decide +kernel⟩, List.mem_of_getElem? (i := 888) (by decide +kernel), List.mem_of_getElem? (i := 1189) (by decide +kernel), List.mem_of_getElem? (i := 1190) (by decide +kernel)⟩
theorem lw_p46 : lw_okq (⟨"HandInHandModel", "bestOf", "(II)I"⟩, 34) := ⟨⟨by decide +kernel, by decide +kernel⟩, List.mem_of_getElem? (i := 888) (by decide +kernel), List.mem_of_getElem? (i := 1202) (by decide +kernel), List.mem_of_getElem? (i := 1203) (by decide +kernel)⟩
theorem lw_p47 : lw_okq (⟨"HandInHandModel", "holdsOf", "(IIII)J"⟩, 34) := ⟨⟨by decide +kernel, by decide +kernel⟩, List.mem_of_getElem? (i := 888) (by decide +kernel), List.mem_of_getElem? (i := 1211) (by decide +kernel), List.mem_of_getElem? (i := 1212) (by decide +kernel)⟩
def lw_privs_3 : List (MethodName × Nat) := [(⟨"HandInHandModel", "here", "(I)I"⟩, 34), (⟨"HandInHandModel", "readsOrder", "()I"⟩, 34), (⟨"HandInHandModel", "readsWay", "()I"⟩, 34), (⟨"HandInHandModel", "reads", "()V"⟩, 34), (⟨"HandInHandModel", "walks", "()V"⟩, 34), (⟨"HandInHandModel", "isPlace", "(I)Z"⟩, 34), (⟨"HandInHandModel", "beside", "(II)I"⟩, 34), (⟨"HandInHandModel", "nearOf", "(II)I"⟩, 34), (⟨"HandInHandModel", "findFar", "(II)V"⟩, 34), (⟨"HandInHandModel", "easiestOf", "(III)I"⟩, 34), (⟨"HandInHandModel", "orderOf", "(I)I"⟩, 34), (⟨"HandInHandModel", "looseNow", "()I"⟩, 34), (⟨"HandInHandModel", "gripAt", "(I)I"⟩, 34), (⟨"HandInHandModel", "riskNow", "()I"⟩, 34), (⟨"HandInHandModel", "bestOf", "(II)I"⟩, 34), (⟨"HandInHandModel", "holdsOf", "(IIII)J"⟩, 34)]
theorem lw_r3 : ∀ q ∈ lw_privs_3, lw_okq q := List.forall_mem_cons.mpr ⟨lw_p32, List.forall_mem_cons.mpr ⟨lw_p33, List.forall_mem_cons.mpr ⟨lw_p34, List.forall_mem_cons.mpr ⟨lw_p35, List.forall_mem_cons.mpr ⟨lw_p36, List.forall_mem_cons.mpr ⟨lw_p37, List.forall_mem_cons.mpr ⟨lw_p38, List.forall_mem_cons.mpr ⟨lw_p39, List.forall_mem_cons.mpr ⟨lw_p40, List.forall_mem_cons.mpr ⟨lw_p41, List.forall_mem_cons.mpr ⟨lw_p42, List.forall_mem_cons.mpr ⟨lw_p43, List.forall_mem_cons.mpr ⟨lw_p44, List.forall_mem_cons.mpr ⟨lw_p45, List.forall_mem_cons.mpr ⟨lw_p46, List.forall_mem_cons.mpr ⟨lw_p47, fun _ h => absurd h List.not_mem_nil⟩⟩⟩⟩⟩⟩⟩⟩⟩⟩⟩⟩⟩⟩⟩⟩
theorem lw_p48 : lw_okq (⟨"HandInHandModel", "alikeOf", "(I)J"⟩, 34) := ⟨⟨by decide +kernel, by decide +kernel⟩, List.mem_of_getElem? (i := 888) (by decide +kernel), List.mem_of_getElem? (i := 1227) (by decide +kernel), List.mem_of_getElem? (i := 1228) (by decide +kernel)⟩
theorem lw_p49 : lw_okq (⟨"HandInHandModel", "tornOf", "(II)I"⟩, 34) := ⟨⟨by decide +kernel, by decide +kernel⟩, List.mem_of_getElem? (i := 888) (by decide +kernel), List.mem_of_getElem? (i := 1235) (by decide +kernel), List.mem_of_getElem? (i := 1236) (by decide +kernel)⟩
theorem lw_p50 : lw_okq (⟨"HandInHandModel", "tears", "()V"⟩, 34) := ⟨⟨by decide +kernel, by decide +kernel⟩, List.mem_of_getElem? (i := 888) (by decide +kernel), List.mem_of_getElem? (i := 1239) (by decide +kernel), List.mem_of_getElem? (i := 1240) (by decide +kernel)⟩
theorem lw_p51 : lw_okq (⟨"HandInHandModel", "lot", "()I"⟩, 34) := ⟨⟨by decide +kernel, by decide +kernel⟩, List.mem_of_getElem? (i := 888) (by decide +kernel), List.mem_of_getElem? (i := 1243) (by decide +kernel), List.mem_of_getElem? (i := 1244) (by decide +kernel)⟩
theorem lw_p52 : lw_okq (⟨"HandInHandModel", "fairsOf", "(II)I"⟩, 34) := ⟨⟨by decide +kernel, by decide +kernel⟩, List.mem_of_getElem? (i := 888) (by decide +kernel), List.mem_of_getElem? (i := 1253) (by decide +kernel), List.mem_of_getElem? (i := 1254) (by decide +kernel)⟩
theorem lw_p53 : lw_okq (⟨"HandInHandModel", "isOf", "(IIII)J"⟩, 34) := ⟨⟨by decide +kernel, by decide +kernel⟩, List.mem_of_getElem? (i := 888) (by decide +kernel), List.mem_of_getElem? (i := 1262) (by decide +kernel), List.mem_of_getElem? (i := 1263) (by decide +kernel)⟩
theorem lw_p54 : lw_okq (⟨"HandInHandModel", "findChances", "(II)J"⟩, 34) := ⟨⟨by decide +kernel, by decide +kernel⟩, List.mem_of_getElem? (i := 888) (by decide +kernel), List.mem_of_getElem? (i := 1266) (by decide +kernel), List.mem_of_getElem? (i := 1267) (by decide +kernel)⟩
theorem lw_p55 : lw_okq (⟨"HandInHandModel", "roams", "(I)V"⟩, 34) := ⟨⟨by decide +kernel, by decide +kernel⟩, List.mem_of_getElem? (i := 888) (by decide +kernel), List.mem_of_getElem? (i := 1270) (by decide +kernel), List.mem_of_getElem? (i := 1271) (by decide +kernel)⟩
theorem lw_p56 : lw_okq (⟨"HandInHandModel", "goesNearer", "(I)V"⟩, 34) := ⟨⟨by decide +kernel, by decide +kernel⟩, List.mem_of_getElem? (i := 888) (by decide +kernel), List.mem_of_getElem? (i := 1274) (by decide +kernel), List.mem_of_getElem? (i := 1275) (by decide +kernel)⟩
theorem lw_p57 : lw_okq (⟨"HandInHandModel", "likeliestOf", "(II)I"⟩, 34) := ⟨⟨by decide +kernel, by decide +kernel⟩, List.mem_of_getElem? (i := 888) (by decide +kernel), List.mem_of_getElem? (i := 1282) (by decide +kernel), List.mem_of_getElem? (i := 1283) (by decide +kernel)⟩
theorem lw_p58 : lw_okq (⟨"HandInHandModel", "seekOf", "(II)J"⟩, 34) := ⟨⟨by decide +kernel, by decide +kernel⟩, List.mem_of_getElem? (i := 888) (by decide +kernel), List.mem_of_getElem? (i := 1300) (by decide +kernel), List.mem_of_getElem? (i := 1301) (by decide +kernel)⟩
theorem lw_p59 : lw_okq (⟨"HandInHandModel", "findWays", "(I)Z"⟩, 34) := ⟨⟨by decide +kernel, by decide +kernel⟩, List.mem_of_getElem? (i := 888) (by decide +kernel), List.mem_of_getElem? (i := 1304) (by decide +kernel), List.mem_of_getElem? (i := 1305) (by decide +kernel)⟩
theorem lw_p60 : lw_okq (⟨"HandInHandModel", "findBest", "(I)I"⟩, 34) := ⟨⟨by decide +kernel, by decide +kernel⟩, List.mem_of_getElem? (i := 888) (by decide +kernel), List.mem_of_getElem? (i := 1308) (by decide +kernel), List.mem_of_getElem? (i := 1309) (by decide +kernel)⟩
theorem lw_p61 : lw_okq (⟨"HandInHandModel", "weights", "()I"⟩, 34) := ⟨⟨by decide +kernel, by decide +kernel⟩, List.mem_of_getElem? (i := 888) (by decide +kernel), List.mem_of_getElem? (i := 1312) (by decide +kernel), List.mem_of_getElem? (i := 1313) (by decide +kernel)⟩
theorem lw_p62 : lw_okq (⟨"HandInHandModel", "partedOf", "(III)J"⟩, 34) := ⟨⟨by decide +kernel, by decide +kernel⟩, List.mem_of_getElem? (i := 888) (by decide +kernel), List.mem_of_getElem? (i := 1320) (by decide +kernel), List.mem_of_getElem? (i := 1321) (by decide +kernel)⟩
theorem lw_p63 : lw_okq (⟨"HandInHandModel", "meetOf", "(II)I"⟩, 34) := ⟨⟨by decide +kernel, by decide +kernel⟩, List.mem_of_getElem? (i := 888) (by decide +kernel), List.mem_of_getElem? (i := 1328) (by decide +kernel), List.mem_of_getElem? (i := 1329) (by decide +kernel)⟩
def lw_privs_4 : List (MethodName × Nat) := [(⟨"HandInHandModel", "alikeOf", "(I)J"⟩, 34), (⟨"HandInHandModel", "tornOf", "(II)I"⟩, 34), (⟨"HandInHandModel", "tears", "()V"⟩, 34), (⟨"HandInHandModel", "lot", "()I"⟩, 34), (⟨"HandInHandModel", "fairsOf", "(II)I"⟩, 34), (⟨"HandInHandModel", "isOf", "(IIII)J"⟩, 34), (⟨"HandInHandModel", "findChances", "(II)J"⟩, 34), (⟨"HandInHandModel", "roams", "(I)V"⟩, 34), (⟨"HandInHandModel", "goesNearer", "(I)V"⟩, 34), (⟨"HandInHandModel", "likeliestOf", "(II)I"⟩, 34), (⟨"HandInHandModel", "seekOf", "(II)J"⟩, 34), (⟨"HandInHandModel", "findWays", "(I)Z"⟩, 34), (⟨"HandInHandModel", "findBest", "(I)I"⟩, 34), (⟨"HandInHandModel", "weights", "()I"⟩, 34), (⟨"HandInHandModel", "partedOf", "(III)J"⟩, 34), (⟨"HandInHandModel", "meetOf", "(II)I"⟩, 34)]
theorem lw_r4 : ∀ q ∈ lw_privs_4, lw_okq q := List.forall_mem_cons.mpr ⟨lw_p48, List.forall_mem_cons.mpr ⟨lw_p49, List.forall_mem_cons.mpr ⟨lw_p50, List.forall_mem_cons.mpr ⟨lw_p51, List.forall_mem_cons.mpr ⟨lw_p52, List.forall_mem_cons.mpr ⟨lw_p53, List.forall_mem_cons.mpr ⟨lw_p54, List.forall_mem_cons.mpr ⟨lw_p55, List.forall_mem_cons.mpr ⟨lw_p56, List.forall_mem_cons.mpr ⟨lw_p57, List.forall_mem_cons.mpr ⟨lw_p58, List.forall_mem_cons.mpr ⟨lw_p59, List.forall_mem_cons.mpr ⟨lw_p60, List.forall_mem_cons.mpr ⟨lw_p61, List.forall_mem_cons.mpr ⟨lw_p62, List.forall_mem_cons.mpr ⟨lw_p63, fun _ h => absurd h List.not_mem_nil⟩⟩⟩⟩⟩⟩⟩⟩⟩⟩⟩⟩⟩⟩⟩⟩
def lw_privs : List (MethodName × Nat) := lw_privs_1 ++ (lw_privs_2 ++ (lw_privs_3 ++ (lw_privs_4)))
def lw_tbl : List Cond := k2_sels lw_privs ++ tables_1
theorem lw_privs_ok : ∀ q ∈ lw_privs, lw_okq q := by
  show ∀ q ∈ lw_privs_1 ++ (lw_privs_2 ++ (lw_privs_3 ++ (lw_privs_4))), lw_okq q
  exact List.forall_mem_append.mpr ⟨lw_r1, List.forall_mem_append.mpr ⟨lw_r2, List.forall_mem_append.mpr ⟨lw_r3, lw_r4⟩⟩⟩
end
section
def RX0 : String := "HandInHand$Distances"
def TX0 : u_T := fun k => match k with
  | 0 => ("HandInHand$Distances", "fair", "LHandInHand$Fair;", true)
  | 1 => ("HandInHand$Distances", "steps", "[I", true)
  | _ => ("HandInHand$Distances", "reached", "[I", true)
def tyX0 : Nat → FieldType := fun k => match k with
  | 0 => .object "HandInHand$Fair"
  | 1 => .array .int
  | _ => .array .int
abbrev wsX00 : List Cond := u_ws RX0 TX0 3
theorem nmX0 : ∀ a, a < 3 → ∀ b, b < 3 → a ≠ b → (TX0 a).2.1 ≠ (TX0 b).2.1 := by decide +kernel
theorem tyX0_ok : ∀ k, k < 3 → parseFieldDescriptor (TX0 k).2.2.1 = some (tyX0 k) := by decide +kernel
abbrev cX0_init : ByteArray := prog_2_method_1_code
def yX0_init : MethodName := ⟨RX0, "<init>", "(LHandInHand$Fair;)V"⟩
abbrev cX0_measureFrom : ByteArray := prog_2_method_2_code
def yX0_measureFrom : MethodName := ⟨RX0, "measureFrom", "(I)V"⟩
abbrev cX0_stepsTo : ByteArray := prog_2_method_3_code
def yX0_stepsTo : MethodName := ⟨RX0, "stepsTo", "(I)I"⟩
def RX1 : String := "HandInHand$EasyWay"
def TX1 : u_T := fun k => match k with
  | 0 => ("HandInHand$EasyWay", "fair", "LHandInHand$Fair;", true)
  | 1 => ("HandInHand$EasyWay", "tolls", "[I", true)
  | _ => ("HandInHand$EasyWay", "settled", "J", false)
def tyX1 : Nat → FieldType := fun k => match k with
  | 0 => .object "HandInHand$Fair"
  | 1 => .array .int
  | _ => .long
abbrev wsX10 : List Cond := u_ws RX1 TX1 3
theorem nmX1 : ∀ a, a < 3 → ∀ b, b < 3 → a ≠ b → (TX1 a).2.1 ≠ (TX1 b).2.1 := by decide +kernel
theorem tyX1_ok : ∀ k, k < 3 → parseFieldDescriptor (TX1 k).2.2.1 = some (tyX1 k) := by decide +kernel
abbrev cX1_init : ByteArray := prog_3_method_1_code
def yX1_init : MethodName := ⟨RX1, "<init>", "(LHandInHand$Fair;)V"⟩
abbrev cX1_measureTo : ByteArray := prog_3_method_2_code
def yX1_measureTo : MethodName := ⟨RX1, "measureTo", "(I)V"⟩
abbrev cX1_cheapestOpen : ByteArray := prog_3_method_3_code
def yX1_cheapestOpen : MethodName := ⟨RX1, "cheapestOpen", "()I"⟩
abbrev cX1_tollInto : ByteArray := prog_3_method_4_code
def yX1_tollInto : MethodName := ⟨RX1, "tollInto", "(I)I"⟩
abbrev cX1_reaches : ByteArray := prog_3_method_5_code
def yX1_reaches : MethodName := ⟨RX1, "reaches", "(I)Z"⟩
abbrev cX1_densityFrom : ByteArray := prog_3_method_6_code
def yX1_densityFrom : MethodName := ⟨RX1, "densityFrom", "(I)I"⟩
abbrev cX1_stepsFrom : ByteArray := prog_3_method_7_code
def yX1_stepsFrom : MethodName := ⟨RX1, "stepsFrom", "(I)I"⟩
abbrev cX1_letterAt : ByteArray := prog_3_method_8_code
def yX1_letterAt : MethodName := ⟨RX1, "letterAt", "(II)I"⟩
abbrev cX1_firstLetter : ByteArray := prog_3_method_9_code
def yX1_firstLetter : MethodName := ⟨RX1, "firstLetter", "(I)I"⟩
def RX2 : String := "HandInHand$Fair"
def TX2 : u_T := fun k => match k with
  | 0 => ("HandInHand$Fair", "densities", "[I", true)
  | 1 => ("HandInHand$Fair", "neighbours", "[I", true)
  | _ => ("HandInHand$Fair", "places", "I", false)
def tyX2 : Nat → FieldType := fun k => match k with
  | 0 => .array .int
  | 1 => .array .int
  | _ => .int
abbrev wsX20 : List Cond := u_ws RX2 TX2 3
theorem nmX2 : ∀ a, a < 3 → ∀ b, b < 3 → a ≠ b → (TX2 a).2.1 ≠ (TX2 b).2.1 := by decide +kernel
theorem tyX2_ok : ∀ k, k < 3 → parseFieldDescriptor (TX2 k).2.2.1 = some (tyX2 k) := by decide +kernel
abbrev cX2_init : ByteArray := prog_4_method_1_code
def yX2_init : MethodName := ⟨RX2, "<init>", "()V"⟩
abbrev cX2_isCell : ByteArray := prog_4_method_2_code
def yX2_isCell : MethodName := ⟨RX2, "isCell", "(I)Z"⟩
abbrev cX2_isPlace : ByteArray := prog_4_method_3_code
def yX2_isPlace : MethodName := ⟨RX2, "isPlace", "(I)Z"⟩
abbrev cX2_densityOf : ByteArray := prog_4_method_4_code
def yX2_densityOf : MethodName := ⟨RX2, "densityOf", "(I)I"⟩
abbrev cX2_beside : ByteArray := prog_4_method_5_code
def yX2_beside : MethodName := ⟨RX2, "beside", "(II)I"⟩
abbrev cX2_takeText : ByteArray := prog_4_method_6_code
def yX2_takeText : MethodName := ⟨RX2, "takeText", "(LHandInHand$Text;)I"⟩
abbrev cX2_layRows : ByteArray := prog_4_method_7_code
def yX2_layRows : MethodName := ⟨RX2, "layRows", "(LHandInHand$Text;)I"⟩
abbrev cX2_link : ByteArray := prog_4_method_8_code
def yX2_link : MethodName := ⟨RX2, "link", "()V"⟩
abbrev cX2_placeOrNone : ByteArray := prog_4_method_9_code
def yX2_placeOrNone : MethodName := ⟨RX2, "placeOrNone", "(I)I"⟩
def RX3 : String := "HandInHand$Family"
def TX3 : u_T := fun k => match k with
  | 0 => ("HandInHand$Family", "grips", "[I", true)
  | 1 => ("HandInHand$Family", "habits", "[I", true)
  | 2 => ("HandInHand$Family", "stands", "[I", true)
  | 3 => ("HandInHand$Family", "row", "[I", true)
  | _ => ("HandInHand$Family", "inOrder", "I", false)
def tyX3 : Nat → FieldType := fun k => match k with
  | 0 => .array .int
  | 1 => .array .int
  | 2 => .array .int
  | 3 => .array .int
  | _ => .int
abbrev wsX30 : List Cond := u_ws RX3 TX3 5
theorem nmX3 : ∀ a, a < 5 → ∀ b, b < 5 → a ≠ b → (TX3 a).2.1 ≠ (TX3 b).2.1 := by decide +kernel
theorem tyX3_ok : ∀ k, k < 5 → parseFieldDescriptor (TX3 k).2.2.1 = some (tyX3 k) := by decide +kernel
abbrev cX3_init : ByteArray := prog_5_method_1_code
def yX3_init : MethodName := ⟨RX3, "<init>", "()V"⟩
abbrev cX3_isPerson : ByteArray := prog_5_method_2_code
def yX3_isPerson : MethodName := ⟨RX3, "isPerson", "(I)Z"⟩
abbrev cX3_gripOf : ByteArray := prog_5_method_3_code
def yX3_gripOf : MethodName := ⟨RX3, "gripOf", "(II)I"⟩
abbrev cX3_putGrip : ByteArray := prog_5_method_4_code
def yX3_putGrip : MethodName := ⟨RX3, "putGrip", "(III)V"⟩
abbrev cX3_habitOf : ByteArray := prog_5_method_5_code
def yX3_habitOf : MethodName := ⟨RX3, "habitOf", "(I)I"⟩
abbrev cX3_standOf : ByteArray := prog_5_method_6_code
def yX3_standOf : MethodName := ⟨RX3, "standOf", "(I)I"⟩
abbrev cX3_takeText : ByteArray := prog_5_method_7_code
def yX3_takeText : MethodName := ⟨RX3, "takeText", "(LHandInHand$Text;)I"⟩
abbrev cX3_whoGoes : ByteArray := prog_5_method_8_code
def yX3_whoGoes : MethodName := ⟨RX3, "whoGoes", "(I)I"⟩
abbrev cX3_joints : ByteArray := prog_5_method_9_code
def yX3_joints : MethodName := ⟨RX3, "joints", "()I"⟩
abbrev cX3_gripOfJoint : ByteArray := prog_5_method_10_code
def yX3_gripOfJoint : MethodName := ⟨RX3, "gripOfJoint", "(I)I"⟩
abbrev cX3_looseness : ByteArray := prog_5_method_11_code
def yX3_looseness : MethodName := ⟨RX3, "looseness", "()I"⟩
abbrev cX3_behindJoint : ByteArray := prog_5_method_12_code
def yX3_behindJoint : MethodName := ⟨RX3, "behindJoint", "(I)I"⟩
def RX4 : String := "HandInHand$Looks"
def TX4 : u_T := fun k => match k with
  | 0 => ("HandInHand$Looks", "spots", "[I", true)
  | 1 => ("HandInHand$Looks", "weights", "[I", true)
  | _ => ("HandInHand$Looks", "size", "I", false)
def tyX4 : Nat → FieldType := fun k => match k with
  | 0 => .array .int
  | 1 => .array .int
  | _ => .int
abbrev wsX40 : List Cond := u_ws RX4 TX4 3
theorem nmX4 : ∀ a, a < 3 → ∀ b, b < 3 → a ≠ b → (TX4 a).2.1 ≠ (TX4 b).2.1 := by decide +kernel
theorem tyX4_ok : ∀ k, k < 3 → parseFieldDescriptor (TX4 k).2.2.1 = some (tyX4 k) := by decide +kernel
abbrev cX4_init : ByteArray := prog_6_method_1_code
def yX4_init : MethodName := ⟨RX4, "<init>", "()V"⟩
abbrev cX4_append : ByteArray := prog_6_method_2_code
def yX4_append : MethodName := ⟨RX4, "append", "(II)V"⟩
abbrev cX4_placeOf : ByteArray := prog_6_method_3_code
def yX4_placeOf : MethodName := ⟨RX4, "placeOf", "(I)I"⟩
abbrev cX4_asBits : ByteArray := prog_6_method_4_code
def yX4_asBits : MethodName := ⟨RX4, "asBits", "()I"⟩
abbrev cX4_weightOf : ByteArray := prog_6_method_5_code
def yX4_weightOf : MethodName := ⟨RX4, "weightOf", "(I)I"⟩
def RX5 : String := "HandInHand$Lost"
def TX5 : u_T := fun k => match k with
  | 0 => ("HandInHand$Lost", "fair", "LHandInHand$Fair;", true)
  | 1 => ("HandInHand$Lost", "toClock", "LHandInHand$Distances;", true)
  | 2 => ("HandInHand$Lost", "chances", "[J", true)
  | 3 => ("HandInHand$Lost", "later", "[J", true)
  | _ => ("HandInHand$Lost", "below", "J", false)
def tyX5 : Nat → FieldType := fun k => match k with
  | 0 => .object "HandInHand$Fair"
  | 1 => .object "HandInHand$Distances"
  | 2 => .array .long
  | 3 => .array .long
  | _ => .long
abbrev wsX50 : List Cond := u_ws RX5 TX5 5
theorem nmX5 : ∀ a, a < 5 → ∀ b, b < 5 → a ≠ b → (TX5 a).2.1 ≠ (TX5 b).2.1 := by decide +kernel
theorem tyX5_ok : ∀ k, k < 5 → parseFieldDescriptor (TX5 k).2.2.1 = some (tyX5 k) := by decide +kernel
abbrev cX5_init : ByteArray := prog_7_method_1_code
def yX5_init : MethodName := ⟨RX5, "<init>", "(LHandInHand$Fair;LHandInHand$Distances;)V"⟩
abbrev cX5_startAt : ByteArray := prog_7_method_2_code
def yX5_startAt : MethodName := ⟨RX5, "startAt", "(I)V"⟩
abbrev cX5_wander : ByteArray := prog_7_method_3_code
def yX5_wander : MethodName := ⟨RX5, "wander", "()V"⟩
abbrev cX5_spread : ByteArray := prog_7_method_4_code
def yX5_spread : MethodName := ⟨RX5, "spread", "(I)V"⟩
abbrev cX5_goNearer : ByteArray := prog_7_method_5_code
def yX5_goNearer : MethodName := ⟨RX5, "goNearer", "()V"⟩
abbrev cX5_chanceOf : ByteArray := prog_7_method_6_code
def yX5_chanceOf : MethodName := ⟨RX5, "chanceOf", "(I)J"⟩
abbrev cX5_likeliestPlace : ByteArray := prog_7_method_7_code
def yX5_likeliestPlace : MethodName := ⟨RX5, "likeliestPlace", "()I"⟩
def RX6 : String := "HandInHand$RowFinder"
def TX6 : u_T := fun k => match k with
  | 0 => ("HandInHand$RowFinder", "legs", "[I", true)
  | 1 => ("HandInHand$RowFinder", "weights", "[I", true)
  | _ => ("HandInHand$RowFinder", "least", "[I", true)
def tyX6 : Nat → FieldType := fun k => match k with
  | 0 => .array .int
  | 1 => .array .int
  | _ => .array .int
abbrev wsX60 : List Cond := u_ws RX6 TX6 3
theorem nmX6 : ∀ a, a < 3 → ∀ b, b < 3 → a ≠ b → (TX6 a).2.1 ≠ (TX6 b).2.1 := by decide +kernel
theorem tyX6_ok : ∀ k, k < 3 → parseFieldDescriptor (TX6 k).2.2.1 = some (tyX6 k) := by decide +kernel
abbrev cX6_init : ByteArray := prog_8_method_1_code
def yX6_init : MethodName := ⟨RX6, "<init>", "()V"⟩
abbrev cX6_layOrders : ByteArray := prog_8_method_2_code
def yX6_layOrders : MethodName := ⟨RX6, "layOrders", "(LHandInHand$Family;)V"⟩
abbrev cX6_layWeights : ByteArray := prog_8_method_3_code
def yX6_layWeights : MethodName := ⟨RX6, "layWeights", "(LHandInHand$Looks;)V"⟩
abbrev cX6_putLeg : ByteArray := prog_8_method_4_code
def yX6_putLeg : MethodName := ⟨RX6, "putLeg", "(III)V"⟩
abbrev cX6_solve : ByteArray := prog_8_method_5_code
def yX6_solve : MethodName := ⟨RX6, "solve", "(I)V"⟩
abbrev cX6_leastFrom : ByteArray := prog_8_method_6_code
def yX6_leastFrom : MethodName := ⟨RX6, "leastFrom", "(II)I"⟩
abbrev cX6_costBy : ByteArray := prog_8_method_7_code
def yX6_costBy : MethodName := ⟨RX6, "costBy", "(III)I"⟩
abbrev cX6_cheapestNext : ByteArray := prog_8_method_8_code
def yX6_cheapestNext : MethodName := ⟨RX6, "cheapestNext", "(II)I"⟩
abbrev cX6_stopAt : ByteArray := prog_8_method_9_code
def yX6_stopAt : MethodName := ⟨RX6, "stopAt", "(II)I"⟩
abbrev cX6_leastParted : ByteArray := prog_8_method_10_code
def yX6_leastParted : MethodName := ⟨RX6, "leastParted", "(II)I"⟩
abbrev cX6_bestShare : ByteArray := prog_8_method_11_code
def yX6_bestShare : MethodName := ⟨RX6, "bestShare", "(I)I"⟩
def RX7 : String := "HandInHand$Sheet"
def TX7 : u_T := fun k => match k with
  | 0 => ("HandInHand$Sheet", "items", "[I", true)
  | 1 => ("HandInHand$Sheet", "form", "I", false)
  | _ => ("HandInHand$Sheet", "size", "I", false)
def tyX7 : Nat → FieldType := fun k => match k with
  | 0 => .array .int
  | 1 => .int
  | _ => .int
abbrev wsX70 : List Cond := u_ws RX7 TX7 3
theorem nmX7 : ∀ a, a < 3 → ∀ b, b < 3 → a ≠ b → (TX7 a).2.1 ≠ (TX7 b).2.1 := by decide +kernel
theorem tyX7_ok : ∀ k, k < 3 → parseFieldDescriptor (TX7 k).2.2.1 = some (tyX7 k) := by decide +kernel
abbrev cX7_init : ByteArray := prog_9_method_1_code
def yX7_init : MethodName := ⟨RX7, "<init>", "()V"⟩
abbrev cX7_isLost : ByteArray := prog_9_method_2_code
def yX7_isLost : MethodName := ⟨RX7, "isLost", "()Z"⟩
abbrev cX7_renew : ByteArray := prog_9_method_3_code
def yX7_renew : MethodName := ⟨RX7, "renew", "(II)V"⟩
abbrev cX7_giveUp : ByteArray := prog_9_method_4_code
def yX7_giveUp : MethodName := ⟨RX7, "giveUp", "()V"⟩
abbrev cX7_has : ByteArray := prog_9_method_5_code
def yX7_has : MethodName := ⟨RX7, "has", "(I)Z"⟩
abbrev cX7_hasRun : ByteArray := prog_9_method_6_code
def yX7_hasRun : MethodName := ⟨RX7, "hasRun", "(II)Z"⟩
abbrev cX7_wrongWith : ByteArray := prog_9_method_7_code
def yX7_wrongWith : MethodName := ⟨RX7, "wrongWith", "(II)I"⟩
abbrev cX7_itemAt : ByteArray := prog_9_method_8_code
def yX7_itemAt : MethodName := ⟨RX7, "itemAt", "(I)I"⟩
abbrev cX7_putItem : ByteArray := prog_9_method_9_code
def yX7_putItem : MethodName := ⟨RX7, "putItem", "(II)V"⟩
def RX8 : String := "HandInHand$Tearing"
def TX8 : u_T := fun k => match k with
  | 0 => ("HandInHand$Tearing", "seed", "I", false)
  | 1 => ("HandInHand$Tearing", "tornBits", "I", false)
  | 2 => ("HandInHand$Tearing", "firstJoint", "I", false)
  | 3 => ("HandInHand$Tearing", "firstStep", "I", false)
  | _ => ("HandInHand$Tearing", "howMany", "I", false)
def tyX8 : Nat → FieldType := fun k => match k with
  | 0 => .int
  | 1 => .int
  | 2 => .int
  | 3 => .int
  | _ => .int
abbrev wsX80 : List Cond := u_ws RX8 TX8 5
theorem nmX8 : ∀ a, a < 5 → ∀ b, b < 5 → a ≠ b → (TX8 a).2.1 ≠ (TX8 b).2.1 := by decide +kernel
theorem tyX8_ok : ∀ k, k < 5 → parseFieldDescriptor (TX8 k).2.2.1 = some (tyX8 k) := by decide +kernel
abbrev cX8_init : ByteArray := prog_10_method_1_code
def yX8_init : MethodName := ⟨RX8, "<init>", "()V"⟩
abbrev cX8_startWhole : ByteArray := prog_10_method_2_code
def yX8_startWhole : MethodName := ⟨RX8, "startWhole", "()V"⟩
abbrev cX8_goStep : ByteArray := prog_10_method_3_code
def yX8_goStep : MethodName := ⟨RX8, "goStep", "(IILHandInHand$Family;)V"⟩
abbrev cX8_tears : ByteArray := prog_10_method_4_code
def yX8_tears : MethodName := ⟨RX8, "tears", "(II)Z"⟩
abbrev cX8_lotOfSixteen : ByteArray := prog_10_method_5_code
def yX8_lotOfSixteen : MethodName := ⟨RX8, "lotOfSixteen", "()I"⟩
def RX9 : String := "HandInHand$Text"
def TX9 : u_T := fun k => match k with
  | 0 => ("HandInHand$Text", "most", "I", true)
  | 1 => ("HandInHand$Text", "bytes", "[I", true)
  | 2 => ("HandInHand$Text", "size", "I", false)
  | _ => ("HandInHand$Text", "faultAt", "I", false)
def tyX9 : Nat → FieldType := fun k => match k with
  | 0 => .int
  | 1 => .array .int
  | 2 => .int
  | _ => .int
abbrev wsX90 : List Cond := u_ws RX9 TX9 4
theorem nmX9 : ∀ a, a < 4 → ∀ b, b < 4 → a ≠ b → (TX9 a).2.1 ≠ (TX9 b).2.1 := by decide +kernel
theorem tyX9_ok : ∀ k, k < 4 → parseFieldDescriptor (TX9 k).2.2.1 = some (tyX9 k) := by decide +kernel
abbrev cX9_init : ByteArray := prog_11_method_1_code
def yX9_init : MethodName := ⟨RX9, "<init>", "(I)V"⟩
abbrev cX9_isFull : ByteArray := prog_11_method_2_code
def yX9_isFull : MethodName := ⟨RX9, "isFull", "()Z"⟩
abbrev cX9_append : ByteArray := prog_11_method_3_code
def yX9_append : MethodName := ⟨RX9, "append", "(I)V"⟩
abbrev cX9_byteAt : ByteArray := prog_11_method_4_code
def yX9_byteAt : MethodName := ⟨RX9, "byteAt", "(I)I"⟩
def RX10 : String := "HandInHand$Walk"
def TX10 : u_T := fun k => match k with
  | 0 => ("HandInHand$Walk", "letters", "[I", true)
  | 1 => ("HandInHand$Walk", "path", "[I", true)
  | 2 => ("HandInHand$Walk", "start", "I", false)
  | 3 => ("HandInHand$Walk", "size", "I", false)
  | _ => ("HandInHand$Walk", "done", "I", false)
def tyX10 : Nat → FieldType := fun k => match k with
  | 0 => .array .int
  | 1 => .array .int
  | 2 => .int
  | 3 => .int
  | _ => .int
abbrev wsX100 : List Cond := u_ws RX10 TX10 5
theorem nmX10 : ∀ a, a < 5 → ∀ b, b < 5 → a ≠ b → (TX10 a).2.1 ≠ (TX10 b).2.1 := by decide +kernel
theorem tyX10_ok : ∀ k, k < 5 → parseFieldDescriptor (TX10 k).2.2.1 = some (tyX10 k) := by decide +kernel
abbrev cX10_init : ByteArray := prog_12_method_1_code
def yX10_init : MethodName := ⟨RX10, "<init>", "()V"⟩
abbrev cX10_takeText : ByteArray := prog_12_method_2_code
def yX10_takeText : MethodName := ⟨RX10, "takeText", "(LHandInHand$Text;)I"⟩
abbrev cX10_directionOf : ByteArray := prog_12_method_3_code
def yX10_directionOf : MethodName := ⟨RX10, "directionOf", "(I)I"⟩
abbrev cX10_retrace : ByteArray := prog_12_method_4_code
def yX10_retrace : MethodName := ⟨RX10, "retrace", "(LHandInHand$Fair;)V"⟩
abbrev cX10_placeBehind : ByteArray := prog_12_method_5_code
def yX10_placeBehind : MethodName := ⟨RX10, "placeBehind", "(I)I"⟩
def RX11 : String := "HandInHand"
def TX11 : u_T := fun k => match k with
  | 0 => ("HandInHand", "fairText", "LHandInHand$Text;", true)
  | 1 => ("HandInHand", "orderText", "LHandInHand$Text;", true)
  | 2 => ("HandInHand", "wayText", "LHandInHand$Text;", true)
  | 3 => ("HandInHand", "fair", "LHandInHand$Fair;", true)
  | 4 => ("HandInHand", "distances", "LHandInHand$Distances;", true)
  | 5 => ("HandInHand", "easyWay", "LHandInHand$EasyWay;", true)
  | 6 => ("HandInHand", "family", "LHandInHand$Family;", true)
  | 7 => ("HandInHand", "walk", "LHandInHand$Walk;", true)
  | 8 => ("HandInHand", "tearing", "LHandInHand$Tearing;", true)
  | 9 => ("HandInHand", "lost", "LHandInHand$Lost;", true)
  | 10 => ("HandInHand", "looks", "LHandInHand$Looks;", true)
  | 11 => ("HandInHand", "rows", "LHandInHand$RowFinder;", true)
  | 12 => ("HandInHand", "sheets", "[LHandInHand$Sheet;", true)
  | 13 => ("HandInHand", "farthest", "[I", true)
  | 14 => ("HandInHand", "clock", "I", false)
  | 15 => ("HandInHand", "rule", "I", false)
  | _ => ("HandInHand", "finding", "I", false)
def tyX11 : Nat → FieldType := fun k => match k with
  | 0 => .object "HandInHand$Text"
  | 1 => .object "HandInHand$Text"
  | 2 => .object "HandInHand$Text"
  | 3 => .object "HandInHand$Fair"
  | 4 => .object "HandInHand$Distances"
  | 5 => .object "HandInHand$EasyWay"
  | 6 => .object "HandInHand$Family"
  | 7 => .object "HandInHand$Walk"
  | 8 => .object "HandInHand$Tearing"
  | 9 => .object "HandInHand$Lost"
  | 10 => .object "HandInHand$Looks"
  | 11 => .object "HandInHand$RowFinder"
  | 12 => .array (.object "HandInHand$Sheet")
  | 13 => .array .int
  | 14 => .int
  | 15 => .int
  | _ => .int
abbrev wsX110 : List Cond := u_ws RX11 TX11 17
theorem nmX11 : ∀ a, a < 17 → ∀ b, b < 17 → a ≠ b → (TX11 a).2.1 ≠ (TX11 b).2.1 := by decide +kernel
theorem tyX11_ok : ∀ k, k < 17 → parseFieldDescriptor (TX11 k).2.2.1 = some (tyX11 k) := by decide +kernel
abbrev cX11_init : ByteArray := prog_1_method_1_code
def yX11_init : MethodName := ⟨RX11, "<init>", "()V"⟩
abbrev cX11_type : ByteArray := prog_1_method_2_code
def yX11_type : MethodName := ⟨RX11, "type", "(II)I"⟩
abbrev cX11_wipe : ByteArray := prog_1_method_3_code
def yX11_wipe : MethodName := ⟨RX11, "wipe", "(I)I"⟩
abbrev cX11_undo : ByteArray := prog_1_method_4_code
def yX11_undo : MethodName := ⟨RX11, "undo", "(I)I"⟩
abbrev cX11_fault : ByteArray := prog_1_method_5_code
def yX11_fault : MethodName := ⟨RX11, "fault", "(I)I"⟩
abbrev cX11_set : ByteArray := prog_1_method_6_code
def yX11_set : MethodName := ⟨RX11, "set", "(II)I"⟩
abbrev cX11_grip : ByteArray := prog_1_method_7_code
def yX11_grip : MethodName := ⟨RX11, "grip", "(III)I"⟩
abbrev cX11_person : ByteArray := prog_1_method_8_code
def yX11_person : MethodName := ⟨RX11, "person", "(III)I"⟩
abbrev cX11_read : ByteArray := prog_1_method_9_code
def yX11_read : MethodName := ⟨RX11, "read", "(I)I"⟩
abbrev cX11_dense : ByteArray := prog_1_method_10_code
def yX11_dense : MethodName := ⟨RX11, "dense", "(I)I"⟩
abbrev cX11_judged : ByteArray := prog_1_method_11_code
def yX11_judged : MethodName := ⟨RX11, "judged", "()I"⟩
abbrev cX11_at : ByteArray := prog_1_method_12_code
def yX11_at : MethodName := ⟨RX11, "at", "(I)I"⟩
abbrev cX11_near : ByteArray := prog_1_method_13_code
def yX11_near : MethodName := ⟨RX11, "near", "(II)I"⟩
abbrev cX11_easiest : ByteArray := prog_1_method_14_code
def yX11_easiest : MethodName := ⟨RX11, "easiest", "(III)I"⟩
abbrev cX11_order : ByteArray := prog_1_method_15_code
def yX11_order : MethodName := ⟨RX11, "order", "(I)I"⟩
abbrev cX11_loose : ByteArray := prog_1_method_16_code
def yX11_loose : MethodName := ⟨RX11, "loose", "()I"⟩
abbrev cX11_risk : ByteArray := prog_1_method_17_code
def yX11_risk : MethodName := ⟨RX11, "risk", "()I"⟩
abbrev cX11_best : ByteArray := prog_1_method_18_code
def yX11_best : MethodName := ⟨RX11, "best", "(II)I"⟩
abbrev cX11_holds : ByteArray := prog_1_method_19_code
def yX11_holds : MethodName := ⟨RX11, "holds", "(IIII)J"⟩
abbrev cX11_alike : ByteArray := prog_1_method_20_code
def yX11_alike : MethodName := ⟨RX11, "alike", "(I)J"⟩
abbrev cX11_torn : ByteArray := prog_1_method_21_code
def yX11_torn : MethodName := ⟨RX11, "torn", "(II)I"⟩
abbrev cX11_fairs : ByteArray := prog_1_method_22_code
def yX11_fairs : MethodName := ⟨RX11, "fairs", "(II)I"⟩
abbrev cX11_is : ByteArray := prog_1_method_23_code
def yX11_is : MethodName := ⟨RX11, "is", "(IIII)J"⟩
abbrev cX11_likeliest : ByteArray := prog_1_method_24_code
def yX11_likeliest : MethodName := ⟨RX11, "likeliest", "(II)I"⟩
abbrev cX11_look : ByteArray := prog_1_method_25_code
def yX11_look : MethodName := ⟨RX11, "look", "(II)I"⟩
abbrev cX11_forget : ByteArray := prog_1_method_26_code
def yX11_forget : MethodName := ⟨RX11, "forget", "()I"⟩
abbrev cX11_seek : ByteArray := prog_1_method_27_code
def yX11_seek : MethodName := ⟨RX11, "seek", "(II)J"⟩
abbrev cX11_parted : ByteArray := prog_1_method_28_code
def yX11_parted : MethodName := ⟨RX11, "parted", "(III)J"⟩
abbrev cX11_meet : ByteArray := prog_1_method_29_code
def yX11_meet : MethodName := ⟨RX11, "meet", "(II)I"⟩
abbrev cX11_counts : ByteArray := prog_1_method_30_code
def yX11_counts : MethodName := ⟨RX11, "counts", "(III)I"⟩
abbrev cX11_sheet : ByteArray := prog_1_method_31_code
def yX11_sheet : MethodName := ⟨RX11, "sheet", "(III)I"⟩
abbrev cX11_lose : ByteArray := prog_1_method_32_code
def yX11_lose : MethodName := ⟨RX11, "lose", "(I)I"⟩
abbrev cX11_lay : ByteArray := prog_1_method_33_code
def yX11_lay : MethodName := ⟨RX11, "lay", "(IIII)I"⟩
abbrev cX11_get : ByteArray := prog_1_method_34_code
def yX11_get : MethodName := ⟨RX11, "get", "(III)I"⟩
abbrev cX11_copy : ByteArray := prog_1_method_35_code
def yX11_copy : MethodName := ⟨RX11, "copy", "(IIIII)I"⟩
abbrev cX11_write : ByteArray := prog_1_method_36_code
def yX11_write : MethodName := ⟨RX11, "write", "(II)I"⟩
abbrev cX11_count : ByteArray := prog_1_method_37_code
def yX11_count : MethodName := ⟨RX11, "count", "(I)I"⟩
abbrev cX11_digest : ByteArray := prog_1_method_38_code
def yX11_digest : MethodName := ⟨RX11, "digest", "()J"⟩
abbrev cX11_withPersons : ByteArray := prog_1_method_39_code
def yX11_withPersons : MethodName := ⟨RX11, "withPersons", "(J)J"⟩
abbrev cX11_withWays : ByteArray := prog_1_method_40_code
def yX11_withWays : MethodName := ⟨RX11, "withWays", "(J)J"⟩
abbrev cX11_withTearing : ByteArray := prog_1_method_41_code
def yX11_withTearing : MethodName := ⟨RX11, "withTearing", "(J)J"⟩
abbrev cX11_withSeeking : ByteArray := prog_1_method_42_code
def yX11_withSeeking : MethodName := ⟨RX11, "withSeeking", "(J)J"⟩
abbrev cX11_textOf : ByteArray := prog_1_method_43_code
def yX11_textOf : MethodName := ⟨RX11, "textOf", "(I)LHandInHand$Text;"⟩
abbrev cX11_reread : ByteArray := prog_1_method_44_code
def yX11_reread : MethodName := ⟨RX11, "reread", "(I)V"⟩
abbrev cX11_sheetOf : ByteArray := prog_1_method_45_code
def yX11_sheetOf : MethodName := ⟨RX11, "sheetOf", "(I)LHandInHand$Sheet;"⟩
abbrev cX11_found : ByteArray := prog_1_method_46_code
def yX11_found : MethodName := ⟨RX11, "found", "(I)I"⟩
abbrev cX11_densityOfStep : ByteArray := prog_1_method_47_code
def yX11_densityOfStep : MethodName := ⟨RX11, "densityOfStep", "(I)I"⟩
abbrev cX11_goThroughFair : ByteArray := prog_1_method_48_code
def yX11_goThroughFair : MethodName := ⟨RX11, "goThroughFair", "()V"⟩
abbrev cX11_loseFrom : ByteArray := prog_1_method_49_code
def yX11_loseFrom : MethodName := ⟨RX11, "loseFrom", "(II)V"⟩
abbrev cX11_canSeek : ByteArray := prog_1_method_50_code
def yX11_canSeek : MethodName := ⟨RX11, "canSeek", "(II)Z"⟩
abbrev cX11_layLegs : ByteArray := prog_1_method_51_code
def yX11_layLegs : MethodName := ⟨RX11, "layLegs", "(II)Z"⟩
abbrev cX11_comeFrom : ByteArray := prog_1_method_52_code
def yX11_comeFrom : MethodName := ⟨RX11, "comeFrom", "(I)V"⟩
abbrev cX11_leastFar : ByteArray := prog_1_method_53_code
def yX11_leastFar : MethodName := ⟨RX11, "leastFar", "()I"⟩
abbrev cX11_isSixteenths : ByteArray := prog_1_method_54_code
def yX11_isSixteenths : MethodName := ⟨RX11, "isSixteenths", "(I)Z"⟩
abbrev cX11_isPart : ByteArray := prog_1_method_55_code
def yX11_isPart : MethodName := ⟨RX11, "isPart", "(I)Z"⟩
abbrev cX11_areMinutes : ByteArray := prog_1_method_56_code
def yX11_areMinutes : MethodName := ⟨RX11, "areMinutes", "(I)Z"⟩
abbrev cX11_isForm : ByteArray := prog_1_method_57_code
def yX11_isForm : MethodName := ⟨RX11, "isForm", "(I)Z"⟩
abbrev cX11_refused : ByteArray := prog_1_method_58_code
def yX11_refused : MethodName := ⟨RX11, "refused", "(I)J"⟩
abbrev cX11_lowest : ByteArray := prog_1_method_59_code
def yX11_lowest : MethodName := ⟨RX11, "lowest", "(JJI)J"⟩
def RX12 : String := "HandInHandModel"
def TX12 : u_T := fun k => match k with
  | 0 => ("HandInHandModel", "forms", "[I", true)
  | 1 => ("HandInHandModel", "sizes", "[I", true)
  | 2 => ("HandInHandModel", "items", "[I", true)
  | 3 => ("HandInHandModel", "moved", "[I", true)
  | 4 => ("HandInHandModel", "latest", "I", false)
  | 5 => ("HandInHandModel", "bytes", "[I", true)
  | 6 => ("HandInHandModel", "typed", "[I", true)
  | 7 => ("HandInHandModel", "at", "I", false)
  | 8 => ("HandInHandModel", "fair", "[I", true)
  | 9 => ("HandInHandModel", "persons", "I", false)
  | 10 => ("HandInHandModel", "order", "[I", true)
  | 11 => ("HandInHandModel", "steps", "I", false)
  | 12 => ("HandInHandModel", "way", "[I", true)
  | 13 => ("HandInHandModel", "settings", "[I", true)
  | 14 => ("HandInHandModel", "grips", "[I", true)
  | 15 => ("HandInHandModel", "habits", "[I", true)
  | 16 => ("HandInHandModel", "stands", "[I", true)
  | 17 => ("HandInHandModel", "done", "I", false)
  | 18 => ("HandInHandModel", "places", "[I", true)
  | 19 => ("HandInHandModel", "far", "[I", true)
  | 20 => ("HandInHandModel", "bestRow", "[I", true)
  | 21 => ("HandInHandModel", "row", "[I", true)
  | 22 => ("HandInHandModel", "now", "I", false)
  | 23 => ("HandInHandModel", "firstTorn", "I", false)
  | 24 => ("HandInHandModel", "tornStep", "I", false)
  | 25 => ("HandInHandModel", "tornMany", "I", false)
  | 26 => ("HandInHandModel", "chances", "[J", true)
  | 27 => ("HandInHandModel", "then", "[J", true)
  | 28 => ("HandInHandModel", "looks", "I", false)
  | 29 => ("HandInHandModel", "look", "[I", true)
  | 30 => ("HandInHandModel", "ways", "[I", true)
  | 31 => ("HandInHandModel", "pick", "[I", true)
  | 32 => ("HandInHandModel", "bestLooks", "I", false)
  | _ => ("HandInHandModel", "byFirst", "[I", true)
def tyX12 : Nat → FieldType := fun k => match k with
  | 0 => .array .int
  | 1 => .array .int
  | 2 => .array .int
  | 3 => .array .int
  | 4 => .int
  | 5 => .array .int
  | 6 => .array .int
  | 7 => .int
  | 8 => .array .int
  | 9 => .int
  | 10 => .array .int
  | 11 => .int
  | 12 => .array .int
  | 13 => .array .int
  | 14 => .array .int
  | 15 => .array .int
  | 16 => .array .int
  | 17 => .int
  | 18 => .array .int
  | 19 => .array .int
  | 20 => .array .int
  | 21 => .array .int
  | 22 => .int
  | 23 => .int
  | 24 => .int
  | 25 => .int
  | 26 => .array .long
  | 27 => .array .long
  | 28 => .int
  | 29 => .array .int
  | 30 => .array .int
  | 31 => .array .int
  | 32 => .int
  | _ => .array .int
abbrev wsX120 : List Cond := u_ws RX12 TX12 34
theorem nmX12 : ∀ a, a < 34 → ∀ b, b < 34 → a ≠ b → (TX12 a).2.1 ≠ (TX12 b).2.1 := by decide +kernel
theorem tyX12_ok : ∀ k, k < 34 → parseFieldDescriptor (TX12 k).2.2.1 = some (tyX12 k) := by decide +kernel
abbrev cX12_init : ByteArray := prog_14_method_1_code
def yX12_init : MethodName := ⟨RX12, "<init>", "()V"⟩
abbrev cX12_in : ByteArray := prog_14_method_3_code
def yX12_in : MethodName := ⟨RX12, "in", "(JJJ)Z"⟩
abbrev cX12_no : ByteArray := prog_14_method_4_code
def yX12_no : MethodName := ⟨RX12, "no", "(I)J"⟩
abbrev cX12_isTwo : ByteArray := prog_14_method_5_code
def yX12_isTwo : MethodName := ⟨RX12, "isTwo", "(I)Z"⟩
abbrev cX12_isIn : ByteArray := prog_14_method_6_code
def yX12_isIn : MethodName := ⟨RX12, "isIn", "(II)Z"⟩
abbrev cX12_ones : ByteArray := prog_14_method_7_code
def yX12_ones : MethodName := ⟨RX12, "ones", "(I)I"⟩
abbrev cX12_met : ByteArray := prog_14_method_8_code
def yX12_met : MethodName := ⟨RX12, "met", "(I)I"⟩
abbrev cX12_isSheet : ByteArray := prog_14_method_9_code
def yX12_isSheet : MethodName := ⟨RX12, "isSheet", "(I)Z"⟩
abbrev cX12_sheet : ByteArray := prog_14_method_10_code
def yX12_sheet : MethodName := ⟨RX12, "sheet", "(III)I"⟩
abbrev cX12_lose : ByteArray := prog_14_method_11_code
def yX12_lose : MethodName := ⟨RX12, "lose", "(I)I"⟩
abbrev cX12_lacks : ByteArray := prog_14_method_12_code
def yX12_lacks : MethodName := ⟨RX12, "lacks", "(III)I"⟩
abbrev cX12_cut : ByteArray := prog_14_method_13_code
def yX12_cut : MethodName := ⟨RX12, "cut", "(II)I"⟩
abbrev cX12_lay : ByteArray := prog_14_method_14_code
def yX12_lay : MethodName := ⟨RX12, "lay", "(IIII)I"⟩
abbrev cX12_get : ByteArray := prog_14_method_15_code
def yX12_get : MethodName := ⟨RX12, "get", "(III)I"⟩
abbrev cX12_copy : ByteArray := prog_14_method_16_code
def yX12_copy : MethodName := ⟨RX12, "copy", "(IIIII)I"⟩
abbrev cX12_room : ByteArray := prog_14_method_17_code
def yX12_room : MethodName := ⟨RX12, "room", "(I)I"⟩
abbrev cX12_type : ByteArray := prog_14_method_18_code
def yX12_type : MethodName := ⟨RX12, "type", "(II)I"⟩
abbrev cX12_wipe : ByteArray := prog_14_method_19_code
def yX12_wipe : MethodName := ⟨RX12, "wipe", "(I)I"⟩
abbrev cX12_undo : ByteArray := prog_14_method_20_code
def yX12_undo : MethodName := ⟨RX12, "undo", "(I)I"⟩
abbrev cX12_here : ByteArray := prog_14_method_21_code
def yX12_here : MethodName := ⟨RX12, "here", "(I)I"⟩
abbrev cX12_clears : ByteArray := prog_14_method_22_code
def yX12_clears : MethodName := ⟨RX12, "clears", "()V"⟩
abbrev cX12_readsRow : ByteArray := prog_14_method_23_code
def yX12_readsRow : MethodName := ⟨RX12, "readsRow", "(II)I"⟩
abbrev cX12_readsFair : ByteArray := prog_14_method_24_code
def yX12_readsFair : MethodName := ⟨RX12, "readsFair", "()I"⟩
abbrev cX12_readsOrder : ByteArray := prog_14_method_25_code
def yX12_readsOrder : MethodName := ⟨RX12, "readsOrder", "()I"⟩
abbrev cX12_letterOf : ByteArray := prog_14_method_26_code
def yX12_letterOf : MethodName := ⟨RX12, "letterOf", "(I)I"⟩
abbrev cX12_readsWay : ByteArray := prog_14_method_27_code
def yX12_readsWay : MethodName := ⟨RX12, "readsWay", "()I"⟩
abbrev cX12_reads : ByteArray := prog_14_method_28_code
def yX12_reads : MethodName := ⟨RX12, "reads", "()V"⟩
abbrev cX12_fault : ByteArray := prog_14_method_29_code
def yX12_fault : MethodName := ⟨RX12, "fault", "(I)I"⟩
abbrev cX12_set : ByteArray := prog_14_method_30_code
def yX12_set : MethodName := ⟨RX12, "set", "(II)I"⟩
abbrev cX12_isPerson : ByteArray := prog_14_method_31_code
def yX12_isPerson : MethodName := ⟨RX12, "isPerson", "(I)Z"⟩
abbrev cX12_grip : ByteArray := prog_14_method_32_code
def yX12_grip : MethodName := ⟨RX12, "grip", "(III)I"⟩
abbrev cX12_person : ByteArray := prog_14_method_33_code
def yX12_person : MethodName := ⟨RX12, "person", "(III)I"⟩
abbrev cX12_read : ByteArray := prog_14_method_34_code
def yX12_read : MethodName := ⟨RX12, "read", "(I)I"⟩
abbrev cX12_isPlace : ByteArray := prog_14_method_35_code
def yX12_isPlace : MethodName := ⟨RX12, "isPlace", "(I)Z"⟩
abbrev cX12_beside : ByteArray := prog_14_method_36_code
def yX12_beside : MethodName := ⟨RX12, "beside", "(II)I"⟩
abbrev cX12_dense : ByteArray := prog_14_method_37_code
def yX12_dense : MethodName := ⟨RX12, "dense", "(I)I"⟩
abbrev cX12_walks : ByteArray := prog_14_method_38_code
def yX12_walks : MethodName := ⟨RX12, "walks", "()V"⟩
abbrev cX12_judged : ByteArray := prog_14_method_39_code
def yX12_judged : MethodName := ⟨RX12, "judged", "()I"⟩
abbrev cX12_at : ByteArray := prog_14_method_40_code
def yX12_at : MethodName := ⟨RX12, "at", "(I)I"⟩
abbrev cX12_findFar : ByteArray := prog_14_method_41_code
def yX12_findFar : MethodName := ⟨RX12, "findFar", "(II)V"⟩
abbrev cX12_nearOf : ByteArray := prog_14_method_42_code
def yX12_nearOf : MethodName := ⟨RX12, "nearOf", "(II)I"⟩
abbrev cX12_near : ByteArray := prog_14_method_43_code
def yX12_near : MethodName := ⟨RX12, "near", "(II)I"⟩
abbrev cX12_easiestOf : ByteArray := prog_14_method_44_code
def yX12_easiestOf : MethodName := ⟨RX12, "easiestOf", "(III)I"⟩
abbrev cX12_easiest : ByteArray := prog_14_method_45_code
def yX12_easiest : MethodName := ⟨RX12, "easiest", "(III)I"⟩
abbrev cX12_orderOf : ByteArray := prog_14_method_46_code
def yX12_orderOf : MethodName := ⟨RX12, "orderOf", "(I)I"⟩
abbrev cX12_order : ByteArray := prog_14_method_47_code
def yX12_order : MethodName := ⟨RX12, "order", "(I)I"⟩
abbrev cX12_gripAt : ByteArray := prog_14_method_48_code
def yX12_gripAt : MethodName := ⟨RX12, "gripAt", "(I)I"⟩
abbrev cX12_looseNow : ByteArray := prog_14_method_49_code
def yX12_looseNow : MethodName := ⟨RX12, "looseNow", "()I"⟩
abbrev cX12_loose : ByteArray := prog_14_method_50_code
def yX12_loose : MethodName := ⟨RX12, "loose", "()I"⟩
abbrev cX12_riskNow : ByteArray := prog_14_method_51_code
def yX12_riskNow : MethodName := ⟨RX12, "riskNow", "()I"⟩
abbrev cX12_risk : ByteArray := prog_14_method_52_code
def yX12_risk : MethodName := ⟨RX12, "risk", "()I"⟩
abbrev cX12_bestOf : ByteArray := prog_14_method_53_code
def yX12_bestOf : MethodName := ⟨RX12, "bestOf", "(II)I"⟩
abbrev cX12_best : ByteArray := prog_14_method_54_code
def yX12_best : MethodName := ⟨RX12, "best", "(II)I"⟩
abbrev cX12_part : ByteArray := prog_14_method_55_code
def yX12_part : MethodName := ⟨RX12, "part", "(JJI)J"⟩
abbrev cX12_holdsOf : ByteArray := prog_14_method_56_code
def yX12_holdsOf : MethodName := ⟨RX12, "holdsOf", "(IIII)J"⟩
abbrev cX12_holds : ByteArray := prog_14_method_57_code
def yX12_holds : MethodName := ⟨RX12, "holds", "(IIII)J"⟩
abbrev cX12_alikeOf : ByteArray := prog_14_method_58_code
def yX12_alikeOf : MethodName := ⟨RX12, "alikeOf", "(I)J"⟩
abbrev cX12_alike : ByteArray := prog_14_method_59_code
def yX12_alike : MethodName := ⟨RX12, "alike", "(I)J"⟩
abbrev cX12_lot : ByteArray := prog_14_method_60_code
def yX12_lot : MethodName := ⟨RX12, "lot", "()I"⟩
abbrev cX12_tears : ByteArray := prog_14_method_61_code
def yX12_tears : MethodName := ⟨RX12, "tears", "()V"⟩
abbrev cX12_tornOf : ByteArray := prog_14_method_62_code
def yX12_tornOf : MethodName := ⟨RX12, "tornOf", "(II)I"⟩
abbrev cX12_torn : ByteArray := prog_14_method_63_code
def yX12_torn : MethodName := ⟨RX12, "torn", "(II)I"⟩
abbrev cX12_fairsOf : ByteArray := prog_14_method_64_code
def yX12_fairsOf : MethodName := ⟨RX12, "fairsOf", "(II)I"⟩
abbrev cX12_fairs : ByteArray := prog_14_method_65_code
def yX12_fairs : MethodName := ⟨RX12, "fairs", "(II)I"⟩
abbrev cX12_roams : ByteArray := prog_14_method_66_code
def yX12_roams : MethodName := ⟨RX12, "roams", "(I)V"⟩
abbrev cX12_goesNearer : ByteArray := prog_14_method_67_code
def yX12_goesNearer : MethodName := ⟨RX12, "goesNearer", "(I)V"⟩
abbrev cX12_findChances : ByteArray := prog_14_method_68_code
def yX12_findChances : MethodName := ⟨RX12, "findChances", "(II)J"⟩
abbrev cX12_isOf : ByteArray := prog_14_method_69_code
def yX12_isOf : MethodName := ⟨RX12, "isOf", "(IIII)J"⟩
abbrev cX12_is : ByteArray := prog_14_method_70_code
def yX12_is : MethodName := ⟨RX12, "is", "(IIII)J"⟩
abbrev cX12_likeliestOf : ByteArray := prog_14_method_71_code
def yX12_likeliestOf : MethodName := ⟨RX12, "likeliestOf", "(II)I"⟩
abbrev cX12_likeliest : ByteArray := prog_14_method_72_code
def yX12_likeliest : MethodName := ⟨RX12, "likeliest", "(II)I"⟩
abbrev cX12_look : ByteArray := prog_14_method_73_code
def yX12_look : MethodName := ⟨RX12, "look", "(II)I"⟩
abbrev cX12_forget : ByteArray := prog_14_method_74_code
def yX12_forget : MethodName := ⟨RX12, "forget", "()I"⟩
abbrev cX12_findWays : ByteArray := prog_14_method_75_code
def yX12_findWays : MethodName := ⟨RX12, "findWays", "(I)Z"⟩
abbrev cX12_weights : ByteArray := prog_14_method_76_code
def yX12_weights : MethodName := ⟨RX12, "weights", "()I"⟩
abbrev cX12_findBest : ByteArray := prog_14_method_77_code
def yX12_findBest : MethodName := ⟨RX12, "findBest", "(I)I"⟩
abbrev cX12_seekOf : ByteArray := prog_14_method_78_code
def yX12_seekOf : MethodName := ⟨RX12, "seekOf", "(II)J"⟩
abbrev cX12_seek : ByteArray := prog_14_method_79_code
def yX12_seek : MethodName := ⟨RX12, "seek", "(II)J"⟩
abbrev cX12_partedOf : ByteArray := prog_14_method_80_code
def yX12_partedOf : MethodName := ⟨RX12, "partedOf", "(III)J"⟩
abbrev cX12_parted : ByteArray := prog_14_method_81_code
def yX12_parted : MethodName := ⟨RX12, "parted", "(III)J"⟩
abbrev cX12_meetOf : ByteArray := prog_14_method_82_code
def yX12_meetOf : MethodName := ⟨RX12, "meetOf", "(II)I"⟩
abbrev cX12_meet : ByteArray := prog_14_method_83_code
def yX12_meet : MethodName := ⟨RX12, "meet", "(II)I"⟩
abbrev cX12_countsOf : ByteArray := prog_14_method_84_code
def yX12_countsOf : MethodName := ⟨RX12, "countsOf", "(III)I"⟩
abbrev cX12_counts : ByteArray := prog_14_method_85_code
def yX12_counts : MethodName := ⟨RX12, "counts", "(III)I"⟩
abbrev cX12_write : ByteArray := prog_14_method_86_code
def yX12_write : MethodName := ⟨RX12, "write", "(II)I"⟩
abbrev cX12_count : ByteArray := prog_14_method_87_code
def yX12_count : MethodName := ⟨RX12, "count", "(I)I"⟩
abbrev cX12_digest : ByteArray := prog_14_method_88_code
def yX12_digest : MethodName := ⟨RX12, "digest", "()J"⟩
def RJ6 : String := "java/lang/Integer"
def TJ6 : u_T := fun k => match k with
  | _ => ("", "", "", false)
def tyJ6 : Nat → FieldType := fun k => match k with
  | _ => .int
abbrev wsJ60 : List Cond := u_ws RJ6 TJ6 0
theorem nmJ6 : ∀ a, a < 0 → ∀ b, b < 0 → a ≠ b → (TJ6 a).2.1 ≠ (TJ6 b).2.1 := by decide +kernel
theorem tyJ6_ok : ∀ k, k < 0 → parseFieldDescriptor (TJ6 k).2.2.1 = some (tyJ6 k) := by decide +kernel
abbrev cJ6_bitCount_0f7a4 : ByteArray := prog_15_method_49_code
def yJ6_bitCount_0f7a4 : MethodName := ⟨RJ6, "bitCount", "(I)I"⟩
def RJ9 : String := "java/lang/Math"
def TJ9 : u_T := fun k => match k with
  | _ => ("", "", "", false)
def tyJ9 : Nat → FieldType := fun k => match k with
  | _ => .int
abbrev wsJ90 : List Cond := u_ws RJ9 TJ9 0
theorem nmJ9 : ∀ a, a < 0 → ∀ b, b < 0 → a ≠ b → (TJ9 a).2.1 ≠ (TJ9 b).2.1 := by decide +kernel
theorem tyJ9_ok : ∀ k, k < 0 → parseFieldDescriptor (TJ9 k).2.2.1 = some (tyJ9 k) := by decide +kernel
abbrev cJ9_max_7cf53 : ByteArray := prog_16_method_65_code
def yJ9_max_7cf53 : MethodName := ⟨RJ9, "max", "(II)I"⟩
abbrev cJ9_min_7cf53 : ByteArray := prog_16_method_69_code
def yJ9_min_7cf53 : MethodName := ⟨RJ9, "min", "(II)I"⟩
def RJ10 : String := "java/lang/System"
def TJ10 : u_T := fun k => match k with
  | _ => ("", "", "", false)
def tyJ10 : Nat → FieldType := fun k => match k with
  | _ => .int
abbrev wsJ100 : List Cond := u_ws RJ10 TJ10 0
theorem nmJ10 : ∀ a, a < 0 → ∀ b, b < 0 → a ≠ b → (TJ10 a).2.1 ≠ (TJ10 b).2.1 := by decide +kernel
theorem tyJ10_ok : ∀ k, k < 0 → parseFieldDescriptor (TJ10 k).2.2.1 = some (tyJ10 k) := by decide +kernel
def RJ7 : String := "java/util/Arrays"
def TJ7 : u_T := fun k => match k with
  | _ => ("", "", "", false)
def tyJ7 : Nat → FieldType := fun k => match k with
  | _ => .int
abbrev wsJ70 : List Cond := u_ws RJ7 TJ7 0
theorem nmJ7 : ∀ a, a < 0 → ∀ b, b < 0 → a ≠ b → (TJ7 a).2.1 ≠ (TJ7 b).2.1 := by decide +kernel
theorem tyJ7_ok : ∀ k, k < 0 → parseFieldDescriptor (TJ7 k).2.2.1 = some (tyJ7 k) := by decide +kernel
abbrev cJ7_fill_d0a16 : ByteArray := prog_18_method_101_code
def yJ7_fill_d0a16 : MethodName := ⟨RJ7, "fill", "([JJ)V"⟩
abbrev cJ7_fill_53178 : ByteArray := prog_18_method_103_code
def yJ7_fill_53178 : MethodName := ⟨RJ7, "fill", "([II)V"⟩
def RL : String := "HandInHandLaw"
abbrev cL_law : ByteArray := code
def yL_law : MethodName := ⟨RL, "law", "([I)Z"⟩
end
section
theorem dX0_init_0 : decode cX0_init 0 = .ok (.aload_n 0, 1) := by decide +kernel
theorem dX0_init_1 : decode cX0_init 1 = .ok (.invokespecial 3, 3) := by decide +kernel
theorem dX0_init_4 : decode cX0_init 4 = .ok (.aload_n 0, 1) := by decide +kernel
theorem dX0_init_5 : decode cX0_init 5 = .ok (.aload_n 1, 1) := by decide +kernel
theorem dX0_init_6 : decode cX0_init 6 = .ok (.putfield 9, 3) := by decide +kernel
theorem dX0_init_9 : decode cX0_init 9 = .ok (.aload_n 0, 1) := by decide +kernel
theorem dX0_init_10 : decode cX0_init 10 = .ok (.bipush 64, 2) := by decide +kernel
theorem dX0_init_12 : decode cX0_init 12 = .ok (.newarray .int, 2) := by decide +kernel
theorem dX0_init_14 : decode cX0_init 14 = .ok (.putfield 15, 3) := by decide +kernel
theorem dX0_init_17 : decode cX0_init 17 = .ok (.aload_n 0, 1) := by decide +kernel
theorem dX0_init_18 : decode cX0_init 18 = .ok (.bipush 64, 2) := by decide +kernel
theorem dX0_init_20 : decode cX0_init 20 = .ok (.newarray .int, 2) := by decide +kernel
theorem dX0_init_22 : decode cX0_init 22 = .ok (.putfield 19, 3) := by decide +kernel
theorem dX0_init_25 : decode cX0_init 25 = .ok (.return_, 1) := by decide +kernel
theorem dX0_measureFrom_0 : decode cX0_measureFrom 0 = .ok (.aload_n 0, 1) := by decide +kernel
theorem dX0_measureFrom_1 : decode cX0_measureFrom 1 = .ok (.getfield 15, 3) := by decide +kernel
theorem dX0_measureFrom_4 : decode cX0_measureFrom 4 = .ok (.iconst (-1), 1) := by decide +kernel
theorem dX0_measureFrom_5 : decode cX0_measureFrom 5 = .ok (.invokestatic 22, 3) := by decide +kernel
theorem dX0_measureFrom_8 : decode cX0_measureFrom 8 = .ok (.aload_n 0, 1) := by decide +kernel
theorem dX0_measureFrom_9 : decode cX0_measureFrom 9 = .ok (.getfield 9, 3) := by decide +kernel
theorem dX0_measureFrom_12 : decode cX0_measureFrom 12 = .ok (.iload_n 1, 1) := by decide +kernel
theorem dX0_measureFrom_13 : decode cX0_measureFrom 13 = .ok (.invokevirtual 28, 3) := by decide +kernel
theorem dX0_measureFrom_16 : decode cX0_measureFrom 16 = .ok (.ifCond .ne 4, 3) := by decide +kernel
theorem dX0_measureFrom_19 : decode cX0_measureFrom 19 = .ok (.return_, 1) := by decide +kernel
theorem dX0_measureFrom_20 : decode cX0_measureFrom 20 = .ok (.aload_n 0, 1) := by decide +kernel
theorem dX0_measureFrom_21 : decode cX0_measureFrom 21 = .ok (.getfield 15, 3) := by decide +kernel
theorem dX0_measureFrom_24 : decode cX0_measureFrom 24 = .ok (.iload_n 1, 1) := by decide +kernel
theorem dX0_measureFrom_25 : decode cX0_measureFrom 25 = .ok (.iconst 0, 1) := by decide +kernel
theorem dX0_measureFrom_26 : decode cX0_measureFrom 26 = .ok (.iastore, 1) := by decide +kernel
theorem dX0_measureFrom_27 : decode cX0_measureFrom 27 = .ok (.aload_n 0, 1) := by decide +kernel
theorem dX0_measureFrom_28 : decode cX0_measureFrom 28 = .ok (.getfield 19, 3) := by decide +kernel
theorem dX0_measureFrom_31 : decode cX0_measureFrom 31 = .ok (.iconst 0, 1) := by decide +kernel
theorem dX0_measureFrom_32 : decode cX0_measureFrom 32 = .ok (.iload_n 1, 1) := by decide +kernel
theorem dX0_measureFrom_33 : decode cX0_measureFrom 33 = .ok (.iastore, 1) := by decide +kernel
theorem dX0_measureFrom_34 : decode cX0_measureFrom 34 = .ok (.iconst 1, 1) := by decide +kernel
theorem dX0_measureFrom_35 : decode cX0_measureFrom 35 = .ok (.istore_n 2, 1) := by decide +kernel
theorem dX0_measureFrom_36 : decode cX0_measureFrom 36 = .ok (.iconst 0, 1) := by decide +kernel
theorem dX0_measureFrom_37 : decode cX0_measureFrom 37 = .ok (.istore_n 3, 1) := by decide +kernel
theorem dX0_measureFrom_38 : decode cX0_measureFrom 38 = .ok (.iload_n 3, 1) := by decide +kernel
theorem dX0_measureFrom_39 : decode cX0_measureFrom 39 = .ok (.iload_n 2, 1) := by decide +kernel
theorem dX0_measureFrom_40 : decode cX0_measureFrom 40 = .ok (.if_icmp .ge 107, 3) := by decide +kernel
theorem dX0_measureFrom_43 : decode cX0_measureFrom 43 = .ok (.iload_n 3, 1) := by decide +kernel
theorem dX0_measureFrom_44 : decode cX0_measureFrom 44 = .ok (.bipush 64, 2) := by decide +kernel
theorem dX0_measureFrom_46 : decode cX0_measureFrom 46 = .ok (.if_icmp .ge 101, 3) := by decide +kernel
theorem dX0_measureFrom_49 : decode cX0_measureFrom 49 = .ok (.aload_n 0, 1) := by decide +kernel
theorem dX0_measureFrom_50 : decode cX0_measureFrom 50 = .ok (.getfield 19, 3) := by decide +kernel
theorem dX0_measureFrom_53 : decode cX0_measureFrom 53 = .ok (.iload_n 3, 1) := by decide +kernel
theorem dX0_measureFrom_54 : decode cX0_measureFrom 54 = .ok (.iaload, 1) := by decide +kernel
theorem dX0_measureFrom_55 : decode cX0_measureFrom 55 = .ok (.istore 4, 2) := by decide +kernel
theorem dX0_measureFrom_57 : decode cX0_measureFrom 57 = .ok (.iconst 0, 1) := by decide +kernel
theorem dX0_measureFrom_58 : decode cX0_measureFrom 58 = .ok (.istore 5, 2) := by decide +kernel
theorem dX0_measureFrom_60 : decode cX0_measureFrom 60 = .ok (.iload 5, 2) := by decide +kernel
theorem dX0_measureFrom_62 : decode cX0_measureFrom 62 = .ok (.iconst 4, 1) := by decide +kernel
theorem dX0_measureFrom_63 : decode cX0_measureFrom 63 = .ok (.if_icmp .ge 78, 3) := by decide +kernel
theorem dX0_measureFrom_66 : decode cX0_measureFrom 66 = .ok (.aload_n 0, 1) := by decide +kernel
theorem dX0_measureFrom_67 : decode cX0_measureFrom 67 = .ok (.getfield 9, 3) := by decide +kernel
theorem dX0_measureFrom_70 : decode cX0_measureFrom 70 = .ok (.iload 4, 2) := by decide +kernel
theorem dX0_measureFrom_72 : decode cX0_measureFrom 72 = .ok (.iload 5, 2) := by decide +kernel
theorem dX0_measureFrom_74 : decode cX0_measureFrom 74 = .ok (.invokevirtual 34, 3) := by decide +kernel
theorem dX0_measureFrom_77 : decode cX0_measureFrom 77 = .ok (.istore 6, 2) := by decide +kernel
theorem dX0_measureFrom_79 : decode cX0_measureFrom 79 = .ok (.iload 6, 2) := by decide +kernel
theorem dX0_measureFrom_81 : decode cX0_measureFrom 81 = .ok (.ifCond .lt 54, 3) := by decide +kernel
theorem dX0_measureFrom_84 : decode cX0_measureFrom 84 = .ok (.iload 6, 2) := by decide +kernel
theorem dX0_measureFrom_86 : decode cX0_measureFrom 86 = .ok (.bipush 64, 2) := by decide +kernel
theorem dX0_measureFrom_88 : decode cX0_measureFrom 88 = .ok (.if_icmp .ge 47, 3) := by decide +kernel
theorem dX0_measureFrom_91 : decode cX0_measureFrom 91 = .ok (.aload_n 0, 1) := by decide +kernel
theorem dX0_measureFrom_92 : decode cX0_measureFrom 92 = .ok (.getfield 15, 3) := by decide +kernel
theorem dX0_measureFrom_95 : decode cX0_measureFrom 95 = .ok (.iload 6, 2) := by decide +kernel
theorem dX0_measureFrom_97 : decode cX0_measureFrom 97 = .ok (.iaload, 1) := by decide +kernel
theorem dX0_measureFrom_98 : decode cX0_measureFrom 98 = .ok (.iconst (-1), 1) := by decide +kernel
theorem dX0_measureFrom_99 : decode cX0_measureFrom 99 = .ok (.if_icmp .ne 36, 3) := by decide +kernel
theorem dX0_measureFrom_102 : decode cX0_measureFrom 102 = .ok (.iload_n 2, 1) := by decide +kernel
theorem dX0_measureFrom_103 : decode cX0_measureFrom 103 = .ok (.bipush 64, 2) := by decide +kernel
theorem dX0_measureFrom_105 : decode cX0_measureFrom 105 = .ok (.if_icmp .ge 30, 3) := by decide +kernel
theorem dX0_measureFrom_108 : decode cX0_measureFrom 108 = .ok (.aload_n 0, 1) := by decide +kernel
theorem dX0_measureFrom_109 : decode cX0_measureFrom 109 = .ok (.getfield 15, 3) := by decide +kernel
theorem dX0_measureFrom_112 : decode cX0_measureFrom 112 = .ok (.iload 6, 2) := by decide +kernel
theorem dX0_measureFrom_114 : decode cX0_measureFrom 114 = .ok (.aload_n 0, 1) := by decide +kernel
theorem dX0_measureFrom_115 : decode cX0_measureFrom 115 = .ok (.getfield 15, 3) := by decide +kernel
theorem dX0_measureFrom_118 : decode cX0_measureFrom 118 = .ok (.iload 4, 2) := by decide +kernel
theorem dX0_measureFrom_120 : decode cX0_measureFrom 120 = .ok (.iaload, 1) := by decide +kernel
theorem dX0_measureFrom_121 : decode cX0_measureFrom 121 = .ok (.iconst 1, 1) := by decide +kernel
theorem dX0_measureFrom_122 : decode cX0_measureFrom 122 = .ok (.iadd, 1) := by decide +kernel
theorem dX0_measureFrom_123 : decode cX0_measureFrom 123 = .ok (.iastore, 1) := by decide +kernel
theorem dX0_measureFrom_124 : decode cX0_measureFrom 124 = .ok (.aload_n 0, 1) := by decide +kernel
theorem dX0_measureFrom_125 : decode cX0_measureFrom 125 = .ok (.getfield 19, 3) := by decide +kernel
theorem dX0_measureFrom_128 : decode cX0_measureFrom 128 = .ok (.iload_n 2, 1) := by decide +kernel
theorem dX0_measureFrom_129 : decode cX0_measureFrom 129 = .ok (.iload 6, 2) := by decide +kernel
theorem dX0_measureFrom_131 : decode cX0_measureFrom 131 = .ok (.iastore, 1) := by decide +kernel
theorem dX0_measureFrom_132 : decode cX0_measureFrom 132 = .ok (.iinc 2 1, 3) := by decide +kernel
theorem dX0_measureFrom_135 : decode cX0_measureFrom 135 = .ok (.iinc 5 1, 3) := by decide +kernel
theorem dX0_measureFrom_138 : decode cX0_measureFrom 138 = .ok (.goto (-78), 3) := by decide +kernel
theorem dX0_measureFrom_141 : decode cX0_measureFrom 141 = .ok (.iinc 3 1, 3) := by decide +kernel
theorem dX0_measureFrom_144 : decode cX0_measureFrom 144 = .ok (.goto (-106), 3) := by decide +kernel
theorem dX0_measureFrom_147 : decode cX0_measureFrom 147 = .ok (.return_, 1) := by decide +kernel
theorem dX0_stepsTo_0 : decode cX0_stepsTo 0 = .ok (.iload_n 1, 1) := by decide +kernel
theorem dX0_stepsTo_1 : decode cX0_stepsTo 1 = .ok (.ifCond .lt 18, 3) := by decide +kernel
theorem dX0_stepsTo_4 : decode cX0_stepsTo 4 = .ok (.iload_n 1, 1) := by decide +kernel
theorem dX0_stepsTo_5 : decode cX0_stepsTo 5 = .ok (.bipush 64, 2) := by decide +kernel
theorem dX0_stepsTo_7 : decode cX0_stepsTo 7 = .ok (.if_icmp .ge 12, 3) := by decide +kernel
theorem dX0_stepsTo_10 : decode cX0_stepsTo 10 = .ok (.aload_n 0, 1) := by decide +kernel
theorem dX0_stepsTo_11 : decode cX0_stepsTo 11 = .ok (.getfield 15, 3) := by decide +kernel
theorem dX0_stepsTo_14 : decode cX0_stepsTo 14 = .ok (.iload_n 1, 1) := by decide +kernel
theorem dX0_stepsTo_15 : decode cX0_stepsTo 15 = .ok (.iaload, 1) := by decide +kernel
theorem dX0_stepsTo_16 : decode cX0_stepsTo 16 = .ok (.goto 4, 3) := by decide +kernel
theorem dX0_stepsTo_19 : decode cX0_stepsTo 19 = .ok (.iconst (-1), 1) := by decide +kernel
theorem dX0_stepsTo_20 : decode cX0_stepsTo 20 = .ok (.ireturn, 1) := by decide +kernel
theorem dX1_init_0 : decode cX1_init 0 = .ok (.aload_n 0, 1) := by decide +kernel
theorem dX1_init_1 : decode cX1_init 1 = .ok (.invokespecial 3, 3) := by decide +kernel
theorem dX1_init_4 : decode cX1_init 4 = .ok (.aload_n 0, 1) := by decide +kernel
theorem dX1_init_5 : decode cX1_init 5 = .ok (.aload_n 1, 1) := by decide +kernel
theorem dX1_init_6 : decode cX1_init 6 = .ok (.putfield 9, 3) := by decide +kernel
theorem dX1_init_9 : decode cX1_init 9 = .ok (.aload_n 0, 1) := by decide +kernel
theorem dX1_init_10 : decode cX1_init 10 = .ok (.bipush 64, 2) := by decide +kernel
theorem dX1_init_12 : decode cX1_init 12 = .ok (.newarray .int, 2) := by decide +kernel
theorem dX1_init_14 : decode cX1_init 14 = .ok (.putfield 15, 3) := by decide +kernel
theorem dX1_init_17 : decode cX1_init 17 = .ok (.aload_n 0, 1) := by decide +kernel
theorem dX1_init_18 : decode cX1_init 18 = .ok (.lconst 0, 1) := by decide +kernel
theorem dX1_init_19 : decode cX1_init 19 = .ok (.putfield 19, 3) := by decide +kernel
theorem dX1_init_22 : decode cX1_init 22 = .ok (.return_, 1) := by decide +kernel
theorem dX1_measureTo_0 : decode cX1_measureTo 0 = .ok (.aload_n 0, 1) := by decide +kernel
theorem dX1_measureTo_1 : decode cX1_measureTo 1 = .ok (.getfield 15, 3) := by decide +kernel
theorem dX1_measureTo_4 : decode cX1_measureTo 4 = .ok (.ldc 23, 2) := by decide +kernel
theorem dX1_measureTo_6 : decode cX1_measureTo 6 = .ok (.invokestatic 24, 3) := by decide +kernel
theorem dX1_measureTo_9 : decode cX1_measureTo 9 = .ok (.aload_n 0, 1) := by decide +kernel
theorem dX1_measureTo_10 : decode cX1_measureTo 10 = .ok (.lconst 0, 1) := by decide +kernel
theorem dX1_measureTo_11 : decode cX1_measureTo 11 = .ok (.putfield 19, 3) := by decide +kernel
theorem dX1_measureTo_14 : decode cX1_measureTo 14 = .ok (.aload_n 0, 1) := by decide +kernel
theorem dX1_measureTo_15 : decode cX1_measureTo 15 = .ok (.getfield 9, 3) := by decide +kernel
theorem dX1_measureTo_18 : decode cX1_measureTo 18 = .ok (.iload_n 1, 1) := by decide +kernel
theorem dX1_measureTo_19 : decode cX1_measureTo 19 = .ok (.invokevirtual 30, 3) := by decide +kernel
theorem dX1_measureTo_22 : decode cX1_measureTo 22 = .ok (.ifCond .eq 10, 3) := by decide +kernel
theorem dX1_measureTo_25 : decode cX1_measureTo 25 = .ok (.aload_n 0, 1) := by decide +kernel
theorem dX1_measureTo_26 : decode cX1_measureTo 26 = .ok (.getfield 15, 3) := by decide +kernel
theorem dX1_measureTo_29 : decode cX1_measureTo 29 = .ok (.iload_n 1, 1) := by decide +kernel
theorem dX1_measureTo_30 : decode cX1_measureTo 30 = .ok (.iconst 0, 1) := by decide +kernel
theorem dX1_measureTo_31 : decode cX1_measureTo 31 = .ok (.iastore, 1) := by decide +kernel
theorem dX1_measureTo_32 : decode cX1_measureTo 32 = .ok (.iconst 0, 1) := by decide +kernel
theorem dX1_measureTo_33 : decode cX1_measureTo 33 = .ok (.istore_n 2, 1) := by decide +kernel
theorem dX1_measureTo_34 : decode cX1_measureTo 34 = .ok (.iload_n 2, 1) := by decide +kernel
theorem dX1_measureTo_35 : decode cX1_measureTo 35 = .ok (.bipush 64, 2) := by decide +kernel
theorem dX1_measureTo_37 : decode cX1_measureTo 37 = .ok (.if_icmp .ge 104, 3) := by decide +kernel
theorem dX1_measureTo_40 : decode cX1_measureTo 40 = .ok (.aload_n 0, 1) := by decide +kernel
theorem dX1_measureTo_41 : decode cX1_measureTo 41 = .ok (.invokevirtual 36, 3) := by decide +kernel
theorem dX1_measureTo_44 : decode cX1_measureTo 44 = .ok (.istore_n 3, 1) := by decide +kernel
theorem dX1_measureTo_45 : decode cX1_measureTo 45 = .ok (.iload_n 3, 1) := by decide +kernel
theorem dX1_measureTo_46 : decode cX1_measureTo 46 = .ok (.invokestatic 40, 3) := by decide +kernel
theorem dX1_measureTo_49 : decode cX1_measureTo 49 = .ok (.ifCond .ne 4, 3) := by decide +kernel
theorem dX1_measureTo_52 : decode cX1_measureTo 52 = .ok (.return_, 1) := by decide +kernel
theorem dX1_measureTo_53 : decode cX1_measureTo 53 = .ok (.aload_n 0, 1) := by decide +kernel
theorem dX1_measureTo_54 : decode cX1_measureTo 54 = .ok (.dup, 1) := by decide +kernel
theorem dX1_measureTo_55 : decode cX1_measureTo 55 = .ok (.getfield 19, 3) := by decide +kernel
theorem dX1_measureTo_58 : decode cX1_measureTo 58 = .ok (.lconst 1, 1) := by decide +kernel
theorem dX1_measureTo_59 : decode cX1_measureTo 59 = .ok (.iload_n 3, 1) := by decide +kernel
theorem dX1_measureTo_60 : decode cX1_measureTo 60 = .ok (.lshl, 1) := by decide +kernel
theorem dX1_measureTo_61 : decode cX1_measureTo 61 = .ok (.lor, 1) := by decide +kernel
theorem dX1_measureTo_62 : decode cX1_measureTo 62 = .ok (.putfield 19, 3) := by decide +kernel
theorem dX1_measureTo_65 : decode cX1_measureTo 65 = .ok (.aload_n 0, 1) := by decide +kernel
theorem dX1_measureTo_66 : decode cX1_measureTo 66 = .ok (.getfield 15, 3) := by decide +kernel
theorem dX1_measureTo_69 : decode cX1_measureTo 69 = .ok (.iload_n 3, 1) := by decide +kernel
theorem dX1_measureTo_70 : decode cX1_measureTo 70 = .ok (.iaload, 1) := by decide +kernel
theorem dX1_measureTo_71 : decode cX1_measureTo 71 = .ok (.aload_n 0, 1) := by decide +kernel
theorem dX1_measureTo_72 : decode cX1_measureTo 72 = .ok (.iload_n 3, 1) := by decide +kernel
theorem dX1_measureTo_73 : decode cX1_measureTo 73 = .ok (.invokevirtual 43, 3) := by decide +kernel
theorem dX1_measureTo_76 : decode cX1_measureTo 76 = .ok (.iadd, 1) := by decide +kernel
theorem dX1_measureTo_77 : decode cX1_measureTo 77 = .ok (.istore 4, 2) := by decide +kernel
theorem dX1_measureTo_79 : decode cX1_measureTo 79 = .ok (.iconst 0, 1) := by decide +kernel
theorem dX1_measureTo_80 : decode cX1_measureTo 80 = .ok (.istore 5, 2) := by decide +kernel
theorem dX1_measureTo_82 : decode cX1_measureTo 82 = .ok (.iload 5, 2) := by decide +kernel
theorem dX1_measureTo_84 : decode cX1_measureTo 84 = .ok (.iconst 4, 1) := by decide +kernel
theorem dX1_measureTo_85 : decode cX1_measureTo 85 = .ok (.if_icmp .ge 50, 3) := by decide +kernel
theorem dX1_measureTo_88 : decode cX1_measureTo 88 = .ok (.aload_n 0, 1) := by decide +kernel
theorem dX1_measureTo_89 : decode cX1_measureTo 89 = .ok (.getfield 9, 3) := by decide +kernel
theorem dX1_measureTo_92 : decode cX1_measureTo 92 = .ok (.iload_n 3, 1) := by decide +kernel
theorem dX1_measureTo_93 : decode cX1_measureTo 93 = .ok (.iload 5, 2) := by decide +kernel
theorem dX1_measureTo_95 : decode cX1_measureTo 95 = .ok (.invokevirtual 47, 3) := by decide +kernel
theorem dX1_measureTo_98 : decode cX1_measureTo 98 = .ok (.istore 6, 2) := by decide +kernel
theorem dX1_measureTo_100 : decode cX1_measureTo 100 = .ok (.iload 6, 2) := by decide +kernel
theorem dX1_measureTo_102 : decode cX1_measureTo 102 = .ok (.invokestatic 40, 3) := by decide +kernel
theorem dX1_measureTo_105 : decode cX1_measureTo 105 = .ok (.ifCond .eq 24, 3) := by decide +kernel
theorem dX1_measureTo_108 : decode cX1_measureTo 108 = .ok (.iload 4, 2) := by decide +kernel
theorem dX1_measureTo_110 : decode cX1_measureTo 110 = .ok (.aload_n 0, 1) := by decide +kernel
theorem dX1_measureTo_111 : decode cX1_measureTo 111 = .ok (.getfield 15, 3) := by decide +kernel
theorem dX1_measureTo_114 : decode cX1_measureTo 114 = .ok (.iload 6, 2) := by decide +kernel
theorem dX1_measureTo_116 : decode cX1_measureTo 116 = .ok (.iaload, 1) := by decide +kernel
theorem dX1_measureTo_117 : decode cX1_measureTo 117 = .ok (.if_icmp .ge 12, 3) := by decide +kernel
theorem dX1_measureTo_120 : decode cX1_measureTo 120 = .ok (.aload_n 0, 1) := by decide +kernel
theorem dX1_measureTo_121 : decode cX1_measureTo 121 = .ok (.getfield 15, 3) := by decide +kernel
theorem dX1_measureTo_124 : decode cX1_measureTo 124 = .ok (.iload 6, 2) := by decide +kernel
theorem dX1_measureTo_126 : decode cX1_measureTo 126 = .ok (.iload 4, 2) := by decide +kernel
theorem dX1_measureTo_128 : decode cX1_measureTo 128 = .ok (.iastore, 1) := by decide +kernel
theorem dX1_measureTo_129 : decode cX1_measureTo 129 = .ok (.iinc 5 1, 3) := by decide +kernel
theorem dX1_measureTo_132 : decode cX1_measureTo 132 = .ok (.goto (-50), 3) := by decide +kernel
theorem dX1_measureTo_135 : decode cX1_measureTo 135 = .ok (.iinc 2 1, 3) := by decide +kernel
theorem dX1_measureTo_138 : decode cX1_measureTo 138 = .ok (.goto (-104), 3) := by decide +kernel
theorem dX1_measureTo_141 : decode cX1_measureTo 141 = .ok (.return_, 1) := by decide +kernel
theorem dX1_cheapestOpen_0 : decode cX1_cheapestOpen 0 = .ok (.iconst (-1), 1) := by decide +kernel
theorem dX1_cheapestOpen_1 : decode cX1_cheapestOpen 1 = .ok (.istore_n 1, 1) := by decide +kernel
theorem dX1_cheapestOpen_2 : decode cX1_cheapestOpen 2 = .ok (.ldc 23, 2) := by decide +kernel
theorem dX1_cheapestOpen_4 : decode cX1_cheapestOpen 4 = .ok (.istore_n 2, 1) := by decide +kernel
theorem dX1_cheapestOpen_5 : decode cX1_cheapestOpen 5 = .ok (.iconst 0, 1) := by decide +kernel
theorem dX1_cheapestOpen_6 : decode cX1_cheapestOpen 6 = .ok (.istore_n 3, 1) := by decide +kernel
theorem dX1_cheapestOpen_7 : decode cX1_cheapestOpen 7 = .ok (.iload_n 3, 1) := by decide +kernel
theorem dX1_cheapestOpen_8 : decode cX1_cheapestOpen 8 = .ok (.bipush 64, 2) := by decide +kernel
theorem dX1_cheapestOpen_10 : decode cX1_cheapestOpen 10 = .ok (.if_icmp .ge 41, 3) := by decide +kernel
theorem dX1_cheapestOpen_13 : decode cX1_cheapestOpen 13 = .ok (.aload_n 0, 1) := by decide +kernel
theorem dX1_cheapestOpen_14 : decode cX1_cheapestOpen 14 = .ok (.getfield 15, 3) := by decide +kernel
theorem dX1_cheapestOpen_17 : decode cX1_cheapestOpen 17 = .ok (.iload_n 3, 1) := by decide +kernel
theorem dX1_cheapestOpen_18 : decode cX1_cheapestOpen 18 = .ok (.iaload, 1) := by decide +kernel
theorem dX1_cheapestOpen_19 : decode cX1_cheapestOpen 19 = .ok (.iload_n 2, 1) := by decide +kernel
theorem dX1_cheapestOpen_20 : decode cX1_cheapestOpen 20 = .ok (.if_icmp .ge 25, 3) := by decide +kernel
theorem dX1_cheapestOpen_23 : decode cX1_cheapestOpen 23 = .ok (.aload_n 0, 1) := by decide +kernel
theorem dX1_cheapestOpen_24 : decode cX1_cheapestOpen 24 = .ok (.getfield 19, 3) := by decide +kernel
theorem dX1_cheapestOpen_27 : decode cX1_cheapestOpen 27 = .ok (.iload_n 3, 1) := by decide +kernel
theorem dX1_cheapestOpen_28 : decode cX1_cheapestOpen 28 = .ok (.lushr, 1) := by decide +kernel
theorem dX1_cheapestOpen_29 : decode cX1_cheapestOpen 29 = .ok (.lconst 1, 1) := by decide +kernel
theorem dX1_cheapestOpen_30 : decode cX1_cheapestOpen 30 = .ok (.land, 1) := by decide +kernel
theorem dX1_cheapestOpen_31 : decode cX1_cheapestOpen 31 = .ok (.lconst 0, 1) := by decide +kernel
theorem dX1_cheapestOpen_32 : decode cX1_cheapestOpen 32 = .ok (.lcmp, 1) := by decide +kernel
theorem dX1_cheapestOpen_33 : decode cX1_cheapestOpen 33 = .ok (.ifCond .ne 12, 3) := by decide +kernel
theorem dX1_cheapestOpen_36 : decode cX1_cheapestOpen 36 = .ok (.iload_n 3, 1) := by decide +kernel
theorem dX1_cheapestOpen_37 : decode cX1_cheapestOpen 37 = .ok (.istore_n 1, 1) := by decide +kernel
theorem dX1_cheapestOpen_38 : decode cX1_cheapestOpen 38 = .ok (.aload_n 0, 1) := by decide +kernel
theorem dX1_cheapestOpen_39 : decode cX1_cheapestOpen 39 = .ok (.getfield 15, 3) := by decide +kernel
theorem dX1_cheapestOpen_42 : decode cX1_cheapestOpen 42 = .ok (.iload_n 3, 1) := by decide +kernel
theorem dX1_cheapestOpen_43 : decode cX1_cheapestOpen 43 = .ok (.iaload, 1) := by decide +kernel
theorem dX1_cheapestOpen_44 : decode cX1_cheapestOpen 44 = .ok (.istore_n 2, 1) := by decide +kernel
theorem dX1_cheapestOpen_45 : decode cX1_cheapestOpen 45 = .ok (.iinc 3 1, 3) := by decide +kernel
theorem dX1_cheapestOpen_48 : decode cX1_cheapestOpen 48 = .ok (.goto (-41), 3) := by decide +kernel
theorem dX1_cheapestOpen_51 : decode cX1_cheapestOpen 51 = .ok (.iload_n 1, 1) := by decide +kernel
theorem dX1_cheapestOpen_52 : decode cX1_cheapestOpen 52 = .ok (.ireturn, 1) := by decide +kernel
theorem dX1_tollInto_0 : decode cX1_tollInto 0 = .ok (.aload_n 0, 1) := by decide +kernel
theorem dX1_tollInto_1 : decode cX1_tollInto 1 = .ok (.getfield 9, 3) := by decide +kernel
theorem dX1_tollInto_4 : decode cX1_tollInto 4 = .ok (.iload_n 1, 1) := by decide +kernel
theorem dX1_tollInto_5 : decode cX1_tollInto 5 = .ok (.invokevirtual 51, 3) := by decide +kernel
theorem dX1_tollInto_8 : decode cX1_tollInto 8 = .ok (.bipush 64, 2) := by decide +kernel
theorem dX1_tollInto_10 : decode cX1_tollInto 10 = .ok (.imul, 1) := by decide +kernel
theorem dX1_tollInto_11 : decode cX1_tollInto 11 = .ok (.iconst 1, 1) := by decide +kernel
theorem dX1_tollInto_12 : decode cX1_tollInto 12 = .ok (.iadd, 1) := by decide +kernel
theorem dX1_tollInto_13 : decode cX1_tollInto 13 = .ok (.ireturn, 1) := by decide +kernel
theorem dX1_reaches_0 : decode cX1_reaches 0 = .ok (.iload_n 1, 1) := by decide +kernel
theorem dX1_reaches_1 : decode cX1_reaches 1 = .ok (.invokestatic 40, 3) := by decide +kernel
theorem dX1_reaches_4 : decode cX1_reaches 4 = .ok (.ifCond .eq 18, 3) := by decide +kernel
theorem dX1_reaches_7 : decode cX1_reaches 7 = .ok (.aload_n 0, 1) := by decide +kernel
theorem dX1_reaches_8 : decode cX1_reaches 8 = .ok (.getfield 15, 3) := by decide +kernel
theorem dX1_reaches_11 : decode cX1_reaches 11 = .ok (.iload_n 1, 1) := by decide +kernel
theorem dX1_reaches_12 : decode cX1_reaches 12 = .ok (.iaload, 1) := by decide +kernel
theorem dX1_reaches_13 : decode cX1_reaches 13 = .ok (.ldc 23, 2) := by decide +kernel
theorem dX1_reaches_15 : decode cX1_reaches 15 = .ok (.if_icmp .ge 7, 3) := by decide +kernel
theorem dX1_reaches_18 : decode cX1_reaches 18 = .ok (.iconst 1, 1) := by decide +kernel
theorem dX1_reaches_19 : decode cX1_reaches 19 = .ok (.goto 4, 3) := by decide +kernel
theorem dX1_reaches_22 : decode cX1_reaches 22 = .ok (.iconst 0, 1) := by decide +kernel
theorem dX1_reaches_23 : decode cX1_reaches 23 = .ok (.ireturn, 1) := by decide +kernel
theorem dX1_densityFrom_0 : decode cX1_densityFrom 0 = .ok (.aload_n 0, 1) := by decide +kernel
theorem dX1_densityFrom_1 : decode cX1_densityFrom 1 = .ok (.iload_n 1, 1) := by decide +kernel
theorem dX1_densityFrom_2 : decode cX1_densityFrom 2 = .ok (.invokevirtual 54, 3) := by decide +kernel
theorem dX1_densityFrom_5 : decode cX1_densityFrom 5 = .ok (.ifCond .eq 15, 3) := by decide +kernel
theorem dX1_densityFrom_8 : decode cX1_densityFrom 8 = .ok (.aload_n 0, 1) := by decide +kernel
theorem dX1_densityFrom_9 : decode cX1_densityFrom 9 = .ok (.getfield 15, 3) := by decide +kernel
theorem dX1_densityFrom_12 : decode cX1_densityFrom 12 = .ok (.iload_n 1, 1) := by decide +kernel
theorem dX1_densityFrom_13 : decode cX1_densityFrom 13 = .ok (.iaload, 1) := by decide +kernel
theorem dX1_densityFrom_14 : decode cX1_densityFrom 14 = .ok (.bipush 64, 2) := by decide +kernel
theorem dX1_densityFrom_16 : decode cX1_densityFrom 16 = .ok (.idiv, 1) := by decide +kernel
theorem dX1_densityFrom_17 : decode cX1_densityFrom 17 = .ok (.goto 4, 3) := by decide +kernel
theorem dX1_densityFrom_20 : decode cX1_densityFrom 20 = .ok (.iconst (-1), 1) := by decide +kernel
theorem dX1_densityFrom_21 : decode cX1_densityFrom 21 = .ok (.ireturn, 1) := by decide +kernel
theorem dX1_stepsFrom_0 : decode cX1_stepsFrom 0 = .ok (.aload_n 0, 1) := by decide +kernel
theorem dX1_stepsFrom_1 : decode cX1_stepsFrom 1 = .ok (.iload_n 1, 1) := by decide +kernel
theorem dX1_stepsFrom_2 : decode cX1_stepsFrom 2 = .ok (.invokevirtual 54, 3) := by decide +kernel
theorem dX1_stepsFrom_5 : decode cX1_stepsFrom 5 = .ok (.ifCond .eq 15, 3) := by decide +kernel
theorem dX1_stepsFrom_8 : decode cX1_stepsFrom 8 = .ok (.aload_n 0, 1) := by decide +kernel
theorem dX1_stepsFrom_9 : decode cX1_stepsFrom 9 = .ok (.getfield 15, 3) := by decide +kernel
theorem dX1_stepsFrom_12 : decode cX1_stepsFrom 12 = .ok (.iload_n 1, 1) := by decide +kernel
theorem dX1_stepsFrom_13 : decode cX1_stepsFrom 13 = .ok (.iaload, 1) := by decide +kernel
theorem dX1_stepsFrom_14 : decode cX1_stepsFrom 14 = .ok (.bipush 64, 2) := by decide +kernel
theorem dX1_stepsFrom_16 : decode cX1_stepsFrom 16 = .ok (.irem, 1) := by decide +kernel
theorem dX1_stepsFrom_17 : decode cX1_stepsFrom 17 = .ok (.goto 4, 3) := by decide +kernel
theorem dX1_stepsFrom_20 : decode cX1_stepsFrom 20 = .ok (.iconst (-1), 1) := by decide +kernel
theorem dX1_stepsFrom_21 : decode cX1_stepsFrom 21 = .ok (.ireturn, 1) := by decide +kernel
theorem dX1_letterAt_0 : decode cX1_letterAt 0 = .ok (.iload_n 1, 1) := by decide +kernel
theorem dX1_letterAt_1 : decode cX1_letterAt 1 = .ok (.istore_n 3, 1) := by decide +kernel
theorem dX1_letterAt_2 : decode cX1_letterAt 2 = .ok (.iconst 0, 1) := by decide +kernel
theorem dX1_letterAt_3 : decode cX1_letterAt 3 = .ok (.istore 4, 2) := by decide +kernel
theorem dX1_letterAt_5 : decode cX1_letterAt 5 = .ok (.iload 4, 2) := by decide +kernel
theorem dX1_letterAt_7 : decode cX1_letterAt 7 = .ok (.bipush 64, 2) := by decide +kernel
theorem dX1_letterAt_9 : decode cX1_letterAt 9 = .ok (.if_icmp .ge 42, 3) := by decide +kernel
theorem dX1_letterAt_12 : decode cX1_letterAt 12 = .ok (.aload_n 0, 1) := by decide +kernel
theorem dX1_letterAt_13 : decode cX1_letterAt 13 = .ok (.iload_n 3, 1) := by decide +kernel
theorem dX1_letterAt_14 : decode cX1_letterAt 14 = .ok (.invokevirtual 57, 3) := by decide +kernel
theorem dX1_letterAt_17 : decode cX1_letterAt 17 = .ok (.istore 5, 2) := by decide +kernel
theorem dX1_letterAt_19 : decode cX1_letterAt 19 = .ok (.iload 5, 2) := by decide +kernel
theorem dX1_letterAt_21 : decode cX1_letterAt 21 = .ok (.iconst (-1), 1) := by decide +kernel
theorem dX1_letterAt_22 : decode cX1_letterAt 22 = .ok (.if_icmp .eq 9, 3) := by decide +kernel
theorem dX1_letterAt_25 : decode cX1_letterAt 25 = .ok (.iload 4, 2) := by decide +kernel
theorem dX1_letterAt_27 : decode cX1_letterAt 27 = .ok (.iload_n 2, 1) := by decide +kernel
theorem dX1_letterAt_28 : decode cX1_letterAt 28 = .ok (.if_icmp .ne 6, 3) := by decide +kernel
theorem dX1_letterAt_31 : decode cX1_letterAt 31 = .ok (.iload 5, 2) := by decide +kernel
theorem dX1_letterAt_33 : decode cX1_letterAt 33 = .ok (.ireturn, 1) := by decide +kernel
theorem dX1_letterAt_34 : decode cX1_letterAt 34 = .ok (.aload_n 0, 1) := by decide +kernel
theorem dX1_letterAt_35 : decode cX1_letterAt 35 = .ok (.getfield 9, 3) := by decide +kernel
theorem dX1_letterAt_38 : decode cX1_letterAt 38 = .ok (.iload_n 3, 1) := by decide +kernel
theorem dX1_letterAt_39 : decode cX1_letterAt 39 = .ok (.iload 5, 2) := by decide +kernel
theorem dX1_letterAt_41 : decode cX1_letterAt 41 = .ok (.invokevirtual 47, 3) := by decide +kernel
theorem dX1_letterAt_44 : decode cX1_letterAt 44 = .ok (.istore_n 3, 1) := by decide +kernel
theorem dX1_letterAt_45 : decode cX1_letterAt 45 = .ok (.iinc 4 1, 3) := by decide +kernel
theorem dX1_letterAt_48 : decode cX1_letterAt 48 = .ok (.goto (-43), 3) := by decide +kernel
theorem dX1_letterAt_51 : decode cX1_letterAt 51 = .ok (.iconst (-1), 1) := by decide +kernel
theorem dX1_letterAt_52 : decode cX1_letterAt 52 = .ok (.ireturn, 1) := by decide +kernel
theorem dX1_firstLetter_0 : decode cX1_firstLetter 0 = .ok (.aload_n 0, 1) := by decide +kernel
theorem dX1_firstLetter_1 : decode cX1_firstLetter 1 = .ok (.iload_n 1, 1) := by decide +kernel
theorem dX1_firstLetter_2 : decode cX1_firstLetter 2 = .ok (.invokevirtual 54, 3) := by decide +kernel
theorem dX1_firstLetter_5 : decode cX1_firstLetter 5 = .ok (.ifCond .ne 5, 3) := by decide +kernel
theorem dX1_firstLetter_8 : decode cX1_firstLetter 8 = .ok (.iconst (-1), 1) := by decide +kernel
theorem dX1_firstLetter_9 : decode cX1_firstLetter 9 = .ok (.ireturn, 1) := by decide +kernel
theorem dX1_firstLetter_10 : decode cX1_firstLetter 10 = .ok (.iconst 0, 1) := by decide +kernel
theorem dX1_firstLetter_11 : decode cX1_firstLetter 11 = .ok (.istore_n 2, 1) := by decide +kernel
theorem dX1_firstLetter_12 : decode cX1_firstLetter 12 = .ok (.iload_n 2, 1) := by decide +kernel
theorem dX1_firstLetter_13 : decode cX1_firstLetter 13 = .ok (.iconst 4, 1) := by decide +kernel
theorem dX1_firstLetter_14 : decode cX1_firstLetter 14 = .ok (.if_icmp .ge 50, 3) := by decide +kernel
theorem dX1_firstLetter_17 : decode cX1_firstLetter 17 = .ok (.aload_n 0, 1) := by decide +kernel
theorem dX1_firstLetter_18 : decode cX1_firstLetter 18 = .ok (.getfield 9, 3) := by decide +kernel
theorem dX1_firstLetter_21 : decode cX1_firstLetter 21 = .ok (.iload_n 1, 1) := by decide +kernel
theorem dX1_firstLetter_22 : decode cX1_firstLetter 22 = .ok (.iload_n 2, 1) := by decide +kernel
theorem dX1_firstLetter_23 : decode cX1_firstLetter 23 = .ok (.invokevirtual 47, 3) := by decide +kernel
theorem dX1_firstLetter_26 : decode cX1_firstLetter 26 = .ok (.istore_n 3, 1) := by decide +kernel
theorem dX1_firstLetter_27 : decode cX1_firstLetter 27 = .ok (.aload_n 0, 1) := by decide +kernel
theorem dX1_firstLetter_28 : decode cX1_firstLetter 28 = .ok (.iload_n 3, 1) := by decide +kernel
theorem dX1_firstLetter_29 : decode cX1_firstLetter 29 = .ok (.invokevirtual 54, 3) := by decide +kernel
theorem dX1_firstLetter_32 : decode cX1_firstLetter 32 = .ok (.ifCond .eq 26, 3) := by decide +kernel
theorem dX1_firstLetter_35 : decode cX1_firstLetter 35 = .ok (.aload_n 0, 1) := by decide +kernel
theorem dX1_firstLetter_36 : decode cX1_firstLetter 36 = .ok (.getfield 15, 3) := by decide +kernel
theorem dX1_firstLetter_39 : decode cX1_firstLetter 39 = .ok (.iload_n 3, 1) := by decide +kernel
theorem dX1_firstLetter_40 : decode cX1_firstLetter 40 = .ok (.iaload, 1) := by decide +kernel
theorem dX1_firstLetter_41 : decode cX1_firstLetter 41 = .ok (.aload_n 0, 1) := by decide +kernel
theorem dX1_firstLetter_42 : decode cX1_firstLetter 42 = .ok (.iload_n 3, 1) := by decide +kernel
theorem dX1_firstLetter_43 : decode cX1_firstLetter 43 = .ok (.invokevirtual 43, 3) := by decide +kernel
theorem dX1_firstLetter_46 : decode cX1_firstLetter 46 = .ok (.iadd, 1) := by decide +kernel
theorem dX1_firstLetter_47 : decode cX1_firstLetter 47 = .ok (.aload_n 0, 1) := by decide +kernel
theorem dX1_firstLetter_48 : decode cX1_firstLetter 48 = .ok (.getfield 15, 3) := by decide +kernel
theorem dX1_firstLetter_51 : decode cX1_firstLetter 51 = .ok (.iload_n 1, 1) := by decide +kernel
theorem dX1_firstLetter_52 : decode cX1_firstLetter 52 = .ok (.iaload, 1) := by decide +kernel
theorem dX1_firstLetter_53 : decode cX1_firstLetter 53 = .ok (.if_icmp .ne 5, 3) := by decide +kernel
theorem dX1_firstLetter_56 : decode cX1_firstLetter 56 = .ok (.iload_n 2, 1) := by decide +kernel
theorem dX1_firstLetter_57 : decode cX1_firstLetter 57 = .ok (.ireturn, 1) := by decide +kernel
theorem dX1_firstLetter_58 : decode cX1_firstLetter 58 = .ok (.iinc 2 1, 3) := by decide +kernel
theorem dX1_firstLetter_61 : decode cX1_firstLetter 61 = .ok (.goto (-49), 3) := by decide +kernel
theorem dX1_firstLetter_64 : decode cX1_firstLetter 64 = .ok (.iconst (-1), 1) := by decide +kernel
theorem dX1_firstLetter_65 : decode cX1_firstLetter 65 = .ok (.ireturn, 1) := by decide +kernel
theorem dX2_init_0 : decode cX2_init 0 = .ok (.aload_n 0, 1) := by decide +kernel
theorem dX2_init_1 : decode cX2_init 1 = .ok (.invokespecial 3, 3) := by decide +kernel
theorem dX2_init_4 : decode cX2_init 4 = .ok (.aload_n 0, 1) := by decide +kernel
theorem dX2_init_5 : decode cX2_init 5 = .ok (.bipush 64, 2) := by decide +kernel
theorem dX2_init_7 : decode cX2_init 7 = .ok (.newarray .int, 2) := by decide +kernel
theorem dX2_init_9 : decode cX2_init 9 = .ok (.putfield 9, 3) := by decide +kernel
theorem dX2_init_12 : decode cX2_init 12 = .ok (.aload_n 0, 1) := by decide +kernel
theorem dX2_init_13 : decode cX2_init 13 = .ok (.sipush 256, 3) := by decide +kernel
theorem dX2_init_16 : decode cX2_init 16 = .ok (.newarray .int, 2) := by decide +kernel
theorem dX2_init_18 : decode cX2_init 18 = .ok (.putfield 15, 3) := by decide +kernel
theorem dX2_init_21 : decode cX2_init 21 = .ok (.aload_n 0, 1) := by decide +kernel
theorem dX2_init_22 : decode cX2_init 22 = .ok (.getfield 9, 3) := by decide +kernel
theorem dX2_init_25 : decode cX2_init 25 = .ok (.iconst (-1), 1) := by decide +kernel
theorem dX2_init_26 : decode cX2_init 26 = .ok (.invokestatic 18, 3) := by decide +kernel
theorem dX2_init_29 : decode cX2_init 29 = .ok (.aload_n 0, 1) := by decide +kernel
theorem dX2_init_30 : decode cX2_init 30 = .ok (.getfield 15, 3) := by decide +kernel
theorem dX2_init_33 : decode cX2_init 33 = .ok (.iconst (-1), 1) := by decide +kernel
theorem dX2_init_34 : decode cX2_init 34 = .ok (.invokestatic 18, 3) := by decide +kernel
theorem dX2_init_37 : decode cX2_init 37 = .ok (.aload_n 0, 1) := by decide +kernel
theorem dX2_init_38 : decode cX2_init 38 = .ok (.iconst 0, 1) := by decide +kernel
theorem dX2_init_39 : decode cX2_init 39 = .ok (.putfield 24, 3) := by decide +kernel
theorem dX2_init_42 : decode cX2_init 42 = .ok (.return_, 1) := by decide +kernel
theorem dX2_isCell_0 : decode cX2_isCell 0 = .ok (.iload_n 0, 1) := by decide +kernel
theorem dX2_isCell_1 : decode cX2_isCell 1 = .ok (.ifCond .lt 13, 3) := by decide +kernel
theorem dX2_isCell_4 : decode cX2_isCell 4 = .ok (.iload_n 0, 1) := by decide +kernel
theorem dX2_isCell_5 : decode cX2_isCell 5 = .ok (.bipush 64, 2) := by decide +kernel
theorem dX2_isCell_7 : decode cX2_isCell 7 = .ok (.if_icmp .ge 7, 3) := by decide +kernel
theorem dX2_isCell_10 : decode cX2_isCell 10 = .ok (.iconst 1, 1) := by decide +kernel
theorem dX2_isCell_11 : decode cX2_isCell 11 = .ok (.goto 4, 3) := by decide +kernel
theorem dX2_isCell_14 : decode cX2_isCell 14 = .ok (.iconst 0, 1) := by decide +kernel
theorem dX2_isCell_15 : decode cX2_isCell 15 = .ok (.ireturn, 1) := by decide +kernel
theorem dX2_isPlace_0 : decode cX2_isPlace 0 = .ok (.iload_n 1, 1) := by decide +kernel
theorem dX2_isPlace_1 : decode cX2_isPlace 1 = .ok (.ifCond .lt 23, 3) := by decide +kernel
theorem dX2_isPlace_4 : decode cX2_isPlace 4 = .ok (.iload_n 1, 1) := by decide +kernel
theorem dX2_isPlace_5 : decode cX2_isPlace 5 = .ok (.bipush 64, 2) := by decide +kernel
theorem dX2_isPlace_7 : decode cX2_isPlace 7 = .ok (.if_icmp .ge 17, 3) := by decide +kernel
theorem dX2_isPlace_10 : decode cX2_isPlace 10 = .ok (.aload_n 0, 1) := by decide +kernel
theorem dX2_isPlace_11 : decode cX2_isPlace 11 = .ok (.getfield 9, 3) := by decide +kernel
theorem dX2_isPlace_14 : decode cX2_isPlace 14 = .ok (.iload_n 1, 1) := by decide +kernel
theorem dX2_isPlace_15 : decode cX2_isPlace 15 = .ok (.iaload, 1) := by decide +kernel
theorem dX2_isPlace_16 : decode cX2_isPlace 16 = .ok (.iconst (-1), 1) := by decide +kernel
theorem dX2_isPlace_17 : decode cX2_isPlace 17 = .ok (.if_icmp .eq 7, 3) := by decide +kernel
theorem dX2_isPlace_20 : decode cX2_isPlace 20 = .ok (.iconst 1, 1) := by decide +kernel
theorem dX2_isPlace_21 : decode cX2_isPlace 21 = .ok (.goto 4, 3) := by decide +kernel
theorem dX2_isPlace_24 : decode cX2_isPlace 24 = .ok (.iconst 0, 1) := by decide +kernel
theorem dX2_isPlace_25 : decode cX2_isPlace 25 = .ok (.ireturn, 1) := by decide +kernel
theorem dX2_densityOf_0 : decode cX2_densityOf 0 = .ok (.iload_n 1, 1) := by decide +kernel
theorem dX2_densityOf_1 : decode cX2_densityOf 1 = .ok (.ifCond .lt 28, 3) := by decide +kernel
theorem dX2_densityOf_4 : decode cX2_densityOf 4 = .ok (.iload_n 1, 1) := by decide +kernel
theorem dX2_densityOf_5 : decode cX2_densityOf 5 = .ok (.bipush 64, 2) := by decide +kernel
theorem dX2_densityOf_7 : decode cX2_densityOf 7 = .ok (.if_icmp .ge 22, 3) := by decide +kernel
theorem dX2_densityOf_10 : decode cX2_densityOf 10 = .ok (.aload_n 0, 1) := by decide +kernel
theorem dX2_densityOf_11 : decode cX2_densityOf 11 = .ok (.getfield 9, 3) := by decide +kernel
theorem dX2_densityOf_14 : decode cX2_densityOf 14 = .ok (.iload_n 1, 1) := by decide +kernel
theorem dX2_densityOf_15 : decode cX2_densityOf 15 = .ok (.iaload, 1) := by decide +kernel
theorem dX2_densityOf_16 : decode cX2_densityOf 16 = .ok (.iconst (-1), 1) := by decide +kernel
theorem dX2_densityOf_17 : decode cX2_densityOf 17 = .ok (.if_icmp .eq 12, 3) := by decide +kernel
theorem dX2_densityOf_20 : decode cX2_densityOf 20 = .ok (.aload_n 0, 1) := by decide +kernel
theorem dX2_densityOf_21 : decode cX2_densityOf 21 = .ok (.getfield 9, 3) := by decide +kernel
theorem dX2_densityOf_24 : decode cX2_densityOf 24 = .ok (.iload_n 1, 1) := by decide +kernel
theorem dX2_densityOf_25 : decode cX2_densityOf 25 = .ok (.iaload, 1) := by decide +kernel
theorem dX2_densityOf_26 : decode cX2_densityOf 26 = .ok (.goto 4, 3) := by decide +kernel
theorem dX2_densityOf_29 : decode cX2_densityOf 29 = .ok (.iconst 0, 1) := by decide +kernel
theorem dX2_densityOf_30 : decode cX2_densityOf 30 = .ok (.ireturn, 1) := by decide +kernel
theorem dX2_beside_0 : decode cX2_beside 0 = .ok (.iload_n 1, 1) := by decide +kernel
theorem dX2_beside_1 : decode cX2_beside 1 = .ok (.iconst 4, 1) := by decide +kernel
theorem dX2_beside_2 : decode cX2_beside 2 = .ok (.imul, 1) := by decide +kernel
theorem dX2_beside_3 : decode cX2_beside 3 = .ok (.iload_n 2, 1) := by decide +kernel
theorem dX2_beside_4 : decode cX2_beside 4 = .ok (.iadd, 1) := by decide +kernel
theorem dX2_beside_5 : decode cX2_beside 5 = .ok (.istore_n 3, 1) := by decide +kernel
theorem dX2_beside_6 : decode cX2_beside 6 = .ok (.iload_n 3, 1) := by decide +kernel
theorem dX2_beside_7 : decode cX2_beside 7 = .ok (.ifCond .lt 19, 3) := by decide +kernel
theorem dX2_beside_10 : decode cX2_beside 10 = .ok (.iload_n 3, 1) := by decide +kernel
theorem dX2_beside_11 : decode cX2_beside 11 = .ok (.sipush 256, 3) := by decide +kernel
theorem dX2_beside_14 : decode cX2_beside 14 = .ok (.if_icmp .ge 12, 3) := by decide +kernel
theorem dX2_beside_17 : decode cX2_beside 17 = .ok (.aload_n 0, 1) := by decide +kernel
theorem dX2_beside_18 : decode cX2_beside 18 = .ok (.getfield 15, 3) := by decide +kernel
theorem dX2_beside_21 : decode cX2_beside 21 = .ok (.iload_n 3, 1) := by decide +kernel
theorem dX2_beside_22 : decode cX2_beside 22 = .ok (.iaload, 1) := by decide +kernel
theorem dX2_beside_23 : decode cX2_beside 23 = .ok (.goto 4, 3) := by decide +kernel
theorem dX2_beside_26 : decode cX2_beside 26 = .ok (.iconst (-1), 1) := by decide +kernel
theorem dX2_beside_27 : decode cX2_beside 27 = .ok (.ireturn, 1) := by decide +kernel
theorem dX2_takeText_0 : decode cX2_takeText 0 = .ok (.aload_n 0, 1) := by decide +kernel
theorem dX2_takeText_1 : decode cX2_takeText 1 = .ok (.getfield 9, 3) := by decide +kernel
theorem dX2_takeText_4 : decode cX2_takeText 4 = .ok (.iconst (-1), 1) := by decide +kernel
theorem dX2_takeText_5 : decode cX2_takeText 5 = .ok (.invokestatic 18, 3) := by decide +kernel
theorem dX2_takeText_8 : decode cX2_takeText 8 = .ok (.aload_n 0, 1) := by decide +kernel
theorem dX2_takeText_9 : decode cX2_takeText 9 = .ok (.getfield 15, 3) := by decide +kernel
theorem dX2_takeText_12 : decode cX2_takeText 12 = .ok (.iconst (-1), 1) := by decide +kernel
theorem dX2_takeText_13 : decode cX2_takeText 13 = .ok (.invokestatic 18, 3) := by decide +kernel
theorem dX2_takeText_16 : decode cX2_takeText 16 = .ok (.aload_n 0, 1) := by decide +kernel
theorem dX2_takeText_17 : decode cX2_takeText 17 = .ok (.iconst 0, 1) := by decide +kernel
theorem dX2_takeText_18 : decode cX2_takeText 18 = .ok (.putfield 24, 3) := by decide +kernel
theorem dX2_takeText_21 : decode cX2_takeText 21 = .ok (.aload_n 0, 1) := by decide +kernel
theorem dX2_takeText_22 : decode cX2_takeText 22 = .ok (.aload_n 1, 1) := by decide +kernel
theorem dX2_takeText_23 : decode cX2_takeText 23 = .ok (.invokevirtual 28, 3) := by decide +kernel
theorem dX2_takeText_26 : decode cX2_takeText 26 = .ok (.istore_n 2, 1) := by decide +kernel
theorem dX2_takeText_27 : decode cX2_takeText 27 = .ok (.iload_n 2, 1) := by decide +kernel
theorem dX2_takeText_28 : decode cX2_takeText 28 = .ok (.iconst (-1), 1) := by decide +kernel
theorem dX2_takeText_29 : decode cX2_takeText 29 = .ok (.if_icmp .ne 10, 3) := by decide +kernel
theorem dX2_takeText_32 : decode cX2_takeText 32 = .ok (.aload_n 0, 1) := by decide +kernel
theorem dX2_takeText_33 : decode cX2_takeText 33 = .ok (.invokevirtual 32, 3) := by decide +kernel
theorem dX2_takeText_36 : decode cX2_takeText 36 = .ok (.goto 11, 3) := by decide +kernel
theorem dX2_takeText_39 : decode cX2_takeText 39 = .ok (.aload_n 0, 1) := by decide +kernel
theorem dX2_takeText_40 : decode cX2_takeText 40 = .ok (.getfield 9, 3) := by decide +kernel
theorem dX2_takeText_43 : decode cX2_takeText 43 = .ok (.iconst (-1), 1) := by decide +kernel
theorem dX2_takeText_44 : decode cX2_takeText 44 = .ok (.invokestatic 18, 3) := by decide +kernel
theorem dX2_takeText_47 : decode cX2_takeText 47 = .ok (.iload_n 2, 1) := by decide +kernel
theorem dX2_takeText_48 : decode cX2_takeText 48 = .ok (.ireturn, 1) := by decide +kernel
theorem dX2_layRows_0 : decode cX2_layRows 0 = .ok (.iconst 0, 1) := by decide +kernel
theorem dX2_layRows_1 : decode cX2_layRows 1 = .ok (.istore_n 2, 1) := by decide +kernel
theorem dX2_layRows_2 : decode cX2_layRows 2 = .ok (.iconst 0, 1) := by decide +kernel
theorem dX2_layRows_3 : decode cX2_layRows 3 = .ok (.istore_n 3, 1) := by decide +kernel
theorem dX2_layRows_4 : decode cX2_layRows 4 = .ok (.bipush 8, 2) := by decide +kernel
theorem dX2_layRows_6 : decode cX2_layRows 6 = .ok (.istore 4, 2) := by decide +kernel
theorem dX2_layRows_8 : decode cX2_layRows 8 = .ok (.iconst 0, 1) := by decide +kernel
theorem dX2_layRows_9 : decode cX2_layRows 9 = .ok (.istore 5, 2) := by decide +kernel
theorem dX2_layRows_11 : decode cX2_layRows 11 = .ok (.iload 5, 2) := by decide +kernel
theorem dX2_layRows_13 : decode cX2_layRows 13 = .ok (.aload_n 1, 1) := by decide +kernel
theorem dX2_layRows_14 : decode cX2_layRows 14 = .ok (.getfield 35, 3) := by decide +kernel
theorem dX2_layRows_17 : decode cX2_layRows 17 = .ok (.if_icmp .ge 131, 3) := by decide +kernel
theorem dX2_layRows_20 : decode cX2_layRows 20 = .ok (.aload_n 1, 1) := by decide +kernel
theorem dX2_layRows_21 : decode cX2_layRows 21 = .ok (.iload 5, 2) := by decide +kernel
theorem dX2_layRows_23 : decode cX2_layRows 23 = .ok (.invokevirtual 40, 3) := by decide +kernel
theorem dX2_layRows_26 : decode cX2_layRows 26 = .ok (.istore 6, 2) := by decide +kernel
theorem dX2_layRows_28 : decode cX2_layRows 28 = .ok (.iload_n 2, 1) := by decide +kernel
theorem dX2_layRows_29 : decode cX2_layRows 29 = .ok (.bipush 8, 2) := by decide +kernel
theorem dX2_layRows_31 : decode cX2_layRows 31 = .ok (.if_icmp .lt 6, 3) := by decide +kernel
theorem dX2_layRows_34 : decode cX2_layRows 34 = .ok (.iload 5, 2) := by decide +kernel
theorem dX2_layRows_36 : decode cX2_layRows 36 = .ok (.ireturn, 1) := by decide +kernel
theorem dX2_layRows_37 : decode cX2_layRows 37 = .ok (.iload 6, 2) := by decide +kernel
theorem dX2_layRows_39 : decode cX2_layRows 39 = .ok (.bipush 59, 2) := by decide +kernel
theorem dX2_layRows_41 : decode cX2_layRows 41 = .ok (.if_icmp .ne 31, 3) := by decide +kernel
theorem dX2_layRows_44 : decode cX2_layRows 44 = .ok (.iload_n 3, 1) := by decide +kernel
theorem dX2_layRows_45 : decode cX2_layRows 45 = .ok (.ifCond .eq 13, 3) := by decide +kernel
theorem dX2_layRows_48 : decode cX2_layRows 48 = .ok (.iload_n 2, 1) := by decide +kernel
theorem dX2_layRows_49 : decode cX2_layRows 49 = .ok (.ifCond .le 12, 3) := by decide +kernel
theorem dX2_layRows_52 : decode cX2_layRows 52 = .ok (.iload_n 3, 1) := by decide +kernel
theorem dX2_layRows_53 : decode cX2_layRows 53 = .ok (.iload 4, 2) := by decide +kernel
theorem dX2_layRows_55 : decode cX2_layRows 55 = .ok (.if_icmp .ge 6, 3) := by decide +kernel
theorem dX2_layRows_58 : decode cX2_layRows 58 = .ok (.iload 5, 2) := by decide +kernel
theorem dX2_layRows_60 : decode cX2_layRows 60 = .ok (.ireturn, 1) := by decide +kernel
theorem dX2_layRows_61 : decode cX2_layRows 61 = .ok (.iload_n 3, 1) := by decide +kernel
theorem dX2_layRows_62 : decode cX2_layRows 62 = .ok (.istore 4, 2) := by decide +kernel
theorem dX2_layRows_64 : decode cX2_layRows 64 = .ok (.iinc 2 1, 3) := by decide +kernel
theorem dX2_layRows_67 : decode cX2_layRows 67 = .ok (.iconst 0, 1) := by decide +kernel
theorem dX2_layRows_68 : decode cX2_layRows 68 = .ok (.istore_n 3, 1) := by decide +kernel
theorem dX2_layRows_69 : decode cX2_layRows 69 = .ok (.goto 73, 3) := by decide +kernel
theorem dX2_layRows_72 : decode cX2_layRows 72 = .ok (.iload 6, 2) := by decide +kernel
theorem dX2_layRows_74 : decode cX2_layRows 74 = .ok (.bipush 48, 2) := by decide +kernel
theorem dX2_layRows_76 : decode cX2_layRows 76 = .ok (.if_icmp .lt 14, 3) := by decide +kernel
theorem dX2_layRows_79 : decode cX2_layRows 79 = .ok (.iload 6, 2) := by decide +kernel
theorem dX2_layRows_81 : decode cX2_layRows 81 = .ok (.bipush 57, 2) := by decide +kernel
theorem dX2_layRows_83 : decode cX2_layRows 83 = .ok (.if_icmp .gt 7, 3) := by decide +kernel
theorem dX2_layRows_86 : decode cX2_layRows 86 = .ok (.iconst 1, 1) := by decide +kernel
theorem dX2_layRows_87 : decode cX2_layRows 87 = .ok (.goto 4, 3) := by decide +kernel
theorem dX2_layRows_90 : decode cX2_layRows 90 = .ok (.iconst 0, 1) := by decide +kernel
theorem dX2_layRows_91 : decode cX2_layRows 91 = .ok (.istore 7, 2) := by decide +kernel
theorem dX2_layRows_93 : decode cX2_layRows 93 = .ok (.iload_n 3, 1) := by decide +kernel
theorem dX2_layRows_94 : decode cX2_layRows 94 = .ok (.iload 4, 2) := by decide +kernel
theorem dX2_layRows_96 : decode cX2_layRows 96 = .ok (.if_icmp .ge 15, 3) := by decide +kernel
theorem dX2_layRows_99 : decode cX2_layRows 99 = .ok (.iload 7, 2) := by decide +kernel
theorem dX2_layRows_101 : decode cX2_layRows 101 = .ok (.ifCond .ne 13, 3) := by decide +kernel
theorem dX2_layRows_104 : decode cX2_layRows 104 = .ok (.iload 6, 2) := by decide +kernel
theorem dX2_layRows_106 : decode cX2_layRows 106 = .ok (.bipush 35, 2) := by decide +kernel
theorem dX2_layRows_108 : decode cX2_layRows 108 = .ok (.if_icmp .eq 6, 3) := by decide +kernel
theorem dX2_layRows_111 : decode cX2_layRows 111 = .ok (.iload 5, 2) := by decide +kernel
theorem dX2_layRows_113 : decode cX2_layRows 113 = .ok (.ireturn, 1) := by decide +kernel
theorem dX2_layRows_114 : decode cX2_layRows 114 = .ok (.aload_n 0, 1) := by decide +kernel
theorem dX2_layRows_115 : decode cX2_layRows 115 = .ok (.getfield 9, 3) := by decide +kernel
theorem dX2_layRows_118 : decode cX2_layRows 118 = .ok (.bipush 8, 2) := by decide +kernel
theorem dX2_layRows_120 : decode cX2_layRows 120 = .ok (.iload_n 2, 1) := by decide +kernel
theorem dX2_layRows_121 : decode cX2_layRows 121 = .ok (.imul, 1) := by decide +kernel
theorem dX2_layRows_122 : decode cX2_layRows 122 = .ok (.iload_n 3, 1) := by decide +kernel
theorem dX2_layRows_123 : decode cX2_layRows 123 = .ok (.iadd, 1) := by decide +kernel
theorem dX2_layRows_124 : decode cX2_layRows 124 = .ok (.iload 7, 2) := by decide +kernel
theorem dX2_layRows_126 : decode cX2_layRows 126 = .ok (.ifCond .eq 11, 3) := by decide +kernel
theorem dX2_layRows_129 : decode cX2_layRows 129 = .ok (.iload 6, 2) := by decide +kernel
theorem dX2_layRows_131 : decode cX2_layRows 131 = .ok (.bipush 48, 2) := by decide +kernel
theorem dX2_layRows_133 : decode cX2_layRows 133 = .ok (.isub, 1) := by decide +kernel
theorem dX2_layRows_134 : decode cX2_layRows 134 = .ok (.goto 4, 3) := by decide +kernel
theorem dX2_layRows_137 : decode cX2_layRows 137 = .ok (.iconst (-1), 1) := by decide +kernel
theorem dX2_layRows_138 : decode cX2_layRows 138 = .ok (.iastore, 1) := by decide +kernel
theorem dX2_layRows_139 : decode cX2_layRows 139 = .ok (.iinc 3 1, 3) := by decide +kernel
theorem dX2_layRows_142 : decode cX2_layRows 142 = .ok (.iinc 5 1, 3) := by decide +kernel
theorem dX2_layRows_145 : decode cX2_layRows 145 = .ok (.goto (-134), 3) := by decide +kernel
theorem dX2_layRows_148 : decode cX2_layRows 148 = .ok (.iload_n 2, 1) := by decide +kernel
theorem dX2_layRows_149 : decode cX2_layRows 149 = .ok (.ifCond .le 16, 3) := by decide +kernel
theorem dX2_layRows_152 : decode cX2_layRows 152 = .ok (.iload_n 3, 1) := by decide +kernel
theorem dX2_layRows_153 : decode cX2_layRows 153 = .ok (.iload 4, 2) := by decide +kernel
theorem dX2_layRows_155 : decode cX2_layRows 155 = .ok (.if_icmp .ge 10, 3) := by decide +kernel
theorem dX2_layRows_158 : decode cX2_layRows 158 = .ok (.aload_n 1, 1) := by decide +kernel
theorem dX2_layRows_159 : decode cX2_layRows 159 = .ok (.getfield 35, 3) := by decide +kernel
theorem dX2_layRows_162 : decode cX2_layRows 162 = .ok (.goto 4, 3) := by decide +kernel
theorem dX2_layRows_165 : decode cX2_layRows 165 = .ok (.iconst (-1), 1) := by decide +kernel
theorem dX2_layRows_166 : decode cX2_layRows 166 = .ok (.ireturn, 1) := by decide +kernel
theorem dX2_link_0 : decode cX2_link 0 = .ok (.iconst 0, 1) := by decide +kernel
theorem dX2_link_1 : decode cX2_link 1 = .ok (.istore_n 1, 1) := by decide +kernel
theorem dX2_link_2 : decode cX2_link 2 = .ok (.iload_n 1, 1) := by decide +kernel
theorem dX2_link_3 : decode cX2_link 3 = .ok (.bipush 64, 2) := by decide +kernel
theorem dX2_link_5 : decode cX2_link 5 = .ok (.if_icmp .ge 115, 3) := by decide +kernel
theorem dX2_link_8 : decode cX2_link 8 = .ok (.aload_n 0, 1) := by decide +kernel
theorem dX2_link_9 : decode cX2_link 9 = .ok (.iload_n 1, 1) := by decide +kernel
theorem dX2_link_10 : decode cX2_link 10 = .ok (.invokevirtual 44, 3) := by decide +kernel
theorem dX2_link_13 : decode cX2_link 13 = .ok (.ifCond .eq 101, 3) := by decide +kernel
theorem dX2_link_16 : decode cX2_link 16 = .ok (.aload_n 0, 1) := by decide +kernel
theorem dX2_link_17 : decode cX2_link 17 = .ok (.dup, 1) := by decide +kernel
theorem dX2_link_18 : decode cX2_link 18 = .ok (.getfield 24, 3) := by decide +kernel
theorem dX2_link_21 : decode cX2_link 21 = .ok (.iconst 1, 1) := by decide +kernel
theorem dX2_link_22 : decode cX2_link 22 = .ok (.iadd, 1) := by decide +kernel
theorem dX2_link_23 : decode cX2_link 23 = .ok (.putfield 24, 3) := by decide +kernel
theorem dX2_link_26 : decode cX2_link 26 = .ok (.iload_n 1, 1) := by decide +kernel
theorem dX2_link_27 : decode cX2_link 27 = .ok (.iconst 4, 1) := by decide +kernel
theorem dX2_link_28 : decode cX2_link 28 = .ok (.imul, 1) := by decide +kernel
theorem dX2_link_29 : decode cX2_link 29 = .ok (.istore_n 2, 1) := by decide +kernel
theorem dX2_link_30 : decode cX2_link 30 = .ok (.aload_n 0, 1) := by decide +kernel
theorem dX2_link_31 : decode cX2_link 31 = .ok (.getfield 15, 3) := by decide +kernel
theorem dX2_link_34 : decode cX2_link 34 = .ok (.iload_n 2, 1) := by decide +kernel
theorem dX2_link_35 : decode cX2_link 35 = .ok (.aload_n 0, 1) := by decide +kernel
theorem dX2_link_36 : decode cX2_link 36 = .ok (.iload_n 1, 1) := by decide +kernel
theorem dX2_link_37 : decode cX2_link 37 = .ok (.bipush 8, 2) := by decide +kernel
theorem dX2_link_39 : decode cX2_link 39 = .ok (.isub, 1) := by decide +kernel
theorem dX2_link_40 : decode cX2_link 40 = .ok (.invokevirtual 48, 3) := by decide +kernel
theorem dX2_link_43 : decode cX2_link 43 = .ok (.iastore, 1) := by decide +kernel
theorem dX2_link_44 : decode cX2_link 44 = .ok (.aload_n 0, 1) := by decide +kernel
theorem dX2_link_45 : decode cX2_link 45 = .ok (.getfield 15, 3) := by decide +kernel
theorem dX2_link_48 : decode cX2_link 48 = .ok (.iload_n 2, 1) := by decide +kernel
theorem dX2_link_49 : decode cX2_link 49 = .ok (.iconst 1, 1) := by decide +kernel
theorem dX2_link_50 : decode cX2_link 50 = .ok (.iadd, 1) := by decide +kernel
theorem dX2_link_51 : decode cX2_link 51 = .ok (.iload_n 1, 1) := by decide +kernel
theorem dX2_link_52 : decode cX2_link 52 = .ok (.bipush 8, 2) := by decide +kernel
theorem dX2_link_54 : decode cX2_link 54 = .ok (.irem, 1) := by decide +kernel
theorem dX2_link_55 : decode cX2_link 55 = .ok (.bipush 7, 2) := by decide +kernel
theorem dX2_link_57 : decode cX2_link 57 = .ok (.if_icmp .ne 7, 3) := by decide +kernel
theorem dX2_link_60 : decode cX2_link 60 = .ok (.iconst (-1), 1) := by decide +kernel
theorem dX2_link_61 : decode cX2_link 61 = .ok (.goto 10, 3) := by decide +kernel
theorem dX2_link_64 : decode cX2_link 64 = .ok (.aload_n 0, 1) := by decide +kernel
theorem dX2_link_65 : decode cX2_link 65 = .ok (.iload_n 1, 1) := by decide +kernel
theorem dX2_link_66 : decode cX2_link 66 = .ok (.iconst 1, 1) := by decide +kernel
theorem dX2_link_67 : decode cX2_link 67 = .ok (.iadd, 1) := by decide +kernel
theorem dX2_link_68 : decode cX2_link 68 = .ok (.invokevirtual 48, 3) := by decide +kernel
theorem dX2_link_71 : decode cX2_link 71 = .ok (.iastore, 1) := by decide +kernel
theorem dX2_link_72 : decode cX2_link 72 = .ok (.aload_n 0, 1) := by decide +kernel
theorem dX2_link_73 : decode cX2_link 73 = .ok (.getfield 15, 3) := by decide +kernel
theorem dX2_link_76 : decode cX2_link 76 = .ok (.iload_n 2, 1) := by decide +kernel
theorem dX2_link_77 : decode cX2_link 77 = .ok (.iconst 2, 1) := by decide +kernel
theorem dX2_link_78 : decode cX2_link 78 = .ok (.iadd, 1) := by decide +kernel
theorem dX2_link_79 : decode cX2_link 79 = .ok (.aload_n 0, 1) := by decide +kernel
theorem dX2_link_80 : decode cX2_link 80 = .ok (.iload_n 1, 1) := by decide +kernel
theorem dX2_link_81 : decode cX2_link 81 = .ok (.bipush 8, 2) := by decide +kernel
theorem dX2_link_83 : decode cX2_link 83 = .ok (.iadd, 1) := by decide +kernel
theorem dX2_link_84 : decode cX2_link 84 = .ok (.invokevirtual 48, 3) := by decide +kernel
theorem dX2_link_87 : decode cX2_link 87 = .ok (.iastore, 1) := by decide +kernel
theorem dX2_link_88 : decode cX2_link 88 = .ok (.aload_n 0, 1) := by decide +kernel
theorem dX2_link_89 : decode cX2_link 89 = .ok (.getfield 15, 3) := by decide +kernel
theorem dX2_link_92 : decode cX2_link 92 = .ok (.iload_n 2, 1) := by decide +kernel
theorem dX2_link_93 : decode cX2_link 93 = .ok (.iconst 3, 1) := by decide +kernel
theorem dX2_link_94 : decode cX2_link 94 = .ok (.iadd, 1) := by decide +kernel
theorem dX2_link_95 : decode cX2_link 95 = .ok (.iload_n 1, 1) := by decide +kernel
theorem dX2_link_96 : decode cX2_link 96 = .ok (.bipush 8, 2) := by decide +kernel
theorem dX2_link_98 : decode cX2_link 98 = .ok (.irem, 1) := by decide +kernel
theorem dX2_link_99 : decode cX2_link 99 = .ok (.ifCond .ne 7, 3) := by decide +kernel
theorem dX2_link_102 : decode cX2_link 102 = .ok (.iconst (-1), 1) := by decide +kernel
theorem dX2_link_103 : decode cX2_link 103 = .ok (.goto 10, 3) := by decide +kernel
theorem dX2_link_106 : decode cX2_link 106 = .ok (.aload_n 0, 1) := by decide +kernel
theorem dX2_link_107 : decode cX2_link 107 = .ok (.iload_n 1, 1) := by decide +kernel
theorem dX2_link_108 : decode cX2_link 108 = .ok (.iconst 1, 1) := by decide +kernel
theorem dX2_link_109 : decode cX2_link 109 = .ok (.isub, 1) := by decide +kernel
theorem dX2_link_110 : decode cX2_link 110 = .ok (.invokevirtual 48, 3) := by decide +kernel
theorem dX2_link_113 : decode cX2_link 113 = .ok (.iastore, 1) := by decide +kernel
theorem dX2_link_114 : decode cX2_link 114 = .ok (.iinc 1 1, 3) := by decide +kernel
theorem dX2_link_117 : decode cX2_link 117 = .ok (.goto (-115), 3) := by decide +kernel
theorem dX2_link_120 : decode cX2_link 120 = .ok (.return_, 1) := by decide +kernel
theorem dX2_placeOrNone_0 : decode cX2_placeOrNone 0 = .ok (.aload_n 0, 1) := by decide +kernel
theorem dX2_placeOrNone_1 : decode cX2_placeOrNone 1 = .ok (.iload_n 1, 1) := by decide +kernel
theorem dX2_placeOrNone_2 : decode cX2_placeOrNone 2 = .ok (.invokevirtual 44, 3) := by decide +kernel
theorem dX2_placeOrNone_5 : decode cX2_placeOrNone 5 = .ok (.ifCond .eq 7, 3) := by decide +kernel
theorem dX2_placeOrNone_8 : decode cX2_placeOrNone 8 = .ok (.iload_n 1, 1) := by decide +kernel
theorem dX2_placeOrNone_9 : decode cX2_placeOrNone 9 = .ok (.goto 4, 3) := by decide +kernel
theorem dX2_placeOrNone_12 : decode cX2_placeOrNone 12 = .ok (.iconst (-1), 1) := by decide +kernel
theorem dX2_placeOrNone_13 : decode cX2_placeOrNone 13 = .ok (.ireturn, 1) := by decide +kernel
theorem dX3_init_0 : decode cX3_init 0 = .ok (.aload_n 0, 1) := by decide +kernel
theorem dX3_init_1 : decode cX3_init 1 = .ok (.invokespecial 3, 3) := by decide +kernel
theorem dX3_init_4 : decode cX3_init 4 = .ok (.aload_n 0, 1) := by decide +kernel
theorem dX3_init_5 : decode cX3_init 5 = .ok (.bipush 25, 2) := by decide +kernel
theorem dX3_init_7 : decode cX3_init 7 = .ok (.newarray .int, 2) := by decide +kernel
theorem dX3_init_9 : decode cX3_init 9 = .ok (.putfield 9, 3) := by decide +kernel
theorem dX3_init_12 : decode cX3_init 12 = .ok (.aload_n 0, 1) := by decide +kernel
theorem dX3_init_13 : decode cX3_init 13 = .ok (.iconst 5, 1) := by decide +kernel
theorem dX3_init_14 : decode cX3_init 14 = .ok (.newarray .int, 2) := by decide +kernel
theorem dX3_init_16 : decode cX3_init 16 = .ok (.putfield 15, 3) := by decide +kernel
theorem dX3_init_19 : decode cX3_init 19 = .ok (.aload_n 0, 1) := by decide +kernel
theorem dX3_init_20 : decode cX3_init 20 = .ok (.iconst 5, 1) := by decide +kernel
theorem dX3_init_21 : decode cX3_init 21 = .ok (.newarray .int, 2) := by decide +kernel
theorem dX3_init_23 : decode cX3_init 23 = .ok (.putfield 18, 3) := by decide +kernel
theorem dX3_init_26 : decode cX3_init 26 = .ok (.aload_n 0, 1) := by decide +kernel
theorem dX3_init_27 : decode cX3_init 27 = .ok (.iconst 5, 1) := by decide +kernel
theorem dX3_init_28 : decode cX3_init 28 = .ok (.newarray .int, 2) := by decide +kernel
theorem dX3_init_30 : decode cX3_init 30 = .ok (.putfield 21, 3) := by decide +kernel
theorem dX3_init_33 : decode cX3_init 33 = .ok (.aload_n 0, 1) := by decide +kernel
theorem dX3_init_34 : decode cX3_init 34 = .ok (.getfield 9, 3) := by decide +kernel
theorem dX3_init_37 : decode cX3_init 37 = .ok (.bipush 8, 2) := by decide +kernel
theorem dX3_init_39 : decode cX3_init 39 = .ok (.invokestatic 24, 3) := by decide +kernel
theorem dX3_init_42 : decode cX3_init 42 = .ok (.aload_n 0, 1) := by decide +kernel
theorem dX3_init_43 : decode cX3_init 43 = .ok (.getfield 15, 3) := by decide +kernel
theorem dX3_init_46 : decode cX3_init 46 = .ok (.bipush 8, 2) := by decide +kernel
theorem dX3_init_48 : decode cX3_init 48 = .ok (.invokestatic 24, 3) := by decide +kernel
theorem dX3_init_51 : decode cX3_init 51 = .ok (.aload_n 0, 1) := by decide +kernel
theorem dX3_init_52 : decode cX3_init 52 = .ok (.iconst 0, 1) := by decide +kernel
theorem dX3_init_53 : decode cX3_init 53 = .ok (.putfield 30, 3) := by decide +kernel
theorem dX3_init_56 : decode cX3_init 56 = .ok (.return_, 1) := by decide +kernel
theorem dX3_isPerson_0 : decode cX3_isPerson 0 = .ok (.iload_n 0, 1) := by decide +kernel
theorem dX3_isPerson_1 : decode cX3_isPerson 1 = .ok (.ifCond .lt 12, 3) := by decide +kernel
theorem dX3_isPerson_4 : decode cX3_isPerson 4 = .ok (.iload_n 0, 1) := by decide +kernel
theorem dX3_isPerson_5 : decode cX3_isPerson 5 = .ok (.iconst 5, 1) := by decide +kernel
theorem dX3_isPerson_6 : decode cX3_isPerson 6 = .ok (.if_icmp .ge 7, 3) := by decide +kernel
theorem dX3_isPerson_9 : decode cX3_isPerson 9 = .ok (.iconst 1, 1) := by decide +kernel
theorem dX3_isPerson_10 : decode cX3_isPerson 10 = .ok (.goto 4, 3) := by decide +kernel
theorem dX3_isPerson_13 : decode cX3_isPerson 13 = .ok (.iconst 0, 1) := by decide +kernel
theorem dX3_isPerson_14 : decode cX3_isPerson 14 = .ok (.ireturn, 1) := by decide +kernel
theorem dX3_gripOf_0 : decode cX3_gripOf 0 = .ok (.iload_n 1, 1) := by decide +kernel
theorem dX3_gripOf_1 : decode cX3_gripOf 1 = .ok (.ifCond .lt 21, 3) := by decide +kernel
theorem dX3_gripOf_4 : decode cX3_gripOf 4 = .ok (.iload_n 1, 1) := by decide +kernel
theorem dX3_gripOf_5 : decode cX3_gripOf 5 = .ok (.iconst 5, 1) := by decide +kernel
theorem dX3_gripOf_6 : decode cX3_gripOf 6 = .ok (.if_icmp .ge 16, 3) := by decide +kernel
theorem dX3_gripOf_9 : decode cX3_gripOf 9 = .ok (.iload_n 2, 1) := by decide +kernel
theorem dX3_gripOf_10 : decode cX3_gripOf 10 = .ok (.ifCond .lt 12, 3) := by decide +kernel
theorem dX3_gripOf_13 : decode cX3_gripOf 13 = .ok (.iload_n 2, 1) := by decide +kernel
theorem dX3_gripOf_14 : decode cX3_gripOf 14 = .ok (.iconst 5, 1) := by decide +kernel
theorem dX3_gripOf_15 : decode cX3_gripOf 15 = .ok (.if_icmp .ge 7, 3) := by decide +kernel
theorem dX3_gripOf_18 : decode cX3_gripOf 18 = .ok (.iconst 1, 1) := by decide +kernel
theorem dX3_gripOf_19 : decode cX3_gripOf 19 = .ok (.goto 4, 3) := by decide +kernel
theorem dX3_gripOf_22 : decode cX3_gripOf 22 = .ok (.iconst 0, 1) := by decide +kernel
theorem dX3_gripOf_23 : decode cX3_gripOf 23 = .ok (.istore_n 3, 1) := by decide +kernel
theorem dX3_gripOf_24 : decode cX3_gripOf 24 = .ok (.iload_n 3, 1) := by decide +kernel
theorem dX3_gripOf_25 : decode cX3_gripOf 25 = .ok (.ifCond .eq 16, 3) := by decide +kernel
theorem dX3_gripOf_28 : decode cX3_gripOf 28 = .ok (.aload_n 0, 1) := by decide +kernel
theorem dX3_gripOf_29 : decode cX3_gripOf 29 = .ok (.getfield 9, 3) := by decide +kernel
theorem dX3_gripOf_32 : decode cX3_gripOf 32 = .ok (.iload_n 1, 1) := by decide +kernel
theorem dX3_gripOf_33 : decode cX3_gripOf 33 = .ok (.iconst 5, 1) := by decide +kernel
theorem dX3_gripOf_34 : decode cX3_gripOf 34 = .ok (.imul, 1) := by decide +kernel
theorem dX3_gripOf_35 : decode cX3_gripOf 35 = .ok (.iload_n 2, 1) := by decide +kernel
theorem dX3_gripOf_36 : decode cX3_gripOf 36 = .ok (.iadd, 1) := by decide +kernel
theorem dX3_gripOf_37 : decode cX3_gripOf 37 = .ok (.iaload, 1) := by decide +kernel
theorem dX3_gripOf_38 : decode cX3_gripOf 38 = .ok (.goto 4, 3) := by decide +kernel
theorem dX3_gripOf_41 : decode cX3_gripOf 41 = .ok (.iconst 0, 1) := by decide +kernel
theorem dX3_gripOf_42 : decode cX3_gripOf 42 = .ok (.ireturn, 1) := by decide +kernel
theorem dX3_putGrip_0 : decode cX3_putGrip 0 = .ok (.iload_n 1, 1) := by decide +kernel
theorem dX3_putGrip_1 : decode cX3_putGrip 1 = .ok (.invokestatic 34, 3) := by decide +kernel
theorem dX3_putGrip_4 : decode cX3_putGrip 4 = .ok (.ifCond .eq 32, 3) := by decide +kernel
theorem dX3_putGrip_7 : decode cX3_putGrip 7 = .ok (.iload_n 2, 1) := by decide +kernel
theorem dX3_putGrip_8 : decode cX3_putGrip 8 = .ok (.invokestatic 34, 3) := by decide +kernel
theorem dX3_putGrip_11 : decode cX3_putGrip 11 = .ok (.ifCond .eq 25, 3) := by decide +kernel
theorem dX3_putGrip_14 : decode cX3_putGrip 14 = .ok (.aload_n 0, 1) := by decide +kernel
theorem dX3_putGrip_15 : decode cX3_putGrip 15 = .ok (.getfield 9, 3) := by decide +kernel
theorem dX3_putGrip_18 : decode cX3_putGrip 18 = .ok (.iload_n 1, 1) := by decide +kernel
theorem dX3_putGrip_19 : decode cX3_putGrip 19 = .ok (.iconst 5, 1) := by decide +kernel
theorem dX3_putGrip_20 : decode cX3_putGrip 20 = .ok (.imul, 1) := by decide +kernel
theorem dX3_putGrip_21 : decode cX3_putGrip 21 = .ok (.iload_n 2, 1) := by decide +kernel
theorem dX3_putGrip_22 : decode cX3_putGrip 22 = .ok (.iadd, 1) := by decide +kernel
theorem dX3_putGrip_23 : decode cX3_putGrip 23 = .ok (.iload_n 3, 1) := by decide +kernel
theorem dX3_putGrip_24 : decode cX3_putGrip 24 = .ok (.iastore, 1) := by decide +kernel
theorem dX3_putGrip_25 : decode cX3_putGrip 25 = .ok (.aload_n 0, 1) := by decide +kernel
theorem dX3_putGrip_26 : decode cX3_putGrip 26 = .ok (.getfield 9, 3) := by decide +kernel
theorem dX3_putGrip_29 : decode cX3_putGrip 29 = .ok (.iload_n 2, 1) := by decide +kernel
theorem dX3_putGrip_30 : decode cX3_putGrip 30 = .ok (.iconst 5, 1) := by decide +kernel
theorem dX3_putGrip_31 : decode cX3_putGrip 31 = .ok (.imul, 1) := by decide +kernel
theorem dX3_putGrip_32 : decode cX3_putGrip 32 = .ok (.iload_n 1, 1) := by decide +kernel
theorem dX3_putGrip_33 : decode cX3_putGrip 33 = .ok (.iadd, 1) := by decide +kernel
theorem dX3_putGrip_34 : decode cX3_putGrip 34 = .ok (.iload_n 3, 1) := by decide +kernel
theorem dX3_putGrip_35 : decode cX3_putGrip 35 = .ok (.iastore, 1) := by decide +kernel
theorem dX3_putGrip_36 : decode cX3_putGrip 36 = .ok (.return_, 1) := by decide +kernel
theorem dX3_habitOf_0 : decode cX3_habitOf 0 = .ok (.iload_n 1, 1) := by decide +kernel
theorem dX3_habitOf_1 : decode cX3_habitOf 1 = .ok (.invokestatic 34, 3) := by decide +kernel
theorem dX3_habitOf_4 : decode cX3_habitOf 4 = .ok (.ifCond .eq 12, 3) := by decide +kernel
theorem dX3_habitOf_7 : decode cX3_habitOf 7 = .ok (.aload_n 0, 1) := by decide +kernel
theorem dX3_habitOf_8 : decode cX3_habitOf 8 = .ok (.getfield 15, 3) := by decide +kernel
theorem dX3_habitOf_11 : decode cX3_habitOf 11 = .ok (.iload_n 1, 1) := by decide +kernel
theorem dX3_habitOf_12 : decode cX3_habitOf 12 = .ok (.iaload, 1) := by decide +kernel
theorem dX3_habitOf_13 : decode cX3_habitOf 13 = .ok (.goto 4, 3) := by decide +kernel
theorem dX3_habitOf_16 : decode cX3_habitOf 16 = .ok (.iconst 0, 1) := by decide +kernel
theorem dX3_habitOf_17 : decode cX3_habitOf 17 = .ok (.ireturn, 1) := by decide +kernel
theorem dX3_standOf_0 : decode cX3_standOf 0 = .ok (.iload_n 1, 1) := by decide +kernel
theorem dX3_standOf_1 : decode cX3_standOf 1 = .ok (.invokestatic 34, 3) := by decide +kernel
theorem dX3_standOf_4 : decode cX3_standOf 4 = .ok (.ifCond .eq 12, 3) := by decide +kernel
theorem dX3_standOf_7 : decode cX3_standOf 7 = .ok (.aload_n 0, 1) := by decide +kernel
theorem dX3_standOf_8 : decode cX3_standOf 8 = .ok (.getfield 18, 3) := by decide +kernel
theorem dX3_standOf_11 : decode cX3_standOf 11 = .ok (.iload_n 1, 1) := by decide +kernel
theorem dX3_standOf_12 : decode cX3_standOf 12 = .ok (.iaload, 1) := by decide +kernel
theorem dX3_standOf_13 : decode cX3_standOf 13 = .ok (.goto 4, 3) := by decide +kernel
theorem dX3_standOf_16 : decode cX3_standOf 16 = .ok (.iconst (-1), 1) := by decide +kernel
theorem dX3_standOf_17 : decode cX3_standOf 17 = .ok (.ireturn, 1) := by decide +kernel
theorem dX3_takeText_0 : decode cX3_takeText 0 = .ok (.iconst 0, 1) := by decide +kernel
theorem dX3_takeText_1 : decode cX3_takeText 1 = .ok (.istore_n 2, 1) := by decide +kernel
theorem dX3_takeText_2 : decode cX3_takeText 2 = .ok (.aload_n 0, 1) := by decide +kernel
theorem dX3_takeText_3 : decode cX3_takeText 3 = .ok (.iconst 0, 1) := by decide +kernel
theorem dX3_takeText_4 : decode cX3_takeText 4 = .ok (.putfield 30, 3) := by decide +kernel
theorem dX3_takeText_7 : decode cX3_takeText 7 = .ok (.iconst 0, 1) := by decide +kernel
theorem dX3_takeText_8 : decode cX3_takeText 8 = .ok (.istore_n 3, 1) := by decide +kernel
theorem dX3_takeText_9 : decode cX3_takeText 9 = .ok (.iload_n 3, 1) := by decide +kernel
theorem dX3_takeText_10 : decode cX3_takeText 10 = .ok (.aload_n 1, 1) := by decide +kernel
theorem dX3_takeText_11 : decode cX3_takeText 11 = .ok (.getfield 38, 3) := by decide +kernel
theorem dX3_takeText_14 : decode cX3_takeText 14 = .ok (.if_icmp .ge 58, 3) := by decide +kernel
theorem dX3_takeText_17 : decode cX3_takeText 17 = .ok (.aload_n 1, 1) := by decide +kernel
theorem dX3_takeText_18 : decode cX3_takeText 18 = .ok (.iload_n 3, 1) := by decide +kernel
theorem dX3_takeText_19 : decode cX3_takeText 19 = .ok (.invokevirtual 43, 3) := by decide +kernel
theorem dX3_takeText_22 : decode cX3_takeText 22 = .ok (.bipush 97, 2) := by decide +kernel
theorem dX3_takeText_24 : decode cX3_takeText 24 = .ok (.isub, 1) := by decide +kernel
theorem dX3_takeText_25 : decode cX3_takeText 25 = .ok (.istore 4, 2) := by decide +kernel
theorem dX3_takeText_27 : decode cX3_takeText 27 = .ok (.iload 4, 2) := by decide +kernel
theorem dX3_takeText_29 : decode cX3_takeText 29 = .ok (.invokestatic 34, 3) := by decide +kernel
theorem dX3_takeText_32 : decode cX3_takeText 32 = .ok (.ifCond .eq 17, 3) := by decide +kernel
theorem dX3_takeText_35 : decode cX3_takeText 35 = .ok (.iload_n 2, 1) := by decide +kernel
theorem dX3_takeText_36 : decode cX3_takeText 36 = .ok (.iload 4, 2) := by decide +kernel
theorem dX3_takeText_38 : decode cX3_takeText 38 = .ok (.ishr, 1) := by decide +kernel
theorem dX3_takeText_39 : decode cX3_takeText 39 = .ok (.iconst 1, 1) := by decide +kernel
theorem dX3_takeText_40 : decode cX3_takeText 40 = .ok (.iand, 1) := by decide +kernel
theorem dX3_takeText_41 : decode cX3_takeText 41 = .ok (.ifCond .ne 8, 3) := by decide +kernel
theorem dX3_takeText_44 : decode cX3_takeText 44 = .ok (.iload_n 3, 1) := by decide +kernel
theorem dX3_takeText_45 : decode cX3_takeText 45 = .ok (.iconst 5, 1) := by decide +kernel
theorem dX3_takeText_46 : decode cX3_takeText 46 = .ok (.if_icmp .lt 5, 3) := by decide +kernel
theorem dX3_takeText_49 : decode cX3_takeText 49 = .ok (.iload_n 3, 1) := by decide +kernel
theorem dX3_takeText_50 : decode cX3_takeText 50 = .ok (.ireturn, 1) := by decide +kernel
theorem dX3_takeText_51 : decode cX3_takeText 51 = .ok (.iload_n 2, 1) := by decide +kernel
theorem dX3_takeText_52 : decode cX3_takeText 52 = .ok (.iconst 1, 1) := by decide +kernel
theorem dX3_takeText_53 : decode cX3_takeText 53 = .ok (.iload 4, 2) := by decide +kernel
theorem dX3_takeText_55 : decode cX3_takeText 55 = .ok (.ishl, 1) := by decide +kernel
theorem dX3_takeText_56 : decode cX3_takeText 56 = .ok (.ior, 1) := by decide +kernel
theorem dX3_takeText_57 : decode cX3_takeText 57 = .ok (.istore_n 2, 1) := by decide +kernel
theorem dX3_takeText_58 : decode cX3_takeText 58 = .ok (.aload_n 0, 1) := by decide +kernel
theorem dX3_takeText_59 : decode cX3_takeText 59 = .ok (.getfield 21, 3) := by decide +kernel
theorem dX3_takeText_62 : decode cX3_takeText 62 = .ok (.iload_n 3, 1) := by decide +kernel
theorem dX3_takeText_63 : decode cX3_takeText 63 = .ok (.iload 4, 2) := by decide +kernel
theorem dX3_takeText_65 : decode cX3_takeText 65 = .ok (.iastore, 1) := by decide +kernel
theorem dX3_takeText_66 : decode cX3_takeText 66 = .ok (.iinc 3 1, 3) := by decide +kernel
theorem dX3_takeText_69 : decode cX3_takeText 69 = .ok (.goto (-60), 3) := by decide +kernel
theorem dX3_takeText_72 : decode cX3_takeText 72 = .ok (.aload_n 0, 1) := by decide +kernel
theorem dX3_takeText_73 : decode cX3_takeText 73 = .ok (.aload_n 1, 1) := by decide +kernel
theorem dX3_takeText_74 : decode cX3_takeText 74 = .ok (.getfield 38, 3) := by decide +kernel
theorem dX3_takeText_77 : decode cX3_takeText 77 = .ok (.putfield 30, 3) := by decide +kernel
theorem dX3_takeText_80 : decode cX3_takeText 80 = .ok (.iconst (-1), 1) := by decide +kernel
theorem dX3_takeText_81 : decode cX3_takeText 81 = .ok (.ireturn, 1) := by decide +kernel
theorem dX3_whoGoes_0 : decode cX3_whoGoes 0 = .ok (.iload_n 1, 1) := by decide +kernel
theorem dX3_whoGoes_1 : decode cX3_whoGoes 1 = .ok (.ifCond .lt 25, 3) := by decide +kernel
theorem dX3_whoGoes_4 : decode cX3_whoGoes 4 = .ok (.iload_n 1, 1) := by decide +kernel
theorem dX3_whoGoes_5 : decode cX3_whoGoes 5 = .ok (.aload_n 0, 1) := by decide +kernel
theorem dX3_whoGoes_6 : decode cX3_whoGoes 6 = .ok (.getfield 30, 3) := by decide +kernel
theorem dX3_whoGoes_9 : decode cX3_whoGoes 9 = .ok (.if_icmp .ge 17, 3) := by decide +kernel
theorem dX3_whoGoes_12 : decode cX3_whoGoes 12 = .ok (.iload_n 1, 1) := by decide +kernel
theorem dX3_whoGoes_13 : decode cX3_whoGoes 13 = .ok (.iconst 5, 1) := by decide +kernel
theorem dX3_whoGoes_14 : decode cX3_whoGoes 14 = .ok (.if_icmp .ge 12, 3) := by decide +kernel
theorem dX3_whoGoes_17 : decode cX3_whoGoes 17 = .ok (.aload_n 0, 1) := by decide +kernel
theorem dX3_whoGoes_18 : decode cX3_whoGoes 18 = .ok (.getfield 21, 3) := by decide +kernel
theorem dX3_whoGoes_21 : decode cX3_whoGoes 21 = .ok (.iload_n 1, 1) := by decide +kernel
theorem dX3_whoGoes_22 : decode cX3_whoGoes 22 = .ok (.iaload, 1) := by decide +kernel
theorem dX3_whoGoes_23 : decode cX3_whoGoes 23 = .ok (.goto 4, 3) := by decide +kernel
theorem dX3_whoGoes_26 : decode cX3_whoGoes 26 = .ok (.iconst (-1), 1) := by decide +kernel
theorem dX3_whoGoes_27 : decode cX3_whoGoes 27 = .ok (.ireturn, 1) := by decide +kernel
theorem dX3_joints_0 : decode cX3_joints 0 = .ok (.aload_n 0, 1) := by decide +kernel
theorem dX3_joints_1 : decode cX3_joints 1 = .ok (.getfield 30, 3) := by decide +kernel
theorem dX3_joints_4 : decode cX3_joints 4 = .ok (.iconst 1, 1) := by decide +kernel
theorem dX3_joints_5 : decode cX3_joints 5 = .ok (.isub, 1) := by decide +kernel
theorem dX3_joints_6 : decode cX3_joints 6 = .ok (.iconst 0, 1) := by decide +kernel
theorem dX3_joints_7 : decode cX3_joints 7 = .ok (.invokestatic 47, 3) := by decide +kernel
theorem dX3_joints_10 : decode cX3_joints 10 = .ok (.ireturn, 1) := by decide +kernel
theorem dX3_gripOfJoint_0 : decode cX3_gripOfJoint 0 = .ok (.aload_n 0, 1) := by decide +kernel
theorem dX3_gripOfJoint_1 : decode cX3_gripOfJoint 1 = .ok (.aload_n 0, 1) := by decide +kernel
theorem dX3_gripOfJoint_2 : decode cX3_gripOfJoint 2 = .ok (.iload_n 1, 1) := by decide +kernel
theorem dX3_gripOfJoint_3 : decode cX3_gripOfJoint 3 = .ok (.invokevirtual 53, 3) := by decide +kernel
theorem dX3_gripOfJoint_6 : decode cX3_gripOfJoint 6 = .ok (.aload_n 0, 1) := by decide +kernel
theorem dX3_gripOfJoint_7 : decode cX3_gripOfJoint 7 = .ok (.iload_n 1, 1) := by decide +kernel
theorem dX3_gripOfJoint_8 : decode cX3_gripOfJoint 8 = .ok (.iconst 1, 1) := by decide +kernel
theorem dX3_gripOfJoint_9 : decode cX3_gripOfJoint 9 = .ok (.iadd, 1) := by decide +kernel
theorem dX3_gripOfJoint_10 : decode cX3_gripOfJoint 10 = .ok (.invokevirtual 53, 3) := by decide +kernel
theorem dX3_gripOfJoint_13 : decode cX3_gripOfJoint 13 = .ok (.invokevirtual 56, 3) := by decide +kernel
theorem dX3_gripOfJoint_16 : decode cX3_gripOfJoint 16 = .ok (.ireturn, 1) := by decide +kernel
theorem dX3_looseness_0 : decode cX3_looseness 0 = .ok (.iconst 0, 1) := by decide +kernel
theorem dX3_looseness_1 : decode cX3_looseness 1 = .ok (.istore_n 1, 1) := by decide +kernel
theorem dX3_looseness_2 : decode cX3_looseness 2 = .ok (.iconst 0, 1) := by decide +kernel
theorem dX3_looseness_3 : decode cX3_looseness 3 = .ok (.istore_n 2, 1) := by decide +kernel
theorem dX3_looseness_4 : decode cX3_looseness 4 = .ok (.iload_n 2, 1) := by decide +kernel
theorem dX3_looseness_5 : decode cX3_looseness 5 = .ok (.aload_n 0, 1) := by decide +kernel
theorem dX3_looseness_6 : decode cX3_looseness 6 = .ok (.invokevirtual 59, 3) := by decide +kernel
theorem dX3_looseness_9 : decode cX3_looseness 9 = .ok (.if_icmp .ge 20, 3) := by decide +kernel
theorem dX3_looseness_12 : decode cX3_looseness 12 = .ok (.iload_n 1, 1) := by decide +kernel
theorem dX3_looseness_13 : decode cX3_looseness 13 = .ok (.bipush 16, 2) := by decide +kernel
theorem dX3_looseness_15 : decode cX3_looseness 15 = .ok (.aload_n 0, 1) := by decide +kernel
theorem dX3_looseness_16 : decode cX3_looseness 16 = .ok (.iload_n 2, 1) := by decide +kernel
theorem dX3_looseness_17 : decode cX3_looseness 17 = .ok (.invokevirtual 63, 3) := by decide +kernel
theorem dX3_looseness_20 : decode cX3_looseness 20 = .ok (.isub, 1) := by decide +kernel
theorem dX3_looseness_21 : decode cX3_looseness 21 = .ok (.iadd, 1) := by decide +kernel
theorem dX3_looseness_22 : decode cX3_looseness 22 = .ok (.istore_n 1, 1) := by decide +kernel
theorem dX3_looseness_23 : decode cX3_looseness 23 = .ok (.iinc 2 1, 3) := by decide +kernel
theorem dX3_looseness_26 : decode cX3_looseness 26 = .ok (.goto (-22), 3) := by decide +kernel
theorem dX3_looseness_29 : decode cX3_looseness 29 = .ok (.iload_n 1, 1) := by decide +kernel
theorem dX3_looseness_30 : decode cX3_looseness 30 = .ok (.ireturn, 1) := by decide +kernel
theorem dX3_behindJoint_0 : decode cX3_behindJoint 0 = .ok (.iconst 0, 1) := by decide +kernel
theorem dX3_behindJoint_1 : decode cX3_behindJoint 1 = .ok (.istore_n 2, 1) := by decide +kernel
theorem dX3_behindJoint_2 : decode cX3_behindJoint 2 = .ok (.iload_n 1, 1) := by decide +kernel
theorem dX3_behindJoint_3 : decode cX3_behindJoint 3 = .ok (.iconst (-1), 1) := by decide +kernel
theorem dX3_behindJoint_4 : decode cX3_behindJoint 4 = .ok (.if_icmp .ne 5, 3) := by decide +kernel
theorem dX3_behindJoint_7 : decode cX3_behindJoint 7 = .ok (.iload_n 2, 1) := by decide +kernel
theorem dX3_behindJoint_8 : decode cX3_behindJoint 8 = .ok (.ireturn, 1) := by decide +kernel
theorem dX3_behindJoint_9 : decode cX3_behindJoint 9 = .ok (.iload_n 1, 1) := by decide +kernel
theorem dX3_behindJoint_10 : decode cX3_behindJoint 10 = .ok (.iconst 1, 1) := by decide +kernel
theorem dX3_behindJoint_11 : decode cX3_behindJoint 11 = .ok (.iadd, 1) := by decide +kernel
theorem dX3_behindJoint_12 : decode cX3_behindJoint 12 = .ok (.istore_n 3, 1) := by decide +kernel
theorem dX3_behindJoint_13 : decode cX3_behindJoint 13 = .ok (.iload_n 3, 1) := by decide +kernel
theorem dX3_behindJoint_14 : decode cX3_behindJoint 14 = .ok (.aload_n 0, 1) := by decide +kernel
theorem dX3_behindJoint_15 : decode cX3_behindJoint 15 = .ok (.getfield 30, 3) := by decide +kernel
theorem dX3_behindJoint_18 : decode cX3_behindJoint 18 = .ok (.if_icmp .ge 19, 3) := by decide +kernel
theorem dX3_behindJoint_21 : decode cX3_behindJoint 21 = .ok (.iload_n 2, 1) := by decide +kernel
theorem dX3_behindJoint_22 : decode cX3_behindJoint 22 = .ok (.iconst 1, 1) := by decide +kernel
theorem dX3_behindJoint_23 : decode cX3_behindJoint 23 = .ok (.aload_n 0, 1) := by decide +kernel
theorem dX3_behindJoint_24 : decode cX3_behindJoint 24 = .ok (.iload_n 3, 1) := by decide +kernel
theorem dX3_behindJoint_25 : decode cX3_behindJoint 25 = .ok (.invokevirtual 53, 3) := by decide +kernel
theorem dX3_behindJoint_28 : decode cX3_behindJoint 28 = .ok (.ishl, 1) := by decide +kernel
theorem dX3_behindJoint_29 : decode cX3_behindJoint 29 = .ok (.ior, 1) := by decide +kernel
theorem dX3_behindJoint_30 : decode cX3_behindJoint 30 = .ok (.istore_n 2, 1) := by decide +kernel
theorem dX3_behindJoint_31 : decode cX3_behindJoint 31 = .ok (.iinc 3 1, 3) := by decide +kernel
theorem dX3_behindJoint_34 : decode cX3_behindJoint 34 = .ok (.goto (-21), 3) := by decide +kernel
theorem dX3_behindJoint_37 : decode cX3_behindJoint 37 = .ok (.iload_n 2, 1) := by decide +kernel
theorem dX3_behindJoint_38 : decode cX3_behindJoint 38 = .ok (.ireturn, 1) := by decide +kernel
theorem dX4_init_0 : decode cX4_init 0 = .ok (.aload_n 0, 1) := by decide +kernel
theorem dX4_init_1 : decode cX4_init 1 = .ok (.invokespecial 3, 3) := by decide +kernel
theorem dX4_init_4 : decode cX4_init 4 = .ok (.aload_n 0, 1) := by decide +kernel
theorem dX4_init_5 : decode cX4_init 5 = .ok (.iconst 5, 1) := by decide +kernel
theorem dX4_init_6 : decode cX4_init 6 = .ok (.newarray .int, 2) := by decide +kernel
theorem dX4_init_8 : decode cX4_init 8 = .ok (.putfield 9, 3) := by decide +kernel
theorem dX4_init_11 : decode cX4_init 11 = .ok (.aload_n 0, 1) := by decide +kernel
theorem dX4_init_12 : decode cX4_init 12 = .ok (.iconst 5, 1) := by decide +kernel
theorem dX4_init_13 : decode cX4_init 13 = .ok (.newarray .int, 2) := by decide +kernel
theorem dX4_init_15 : decode cX4_init 15 = .ok (.putfield 15, 3) := by decide +kernel
theorem dX4_init_18 : decode cX4_init 18 = .ok (.aload_n 0, 1) := by decide +kernel
theorem dX4_init_19 : decode cX4_init 19 = .ok (.iconst 0, 1) := by decide +kernel
theorem dX4_init_20 : decode cX4_init 20 = .ok (.putfield 18, 3) := by decide +kernel
theorem dX4_init_23 : decode cX4_init 23 = .ok (.return_, 1) := by decide +kernel
theorem dX4_append_0 : decode cX4_append 0 = .ok (.aload_n 0, 1) := by decide +kernel
theorem dX4_append_1 : decode cX4_append 1 = .ok (.getfield 18, 3) := by decide +kernel
theorem dX4_append_4 : decode cX4_append 4 = .ok (.ifCond .lt 41, 3) := by decide +kernel
theorem dX4_append_7 : decode cX4_append 7 = .ok (.aload_n 0, 1) := by decide +kernel
theorem dX4_append_8 : decode cX4_append 8 = .ok (.getfield 18, 3) := by decide +kernel
theorem dX4_append_11 : decode cX4_append 11 = .ok (.iconst 5, 1) := by decide +kernel
theorem dX4_append_12 : decode cX4_append 12 = .ok (.if_icmp .ge 33, 3) := by decide +kernel
theorem dX4_append_15 : decode cX4_append 15 = .ok (.aload_n 0, 1) := by decide +kernel
theorem dX4_append_16 : decode cX4_append 16 = .ok (.getfield 9, 3) := by decide +kernel
theorem dX4_append_19 : decode cX4_append 19 = .ok (.aload_n 0, 1) := by decide +kernel
theorem dX4_append_20 : decode cX4_append 20 = .ok (.getfield 18, 3) := by decide +kernel
theorem dX4_append_23 : decode cX4_append 23 = .ok (.iload_n 1, 1) := by decide +kernel
theorem dX4_append_24 : decode cX4_append 24 = .ok (.iastore, 1) := by decide +kernel
theorem dX4_append_25 : decode cX4_append 25 = .ok (.aload_n 0, 1) := by decide +kernel
theorem dX4_append_26 : decode cX4_append 26 = .ok (.getfield 15, 3) := by decide +kernel
theorem dX4_append_29 : decode cX4_append 29 = .ok (.aload_n 0, 1) := by decide +kernel
theorem dX4_append_30 : decode cX4_append 30 = .ok (.getfield 18, 3) := by decide +kernel
theorem dX4_append_33 : decode cX4_append 33 = .ok (.iload_n 2, 1) := by decide +kernel
theorem dX4_append_34 : decode cX4_append 34 = .ok (.iastore, 1) := by decide +kernel
theorem dX4_append_35 : decode cX4_append 35 = .ok (.aload_n 0, 1) := by decide +kernel
theorem dX4_append_36 : decode cX4_append 36 = .ok (.dup, 1) := by decide +kernel
theorem dX4_append_37 : decode cX4_append 37 = .ok (.getfield 18, 3) := by decide +kernel
theorem dX4_append_40 : decode cX4_append 40 = .ok (.iconst 1, 1) := by decide +kernel
theorem dX4_append_41 : decode cX4_append 41 = .ok (.iadd, 1) := by decide +kernel
theorem dX4_append_42 : decode cX4_append 42 = .ok (.putfield 18, 3) := by decide +kernel
theorem dX4_append_45 : decode cX4_append 45 = .ok (.return_, 1) := by decide +kernel
theorem dX4_placeOf_0 : decode cX4_placeOf 0 = .ok (.iload_n 1, 1) := by decide +kernel
theorem dX4_placeOf_1 : decode cX4_placeOf 1 = .ok (.ifCond .lt 25, 3) := by decide +kernel
theorem dX4_placeOf_4 : decode cX4_placeOf 4 = .ok (.iload_n 1, 1) := by decide +kernel
theorem dX4_placeOf_5 : decode cX4_placeOf 5 = .ok (.aload_n 0, 1) := by decide +kernel
theorem dX4_placeOf_6 : decode cX4_placeOf 6 = .ok (.getfield 18, 3) := by decide +kernel
theorem dX4_placeOf_9 : decode cX4_placeOf 9 = .ok (.if_icmp .ge 17, 3) := by decide +kernel
theorem dX4_placeOf_12 : decode cX4_placeOf 12 = .ok (.iload_n 1, 1) := by decide +kernel
theorem dX4_placeOf_13 : decode cX4_placeOf 13 = .ok (.iconst 5, 1) := by decide +kernel
theorem dX4_placeOf_14 : decode cX4_placeOf 14 = .ok (.if_icmp .ge 12, 3) := by decide +kernel
theorem dX4_placeOf_17 : decode cX4_placeOf 17 = .ok (.aload_n 0, 1) := by decide +kernel
theorem dX4_placeOf_18 : decode cX4_placeOf 18 = .ok (.getfield 9, 3) := by decide +kernel
theorem dX4_placeOf_21 : decode cX4_placeOf 21 = .ok (.iload_n 1, 1) := by decide +kernel
theorem dX4_placeOf_22 : decode cX4_placeOf 22 = .ok (.iaload, 1) := by decide +kernel
theorem dX4_placeOf_23 : decode cX4_placeOf 23 = .ok (.goto 4, 3) := by decide +kernel
theorem dX4_placeOf_26 : decode cX4_placeOf 26 = .ok (.iconst (-1), 1) := by decide +kernel
theorem dX4_placeOf_27 : decode cX4_placeOf 27 = .ok (.ireturn, 1) := by decide +kernel
theorem dX4_asBits_0 : decode cX4_asBits 0 = .ok (.iconst 1, 1) := by decide +kernel
theorem dX4_asBits_1 : decode cX4_asBits 1 = .ok (.aload_n 0, 1) := by decide +kernel
theorem dX4_asBits_2 : decode cX4_asBits 2 = .ok (.getfield 18, 3) := by decide +kernel
theorem dX4_asBits_5 : decode cX4_asBits 5 = .ok (.ishl, 1) := by decide +kernel
theorem dX4_asBits_6 : decode cX4_asBits 6 = .ok (.iconst 1, 1) := by decide +kernel
theorem dX4_asBits_7 : decode cX4_asBits 7 = .ok (.isub, 1) := by decide +kernel
theorem dX4_asBits_8 : decode cX4_asBits 8 = .ok (.ireturn, 1) := by decide +kernel
theorem dX4_weightOf_0 : decode cX4_weightOf 0 = .ok (.iconst 0, 1) := by decide +kernel
theorem dX4_weightOf_1 : decode cX4_weightOf 1 = .ok (.istore_n 2, 1) := by decide +kernel
theorem dX4_weightOf_2 : decode cX4_weightOf 2 = .ok (.iconst 0, 1) := by decide +kernel
theorem dX4_weightOf_3 : decode cX4_weightOf 3 = .ok (.istore_n 3, 1) := by decide +kernel
theorem dX4_weightOf_4 : decode cX4_weightOf 4 = .ok (.iload_n 3, 1) := by decide +kernel
theorem dX4_weightOf_5 : decode cX4_weightOf 5 = .ok (.aload_n 0, 1) := by decide +kernel
theorem dX4_weightOf_6 : decode cX4_weightOf 6 = .ok (.getfield 18, 3) := by decide +kernel
theorem dX4_weightOf_9 : decode cX4_weightOf 9 = .ok (.if_icmp .ge 29, 3) := by decide +kernel
theorem dX4_weightOf_12 : decode cX4_weightOf 12 = .ok (.iload_n 3, 1) := by decide +kernel
theorem dX4_weightOf_13 : decode cX4_weightOf 13 = .ok (.iconst 5, 1) := by decide +kernel
theorem dX4_weightOf_14 : decode cX4_weightOf 14 = .ok (.if_icmp .ge 24, 3) := by decide +kernel
theorem dX4_weightOf_17 : decode cX4_weightOf 17 = .ok (.iload_n 2, 1) := by decide +kernel
theorem dX4_weightOf_18 : decode cX4_weightOf 18 = .ok (.iload_n 1, 1) := by decide +kernel
theorem dX4_weightOf_19 : decode cX4_weightOf 19 = .ok (.iload_n 3, 1) := by decide +kernel
theorem dX4_weightOf_20 : decode cX4_weightOf 20 = .ok (.ishr, 1) := by decide +kernel
theorem dX4_weightOf_21 : decode cX4_weightOf 21 = .ok (.iconst 1, 1) := by decide +kernel
theorem dX4_weightOf_22 : decode cX4_weightOf 22 = .ok (.iand, 1) := by decide +kernel
theorem dX4_weightOf_23 : decode cX4_weightOf 23 = .ok (.aload_n 0, 1) := by decide +kernel
theorem dX4_weightOf_24 : decode cX4_weightOf 24 = .ok (.getfield 15, 3) := by decide +kernel
theorem dX4_weightOf_27 : decode cX4_weightOf 27 = .ok (.iload_n 3, 1) := by decide +kernel
theorem dX4_weightOf_28 : decode cX4_weightOf 28 = .ok (.iaload, 1) := by decide +kernel
theorem dX4_weightOf_29 : decode cX4_weightOf 29 = .ok (.imul, 1) := by decide +kernel
theorem dX4_weightOf_30 : decode cX4_weightOf 30 = .ok (.iadd, 1) := by decide +kernel
theorem dX4_weightOf_31 : decode cX4_weightOf 31 = .ok (.istore_n 2, 1) := by decide +kernel
theorem dX4_weightOf_32 : decode cX4_weightOf 32 = .ok (.iinc 3 1, 3) := by decide +kernel
theorem dX4_weightOf_35 : decode cX4_weightOf 35 = .ok (.goto (-31), 3) := by decide +kernel
theorem dX4_weightOf_38 : decode cX4_weightOf 38 = .ok (.iload_n 2, 1) := by decide +kernel
theorem dX4_weightOf_39 : decode cX4_weightOf 39 = .ok (.ireturn, 1) := by decide +kernel
theorem dX5_init_0 : decode cX5_init 0 = .ok (.aload_n 0, 1) := by decide +kernel
theorem dX5_init_1 : decode cX5_init 1 = .ok (.invokespecial 3, 3) := by decide +kernel
theorem dX5_init_4 : decode cX5_init 4 = .ok (.aload_n 0, 1) := by decide +kernel
theorem dX5_init_5 : decode cX5_init 5 = .ok (.aload_n 1, 1) := by decide +kernel
theorem dX5_init_6 : decode cX5_init 6 = .ok (.putfield 9, 3) := by decide +kernel
theorem dX5_init_9 : decode cX5_init 9 = .ok (.aload_n 0, 1) := by decide +kernel
theorem dX5_init_10 : decode cX5_init 10 = .ok (.aload_n 2, 1) := by decide +kernel
theorem dX5_init_11 : decode cX5_init 11 = .ok (.putfield 15, 3) := by decide +kernel
theorem dX5_init_14 : decode cX5_init 14 = .ok (.aload_n 0, 1) := by decide +kernel
theorem dX5_init_15 : decode cX5_init 15 = .ok (.bipush 64, 2) := by decide +kernel
theorem dX5_init_17 : decode cX5_init 17 = .ok (.newarray .long, 2) := by decide +kernel
theorem dX5_init_19 : decode cX5_init 19 = .ok (.putfield 19, 3) := by decide +kernel
theorem dX5_init_22 : decode cX5_init 22 = .ok (.aload_n 0, 1) := by decide +kernel
theorem dX5_init_23 : decode cX5_init 23 = .ok (.bipush 64, 2) := by decide +kernel
theorem dX5_init_25 : decode cX5_init 25 = .ok (.newarray .long, 2) := by decide +kernel
theorem dX5_init_27 : decode cX5_init 27 = .ok (.putfield 23, 3) := by decide +kernel
theorem dX5_init_30 : decode cX5_init 30 = .ok (.aload_n 0, 1) := by decide +kernel
theorem dX5_init_31 : decode cX5_init 31 = .ok (.lconst 1, 1) := by decide +kernel
theorem dX5_init_32 : decode cX5_init 32 = .ok (.putfield 26, 3) := by decide +kernel
theorem dX5_init_35 : decode cX5_init 35 = .ok (.return_, 1) := by decide +kernel
theorem dX5_startAt_0 : decode cX5_startAt 0 = .ok (.aload_n 0, 1) := by decide +kernel
theorem dX5_startAt_1 : decode cX5_startAt 1 = .ok (.getfield 19, 3) := by decide +kernel
theorem dX5_startAt_4 : decode cX5_startAt 4 = .ok (.lconst 0, 1) := by decide +kernel
theorem dX5_startAt_5 : decode cX5_startAt 5 = .ok (.invokestatic 30, 3) := by decide +kernel
theorem dX5_startAt_8 : decode cX5_startAt 8 = .ok (.aload_n 0, 1) := by decide +kernel
theorem dX5_startAt_9 : decode cX5_startAt 9 = .ok (.lconst 1, 1) := by decide +kernel
theorem dX5_startAt_10 : decode cX5_startAt 10 = .ok (.putfield 26, 3) := by decide +kernel
theorem dX5_startAt_13 : decode cX5_startAt 13 = .ok (.iload_n 1, 1) := by decide +kernel
theorem dX5_startAt_14 : decode cX5_startAt 14 = .ok (.invokestatic 36, 3) := by decide +kernel
theorem dX5_startAt_17 : decode cX5_startAt 17 = .ok (.ifCond .eq 10, 3) := by decide +kernel
theorem dX5_startAt_20 : decode cX5_startAt 20 = .ok (.aload_n 0, 1) := by decide +kernel
theorem dX5_startAt_21 : decode cX5_startAt 21 = .ok (.getfield 19, 3) := by decide +kernel
theorem dX5_startAt_24 : decode cX5_startAt 24 = .ok (.iload_n 1, 1) := by decide +kernel
theorem dX5_startAt_25 : decode cX5_startAt 25 = .ok (.lconst 1, 1) := by decide +kernel
theorem dX5_startAt_26 : decode cX5_startAt 26 = .ok (.lastore, 1) := by decide +kernel
theorem dX5_startAt_27 : decode cX5_startAt 27 = .ok (.return_, 1) := by decide +kernel
theorem dX5_wander_0 : decode cX5_wander 0 = .ok (.aload_n 0, 1) := by decide +kernel
theorem dX5_wander_1 : decode cX5_wander 1 = .ok (.getfield 23, 3) := by decide +kernel
theorem dX5_wander_4 : decode cX5_wander 4 = .ok (.lconst 0, 1) := by decide +kernel
theorem dX5_wander_5 : decode cX5_wander 5 = .ok (.invokestatic 30, 3) := by decide +kernel
theorem dX5_wander_8 : decode cX5_wander 8 = .ok (.iconst 0, 1) := by decide +kernel
theorem dX5_wander_9 : decode cX5_wander 9 = .ok (.istore_n 1, 1) := by decide +kernel
theorem dX5_wander_10 : decode cX5_wander 10 = .ok (.iload_n 1, 1) := by decide +kernel
theorem dX5_wander_11 : decode cX5_wander 11 = .ok (.bipush 64, 2) := by decide +kernel
theorem dX5_wander_13 : decode cX5_wander 13 = .ok (.if_icmp .ge 25, 3) := by decide +kernel
theorem dX5_wander_16 : decode cX5_wander 16 = .ok (.aload_n 0, 1) := by decide +kernel
theorem dX5_wander_17 : decode cX5_wander 17 = .ok (.getfield 19, 3) := by decide +kernel
theorem dX5_wander_20 : decode cX5_wander 20 = .ok (.iload_n 1, 1) := by decide +kernel
theorem dX5_wander_21 : decode cX5_wander 21 = .ok (.laload, 1) := by decide +kernel
theorem dX5_wander_22 : decode cX5_wander 22 = .ok (.lconst 0, 1) := by decide +kernel
theorem dX5_wander_23 : decode cX5_wander 23 = .ok (.lcmp, 1) := by decide +kernel
theorem dX5_wander_24 : decode cX5_wander 24 = .ok (.ifCond .eq 8, 3) := by decide +kernel
theorem dX5_wander_27 : decode cX5_wander 27 = .ok (.aload_n 0, 1) := by decide +kernel
theorem dX5_wander_28 : decode cX5_wander 28 = .ok (.iload_n 1, 1) := by decide +kernel
theorem dX5_wander_29 : decode cX5_wander 29 = .ok (.invokevirtual 42, 3) := by decide +kernel
theorem dX5_wander_32 : decode cX5_wander 32 = .ok (.iinc 1 1, 3) := by decide +kernel
theorem dX5_wander_35 : decode cX5_wander 35 = .ok (.goto (-25), 3) := by decide +kernel
theorem dX5_wander_38 : decode cX5_wander 38 = .ok (.aload_n 0, 1) := by decide +kernel
theorem dX5_wander_39 : decode cX5_wander 39 = .ok (.getfield 23, 3) := by decide +kernel
theorem dX5_wander_42 : decode cX5_wander 42 = .ok (.iconst 0, 1) := by decide +kernel
theorem dX5_wander_43 : decode cX5_wander 43 = .ok (.aload_n 0, 1) := by decide +kernel
theorem dX5_wander_44 : decode cX5_wander 44 = .ok (.getfield 19, 3) := by decide +kernel
theorem dX5_wander_47 : decode cX5_wander 47 = .ok (.iconst 0, 1) := by decide +kernel
theorem dX5_wander_48 : decode cX5_wander 48 = .ok (.bipush 64, 2) := by decide +kernel
theorem dX5_wander_50 : decode cX5_wander 50 = .ok (.invokestatic 46, 3) := by decide +kernel
theorem dX5_wander_53 : decode cX5_wander 53 = .ok (.aload_n 0, 1) := by decide +kernel
theorem dX5_wander_54 : decode cX5_wander 54 = .ok (.dup, 1) := by decide +kernel
theorem dX5_wander_55 : decode cX5_wander 55 = .ok (.getfield 26, 3) := by decide +kernel
theorem dX5_wander_58 : decode cX5_wander 58 = .ok (.ldc2_w 52, 3) := by decide +kernel
theorem dX5_wander_61 : decode cX5_wander 61 = .ok (.lmul, 1) := by decide +kernel
theorem dX5_wander_62 : decode cX5_wander 62 = .ok (.putfield 26, 3) := by decide +kernel
theorem dX5_wander_65 : decode cX5_wander 65 = .ok (.return_, 1) := by decide +kernel
theorem dX5_spread_0 : decode cX5_spread 0 = .ok (.iconst 1, 1) := by decide +kernel
theorem dX5_spread_1 : decode cX5_spread 1 = .ok (.istore_n 2, 1) := by decide +kernel
theorem dX5_spread_2 : decode cX5_spread 2 = .ok (.iconst 0, 1) := by decide +kernel
theorem dX5_spread_3 : decode cX5_spread 3 = .ok (.istore_n 3, 1) := by decide +kernel
theorem dX5_spread_4 : decode cX5_spread 4 = .ok (.iload_n 3, 1) := by decide +kernel
theorem dX5_spread_5 : decode cX5_spread 5 = .ok (.iconst 4, 1) := by decide +kernel
theorem dX5_spread_6 : decode cX5_spread 6 = .ok (.if_icmp .ge 30, 3) := by decide +kernel
theorem dX5_spread_9 : decode cX5_spread 9 = .ok (.iload_n 2, 1) := by decide +kernel
theorem dX5_spread_10 : decode cX5_spread 10 = .ok (.aload_n 0, 1) := by decide +kernel
theorem dX5_spread_11 : decode cX5_spread 11 = .ok (.getfield 9, 3) := by decide +kernel
theorem dX5_spread_14 : decode cX5_spread 14 = .ok (.iload_n 1, 1) := by decide +kernel
theorem dX5_spread_15 : decode cX5_spread 15 = .ok (.iload_n 3, 1) := by decide +kernel
theorem dX5_spread_16 : decode cX5_spread 16 = .ok (.invokevirtual 54, 3) := by decide +kernel
theorem dX5_spread_19 : decode cX5_spread 19 = .ok (.iconst (-1), 1) := by decide +kernel
theorem dX5_spread_20 : decode cX5_spread 20 = .ok (.if_icmp .ne 7, 3) := by decide +kernel
theorem dX5_spread_23 : decode cX5_spread 23 = .ok (.iconst 0, 1) := by decide +kernel
theorem dX5_spread_24 : decode cX5_spread 24 = .ok (.goto 4, 3) := by decide +kernel
theorem dX5_spread_27 : decode cX5_spread 27 = .ok (.iconst 1, 1) := by decide +kernel
theorem dX5_spread_28 : decode cX5_spread 28 = .ok (.iadd, 1) := by decide +kernel
theorem dX5_spread_29 : decode cX5_spread 29 = .ok (.istore_n 2, 1) := by decide +kernel
theorem dX5_spread_30 : decode cX5_spread 30 = .ok (.iinc 3 1, 3) := by decide +kernel
theorem dX5_spread_33 : decode cX5_spread 33 = .ok (.goto (-29), 3) := by decide +kernel
theorem dX5_spread_36 : decode cX5_spread 36 = .ok (.aload_n 0, 1) := by decide +kernel
theorem dX5_spread_37 : decode cX5_spread 37 = .ok (.getfield 19, 3) := by decide +kernel
theorem dX5_spread_40 : decode cX5_spread 40 = .ok (.iload_n 1, 1) := by decide +kernel
theorem dX5_spread_41 : decode cX5_spread 41 = .ok (.laload, 1) := by decide +kernel
theorem dX5_spread_42 : decode cX5_spread 42 = .ok (.ldc2_w 52, 3) := by decide +kernel
theorem dX5_spread_45 : decode cX5_spread 45 = .ok (.lmul, 1) := by decide +kernel
theorem dX5_spread_46 : decode cX5_spread 46 = .ok (.iload_n 2, 1) := by decide +kernel
theorem dX5_spread_47 : decode cX5_spread 47 = .ok (.i2l, 1) := by decide +kernel
theorem dX5_spread_48 : decode cX5_spread 48 = .ok (.ldiv, 1) := by decide +kernel
theorem dX5_spread_49 : decode cX5_spread 49 = .ok (.lstore_n 3, 1) := by decide +kernel
theorem dX5_spread_50 : decode cX5_spread 50 = .ok (.aload_n 0, 1) := by decide +kernel
theorem dX5_spread_51 : decode cX5_spread 51 = .ok (.getfield 23, 3) := by decide +kernel
theorem dX5_spread_54 : decode cX5_spread 54 = .ok (.iload_n 1, 1) := by decide +kernel
theorem dX5_spread_55 : decode cX5_spread 55 = .ok (.dup2, 1) := by decide +kernel
theorem dX5_spread_56 : decode cX5_spread 56 = .ok (.laload, 1) := by decide +kernel
theorem dX5_spread_57 : decode cX5_spread 57 = .ok (.lload_n 3, 1) := by decide +kernel
theorem dX5_spread_58 : decode cX5_spread 58 = .ok (.ladd, 1) := by decide +kernel
theorem dX5_spread_59 : decode cX5_spread 59 = .ok (.lastore, 1) := by decide +kernel
theorem dX5_spread_60 : decode cX5_spread 60 = .ok (.iconst 0, 1) := by decide +kernel
theorem dX5_spread_61 : decode cX5_spread 61 = .ok (.istore 5, 2) := by decide +kernel
theorem dX5_spread_63 : decode cX5_spread 63 = .ok (.iload 5, 2) := by decide +kernel
theorem dX5_spread_65 : decode cX5_spread 65 = .ok (.iconst 4, 1) := by decide +kernel
theorem dX5_spread_66 : decode cX5_spread 66 = .ok (.if_icmp .ge 40, 3) := by decide +kernel
theorem dX5_spread_69 : decode cX5_spread 69 = .ok (.aload_n 0, 1) := by decide +kernel
theorem dX5_spread_70 : decode cX5_spread 70 = .ok (.getfield 9, 3) := by decide +kernel
theorem dX5_spread_73 : decode cX5_spread 73 = .ok (.iload_n 1, 1) := by decide +kernel
theorem dX5_spread_74 : decode cX5_spread 74 = .ok (.iload 5, 2) := by decide +kernel
theorem dX5_spread_76 : decode cX5_spread 76 = .ok (.invokevirtual 54, 3) := by decide +kernel
theorem dX5_spread_79 : decode cX5_spread 79 = .ok (.istore 6, 2) := by decide +kernel
theorem dX5_spread_81 : decode cX5_spread 81 = .ok (.iload 6, 2) := by decide +kernel
theorem dX5_spread_83 : decode cX5_spread 83 = .ok (.invokestatic 36, 3) := by decide +kernel
theorem dX5_spread_86 : decode cX5_spread 86 = .ok (.ifCond .eq 14, 3) := by decide +kernel
theorem dX5_spread_89 : decode cX5_spread 89 = .ok (.aload_n 0, 1) := by decide +kernel
theorem dX5_spread_90 : decode cX5_spread 90 = .ok (.getfield 23, 3) := by decide +kernel
theorem dX5_spread_93 : decode cX5_spread 93 = .ok (.iload 6, 2) := by decide +kernel
theorem dX5_spread_95 : decode cX5_spread 95 = .ok (.dup2, 1) := by decide +kernel
theorem dX5_spread_96 : decode cX5_spread 96 = .ok (.laload, 1) := by decide +kernel
theorem dX5_spread_97 : decode cX5_spread 97 = .ok (.lload_n 3, 1) := by decide +kernel
theorem dX5_spread_98 : decode cX5_spread 98 = .ok (.ladd, 1) := by decide +kernel
theorem dX5_spread_99 : decode cX5_spread 99 = .ok (.lastore, 1) := by decide +kernel
theorem dX5_spread_100 : decode cX5_spread 100 = .ok (.iinc 5 1, 3) := by decide +kernel
theorem dX5_spread_103 : decode cX5_spread 103 = .ok (.goto (-40), 3) := by decide +kernel
theorem dX5_spread_106 : decode cX5_spread 106 = .ok (.return_, 1) := by decide +kernel
theorem dX5_goNearer_0 : decode cX5_goNearer 0 = .ok (.aload_n 0, 1) := by decide +kernel
theorem dX5_goNearer_1 : decode cX5_goNearer 1 = .ok (.invokevirtual 58, 3) := by decide +kernel
theorem dX5_goNearer_4 : decode cX5_goNearer 4 = .ok (.istore_n 1, 1) := by decide +kernel
theorem dX5_goNearer_5 : decode cX5_goNearer 5 = .ok (.aload_n 0, 1) := by decide +kernel
theorem dX5_goNearer_6 : decode cX5_goNearer 6 = .ok (.getfield 15, 3) := by decide +kernel
theorem dX5_goNearer_9 : decode cX5_goNearer 9 = .ok (.iload_n 1, 1) := by decide +kernel
theorem dX5_goNearer_10 : decode cX5_goNearer 10 = .ok (.invokevirtual 62, 3) := by decide +kernel
theorem dX5_goNearer_13 : decode cX5_goNearer 13 = .ok (.istore_n 2, 1) := by decide +kernel
theorem dX5_goNearer_14 : decode cX5_goNearer 14 = .ok (.iconst 0, 1) := by decide +kernel
theorem dX5_goNearer_15 : decode cX5_goNearer 15 = .ok (.istore_n 3, 1) := by decide +kernel
theorem dX5_goNearer_16 : decode cX5_goNearer 16 = .ok (.iload_n 3, 1) := by decide +kernel
theorem dX5_goNearer_17 : decode cX5_goNearer 17 = .ok (.iconst 4, 1) := by decide +kernel
theorem dX5_goNearer_18 : decode cX5_goNearer 18 = .ok (.if_icmp .ge 50, 3) := by decide +kernel
theorem dX5_goNearer_21 : decode cX5_goNearer 21 = .ok (.aload_n 0, 1) := by decide +kernel
theorem dX5_goNearer_22 : decode cX5_goNearer 22 = .ok (.getfield 9, 3) := by decide +kernel
theorem dX5_goNearer_25 : decode cX5_goNearer 25 = .ok (.iload_n 1, 1) := by decide +kernel
theorem dX5_goNearer_26 : decode cX5_goNearer 26 = .ok (.iload_n 3, 1) := by decide +kernel
theorem dX5_goNearer_27 : decode cX5_goNearer 27 = .ok (.invokevirtual 54, 3) := by decide +kernel
theorem dX5_goNearer_30 : decode cX5_goNearer 30 = .ok (.istore 4, 2) := by decide +kernel
theorem dX5_goNearer_32 : decode cX5_goNearer 32 = .ok (.iload 4, 2) := by decide +kernel
theorem dX5_goNearer_34 : decode cX5_goNearer 34 = .ok (.iconst (-1), 1) := by decide +kernel
theorem dX5_goNearer_35 : decode cX5_goNearer 35 = .ok (.if_icmp .eq 27, 3) := by decide +kernel
theorem dX5_goNearer_38 : decode cX5_goNearer 38 = .ok (.iload_n 2, 1) := by decide +kernel
theorem dX5_goNearer_39 : decode cX5_goNearer 39 = .ok (.ifCond .le 23, 3) := by decide +kernel
theorem dX5_goNearer_42 : decode cX5_goNearer 42 = .ok (.aload_n 0, 1) := by decide +kernel
theorem dX5_goNearer_43 : decode cX5_goNearer 43 = .ok (.getfield 15, 3) := by decide +kernel
theorem dX5_goNearer_46 : decode cX5_goNearer 46 = .ok (.iload 4, 2) := by decide +kernel
theorem dX5_goNearer_48 : decode cX5_goNearer 48 = .ok (.invokevirtual 62, 3) := by decide +kernel
theorem dX5_goNearer_51 : decode cX5_goNearer 51 = .ok (.iload_n 2, 1) := by decide +kernel
theorem dX5_goNearer_52 : decode cX5_goNearer 52 = .ok (.if_icmp .ge 10, 3) := by decide +kernel
theorem dX5_goNearer_55 : decode cX5_goNearer 55 = .ok (.aload_n 0, 1) := by decide +kernel
theorem dX5_goNearer_56 : decode cX5_goNearer 56 = .ok (.iload 4, 2) := by decide +kernel
theorem dX5_goNearer_58 : decode cX5_goNearer 58 = .ok (.invokevirtual 68, 3) := by decide +kernel
theorem dX5_goNearer_61 : decode cX5_goNearer 61 = .ok (.return_, 1) := by decide +kernel
theorem dX5_goNearer_62 : decode cX5_goNearer 62 = .ok (.iinc 3 1, 3) := by decide +kernel
theorem dX5_goNearer_65 : decode cX5_goNearer 65 = .ok (.goto (-49), 3) := by decide +kernel
theorem dX5_goNearer_68 : decode cX5_goNearer 68 = .ok (.return_, 1) := by decide +kernel
theorem dX5_chanceOf_0 : decode cX5_chanceOf 0 = .ok (.iload_n 1, 1) := by decide +kernel
theorem dX5_chanceOf_1 : decode cX5_chanceOf 1 = .ok (.invokestatic 36, 3) := by decide +kernel
theorem dX5_chanceOf_4 : decode cX5_chanceOf 4 = .ok (.ifCond .eq 12, 3) := by decide +kernel
theorem dX5_chanceOf_7 : decode cX5_chanceOf 7 = .ok (.aload_n 0, 1) := by decide +kernel
theorem dX5_chanceOf_8 : decode cX5_chanceOf 8 = .ok (.getfield 19, 3) := by decide +kernel
theorem dX5_chanceOf_11 : decode cX5_chanceOf 11 = .ok (.iload_n 1, 1) := by decide +kernel
theorem dX5_chanceOf_12 : decode cX5_chanceOf 12 = .ok (.laload, 1) := by decide +kernel
theorem dX5_chanceOf_13 : decode cX5_chanceOf 13 = .ok (.goto 4, 3) := by decide +kernel
theorem dX5_chanceOf_16 : decode cX5_chanceOf 16 = .ok (.lconst 0, 1) := by decide +kernel
theorem dX5_chanceOf_17 : decode cX5_chanceOf 17 = .ok (.lreturn, 1) := by decide +kernel
theorem dX5_likeliestPlace_0 : decode cX5_likeliestPlace 0 = .ok (.iconst 0, 1) := by decide +kernel
theorem dX5_likeliestPlace_1 : decode cX5_likeliestPlace 1 = .ok (.istore_n 1, 1) := by decide +kernel
theorem dX5_likeliestPlace_2 : decode cX5_likeliestPlace 2 = .ok (.iconst 1, 1) := by decide +kernel
theorem dX5_likeliestPlace_3 : decode cX5_likeliestPlace 3 = .ok (.istore_n 2, 1) := by decide +kernel
theorem dX5_likeliestPlace_4 : decode cX5_likeliestPlace 4 = .ok (.iload_n 2, 1) := by decide +kernel
theorem dX5_likeliestPlace_5 : decode cX5_likeliestPlace 5 = .ok (.bipush 64, 2) := by decide +kernel
theorem dX5_likeliestPlace_7 : decode cX5_likeliestPlace 7 = .ok (.if_icmp .ge 27, 3) := by decide +kernel
theorem dX5_likeliestPlace_10 : decode cX5_likeliestPlace 10 = .ok (.aload_n 0, 1) := by decide +kernel
theorem dX5_likeliestPlace_11 : decode cX5_likeliestPlace 11 = .ok (.getfield 19, 3) := by decide +kernel
theorem dX5_likeliestPlace_14 : decode cX5_likeliestPlace 14 = .ok (.iload_n 2, 1) := by decide +kernel
theorem dX5_likeliestPlace_15 : decode cX5_likeliestPlace 15 = .ok (.laload, 1) := by decide +kernel
theorem dX5_likeliestPlace_16 : decode cX5_likeliestPlace 16 = .ok (.aload_n 0, 1) := by decide +kernel
theorem dX5_likeliestPlace_17 : decode cX5_likeliestPlace 17 = .ok (.getfield 19, 3) := by decide +kernel
theorem dX5_likeliestPlace_20 : decode cX5_likeliestPlace 20 = .ok (.iload_n 1, 1) := by decide +kernel
theorem dX5_likeliestPlace_21 : decode cX5_likeliestPlace 21 = .ok (.laload, 1) := by decide +kernel
theorem dX5_likeliestPlace_22 : decode cX5_likeliestPlace 22 = .ok (.lcmp, 1) := by decide +kernel
theorem dX5_likeliestPlace_23 : decode cX5_likeliestPlace 23 = .ok (.ifCond .le 5, 3) := by decide +kernel
theorem dX5_likeliestPlace_26 : decode cX5_likeliestPlace 26 = .ok (.iload_n 2, 1) := by decide +kernel
theorem dX5_likeliestPlace_27 : decode cX5_likeliestPlace 27 = .ok (.istore_n 1, 1) := by decide +kernel
theorem dX5_likeliestPlace_28 : decode cX5_likeliestPlace 28 = .ok (.iinc 2 1, 3) := by decide +kernel
theorem dX5_likeliestPlace_31 : decode cX5_likeliestPlace 31 = .ok (.goto (-27), 3) := by decide +kernel
theorem dX5_likeliestPlace_34 : decode cX5_likeliestPlace 34 = .ok (.iload_n 1, 1) := by decide +kernel
theorem dX5_likeliestPlace_35 : decode cX5_likeliestPlace 35 = .ok (.ireturn, 1) := by decide +kernel
theorem dX6_init_0 : decode cX6_init 0 = .ok (.aload_n 0, 1) := by decide +kernel
theorem dX6_init_1 : decode cX6_init 1 = .ok (.invokespecial 3, 3) := by decide +kernel
theorem dX6_init_4 : decode cX6_init 4 = .ok (.aload_n 0, 1) := by decide +kernel
theorem dX6_init_5 : decode cX6_init 5 = .ok (.bipush 35, 2) := by decide +kernel
theorem dX6_init_7 : decode cX6_init 7 = .ok (.newarray .int, 2) := by decide +kernel
theorem dX6_init_9 : decode cX6_init 9 = .ok (.putfield 11, 3) := by decide +kernel
theorem dX6_init_12 : decode cX6_init 12 = .ok (.aload_n 0, 1) := by decide +kernel
theorem dX6_init_13 : decode cX6_init 13 = .ok (.bipush 32, 2) := by decide +kernel
theorem dX6_init_15 : decode cX6_init 15 = .ok (.newarray .int, 2) := by decide +kernel
theorem dX6_init_17 : decode cX6_init 17 = .ok (.putfield 15, 3) := by decide +kernel
theorem dX6_init_20 : decode cX6_init 20 = .ok (.aload_n 0, 1) := by decide +kernel
theorem dX6_init_21 : decode cX6_init 21 = .ok (.sipush 224, 3) := by decide +kernel
theorem dX6_init_24 : decode cX6_init 24 = .ok (.newarray .int, 2) := by decide +kernel
theorem dX6_init_26 : decode cX6_init 26 = .ok (.putfield 18, 3) := by decide +kernel
theorem dX6_init_29 : decode cX6_init 29 = .ok (.return_, 1) := by decide +kernel
theorem dX6_layOrders_0 : decode cX6_layOrders 0 = .ok (.aload_n 0, 1) := by decide +kernel
theorem dX6_layOrders_1 : decode cX6_layOrders 1 = .ok (.getfield 15, 3) := by decide +kernel
theorem dX6_layOrders_4 : decode cX6_layOrders 4 = .ok (.iconst 1, 1) := by decide +kernel
theorem dX6_layOrders_5 : decode cX6_layOrders 5 = .ok (.invokestatic 21, 3) := by decide +kernel
theorem dX6_layOrders_8 : decode cX6_layOrders 8 = .ok (.iconst 0, 1) := by decide +kernel
theorem dX6_layOrders_9 : decode cX6_layOrders 9 = .ok (.istore_n 2, 1) := by decide +kernel
theorem dX6_layOrders_10 : decode cX6_layOrders 10 = .ok (.iload_n 2, 1) := by decide +kernel
theorem dX6_layOrders_11 : decode cX6_layOrders 11 = .ok (.iconst 5, 1) := by decide +kernel
theorem dX6_layOrders_12 : decode cX6_layOrders 12 = .ok (.if_icmp .ge 52, 3) := by decide +kernel
theorem dX6_layOrders_15 : decode cX6_layOrders 15 = .ok (.iconst 0, 1) := by decide +kernel
theorem dX6_layOrders_16 : decode cX6_layOrders 16 = .ok (.istore_n 3, 1) := by decide +kernel
theorem dX6_layOrders_17 : decode cX6_layOrders 17 = .ok (.iload_n 3, 1) := by decide +kernel
theorem dX6_layOrders_18 : decode cX6_layOrders 18 = .ok (.iconst 5, 1) := by decide +kernel
theorem dX6_layOrders_19 : decode cX6_layOrders 19 = .ok (.if_icmp .ge 24, 3) := by decide +kernel
theorem dX6_layOrders_22 : decode cX6_layOrders 22 = .ok (.aload_n 0, 1) := by decide +kernel
theorem dX6_layOrders_23 : decode cX6_layOrders 23 = .ok (.iload_n 3, 1) := by decide +kernel
theorem dX6_layOrders_24 : decode cX6_layOrders 24 = .ok (.iload_n 2, 1) := by decide +kernel
theorem dX6_layOrders_25 : decode cX6_layOrders 25 = .ok (.bipush 16, 2) := by decide +kernel
theorem dX6_layOrders_27 : decode cX6_layOrders 27 = .ok (.aload_n 1, 1) := by decide +kernel
theorem dX6_layOrders_28 : decode cX6_layOrders 28 = .ok (.iload_n 3, 1) := by decide +kernel
theorem dX6_layOrders_29 : decode cX6_layOrders 29 = .ok (.iload_n 2, 1) := by decide +kernel
theorem dX6_layOrders_30 : decode cX6_layOrders 30 = .ok (.invokevirtual 27, 3) := by decide +kernel
theorem dX6_layOrders_33 : decode cX6_layOrders 33 = .ok (.isub, 1) := by decide +kernel
theorem dX6_layOrders_34 : decode cX6_layOrders 34 = .ok (.invokevirtual 33, 3) := by decide +kernel
theorem dX6_layOrders_37 : decode cX6_layOrders 37 = .ok (.iinc 3 1, 3) := by decide +kernel
theorem dX6_layOrders_40 : decode cX6_layOrders 40 = .ok (.goto (-23), 3) := by decide +kernel
theorem dX6_layOrders_43 : decode cX6_layOrders 43 = .ok (.aload_n 0, 1) := by decide +kernel
theorem dX6_layOrders_44 : decode cX6_layOrders 44 = .ok (.iconst 5, 1) := by decide +kernel
theorem dX6_layOrders_45 : decode cX6_layOrders 45 = .ok (.iload_n 2, 1) := by decide +kernel
theorem dX6_layOrders_46 : decode cX6_layOrders 46 = .ok (.iconst 0, 1) := by decide +kernel
theorem dX6_layOrders_47 : decode cX6_layOrders 47 = .ok (.invokevirtual 33, 3) := by decide +kernel
theorem dX6_layOrders_50 : decode cX6_layOrders 50 = .ok (.aload_n 0, 1) := by decide +kernel
theorem dX6_layOrders_51 : decode cX6_layOrders 51 = .ok (.bipush 6, 2) := by decide +kernel
theorem dX6_layOrders_53 : decode cX6_layOrders 53 = .ok (.iload_n 2, 1) := by decide +kernel
theorem dX6_layOrders_54 : decode cX6_layOrders 54 = .ok (.iconst 0, 1) := by decide +kernel
theorem dX6_layOrders_55 : decode cX6_layOrders 55 = .ok (.invokevirtual 33, 3) := by decide +kernel
theorem dX6_layOrders_58 : decode cX6_layOrders 58 = .ok (.iinc 2 1, 3) := by decide +kernel
theorem dX6_layOrders_61 : decode cX6_layOrders 61 = .ok (.goto (-51), 3) := by decide +kernel
theorem dX6_layOrders_64 : decode cX6_layOrders 64 = .ok (.return_, 1) := by decide +kernel
theorem dX6_layWeights_0 : decode cX6_layWeights 0 = .ok (.iconst 0, 1) := by decide +kernel
theorem dX6_layWeights_1 : decode cX6_layWeights 1 = .ok (.istore_n 2, 1) := by decide +kernel
theorem dX6_layWeights_2 : decode cX6_layWeights 2 = .ok (.iload_n 2, 1) := by decide +kernel
theorem dX6_layWeights_3 : decode cX6_layWeights 3 = .ok (.bipush 32, 2) := by decide +kernel
theorem dX6_layWeights_5 : decode cX6_layWeights 5 = .ok (.if_icmp .ge 20, 3) := by decide +kernel
theorem dX6_layWeights_8 : decode cX6_layWeights 8 = .ok (.aload_n 0, 1) := by decide +kernel
theorem dX6_layWeights_9 : decode cX6_layWeights 9 = .ok (.getfield 15, 3) := by decide +kernel
theorem dX6_layWeights_12 : decode cX6_layWeights 12 = .ok (.iload_n 2, 1) := by decide +kernel
theorem dX6_layWeights_13 : decode cX6_layWeights 13 = .ok (.aload_n 1, 1) := by decide +kernel
theorem dX6_layWeights_14 : decode cX6_layWeights 14 = .ok (.iload_n 2, 1) := by decide +kernel
theorem dX6_layWeights_15 : decode cX6_layWeights 15 = .ok (.invokevirtual 37, 3) := by decide +kernel
theorem dX6_layWeights_18 : decode cX6_layWeights 18 = .ok (.iastore, 1) := by decide +kernel
theorem dX6_layWeights_19 : decode cX6_layWeights 19 = .ok (.iinc 2 1, 3) := by decide +kernel
theorem dX6_layWeights_22 : decode cX6_layWeights 22 = .ok (.goto (-20), 3) := by decide +kernel
theorem dX6_layWeights_25 : decode cX6_layWeights 25 = .ok (.return_, 1) := by decide +kernel
theorem dX6_putLeg_0 : decode cX6_putLeg 0 = .ok (.iload_n 1, 1) := by decide +kernel
theorem dX6_putLeg_1 : decode cX6_putLeg 1 = .ok (.ifCond .lt 29, 3) := by decide +kernel
theorem dX6_putLeg_4 : decode cX6_putLeg 4 = .ok (.iload_n 1, 1) := by decide +kernel
theorem dX6_putLeg_5 : decode cX6_putLeg 5 = .ok (.bipush 7, 2) := by decide +kernel
theorem dX6_putLeg_7 : decode cX6_putLeg 7 = .ok (.if_icmp .ge 23, 3) := by decide +kernel
theorem dX6_putLeg_10 : decode cX6_putLeg 10 = .ok (.iload_n 2, 1) := by decide +kernel
theorem dX6_putLeg_11 : decode cX6_putLeg 11 = .ok (.ifCond .lt 19, 3) := by decide +kernel
theorem dX6_putLeg_14 : decode cX6_putLeg 14 = .ok (.iload_n 2, 1) := by decide +kernel
theorem dX6_putLeg_15 : decode cX6_putLeg 15 = .ok (.iconst 5, 1) := by decide +kernel
theorem dX6_putLeg_16 : decode cX6_putLeg 16 = .ok (.if_icmp .ge 14, 3) := by decide +kernel
theorem dX6_putLeg_19 : decode cX6_putLeg 19 = .ok (.aload_n 0, 1) := by decide +kernel
theorem dX6_putLeg_20 : decode cX6_putLeg 20 = .ok (.getfield 11, 3) := by decide +kernel
theorem dX6_putLeg_23 : decode cX6_putLeg 23 = .ok (.iload_n 1, 1) := by decide +kernel
theorem dX6_putLeg_24 : decode cX6_putLeg 24 = .ok (.iconst 5, 1) := by decide +kernel
theorem dX6_putLeg_25 : decode cX6_putLeg 25 = .ok (.imul, 1) := by decide +kernel
theorem dX6_putLeg_26 : decode cX6_putLeg 26 = .ok (.iload_n 2, 1) := by decide +kernel
theorem dX6_putLeg_27 : decode cX6_putLeg 27 = .ok (.iadd, 1) := by decide +kernel
theorem dX6_putLeg_28 : decode cX6_putLeg 28 = .ok (.iload_n 3, 1) := by decide +kernel
theorem dX6_putLeg_29 : decode cX6_putLeg 29 = .ok (.iastore, 1) := by decide +kernel
theorem dX6_putLeg_30 : decode cX6_putLeg 30 = .ok (.return_, 1) := by decide +kernel
theorem dX6_solve_0 : decode cX6_solve 0 = .ok (.aload_n 0, 1) := by decide +kernel
theorem dX6_solve_1 : decode cX6_solve 1 = .ok (.getfield 18, 3) := by decide +kernel
theorem dX6_solve_4 : decode cX6_solve 4 = .ok (.iconst 0, 1) := by decide +kernel
theorem dX6_solve_5 : decode cX6_solve 5 = .ok (.invokestatic 21, 3) := by decide +kernel
theorem dX6_solve_8 : decode cX6_solve 8 = .ok (.iconst 1, 1) := by decide +kernel
theorem dX6_solve_9 : decode cX6_solve 9 = .ok (.istore_n 2, 1) := by decide +kernel
theorem dX6_solve_10 : decode cX6_solve 10 = .ok (.iload_n 2, 1) := by decide +kernel
theorem dX6_solve_11 : decode cX6_solve 11 = .ok (.bipush 32, 2) := by decide +kernel
theorem dX6_solve_13 : decode cX6_solve 13 = .ok (.if_icmp .ge 54, 3) := by decide +kernel
theorem dX6_solve_16 : decode cX6_solve 16 = .ok (.iload_n 2, 1) := by decide +kernel
theorem dX6_solve_17 : decode cX6_solve 17 = .ok (.iload_n 1, 1) := by decide +kernel
theorem dX6_solve_18 : decode cX6_solve 18 = .ok (.iconst (-1), 1) := by decide +kernel
theorem dX6_solve_19 : decode cX6_solve 19 = .ok (.ixor, 1) := by decide +kernel
theorem dX6_solve_20 : decode cX6_solve 20 = .ok (.iand, 1) := by decide +kernel
theorem dX6_solve_21 : decode cX6_solve 21 = .ok (.ifCond .ne 40, 3) := by decide +kernel
theorem dX6_solve_24 : decode cX6_solve 24 = .ok (.iconst 0, 1) := by decide +kernel
theorem dX6_solve_25 : decode cX6_solve 25 = .ok (.istore_n 3, 1) := by decide +kernel
theorem dX6_solve_26 : decode cX6_solve 26 = .ok (.iload_n 3, 1) := by decide +kernel
theorem dX6_solve_27 : decode cX6_solve 27 = .ok (.bipush 7, 2) := by decide +kernel
theorem dX6_solve_29 : decode cX6_solve 29 = .ok (.if_icmp .ge 32, 3) := by decide +kernel
theorem dX6_solve_32 : decode cX6_solve 32 = .ok (.aload_n 0, 1) := by decide +kernel
theorem dX6_solve_33 : decode cX6_solve 33 = .ok (.getfield 18, 3) := by decide +kernel
theorem dX6_solve_36 : decode cX6_solve 36 = .ok (.iload_n 2, 1) := by decide +kernel
theorem dX6_solve_37 : decode cX6_solve 37 = .ok (.bipush 7, 2) := by decide +kernel
theorem dX6_solve_39 : decode cX6_solve 39 = .ok (.imul, 1) := by decide +kernel
theorem dX6_solve_40 : decode cX6_solve 40 = .ok (.iload_n 3, 1) := by decide +kernel
theorem dX6_solve_41 : decode cX6_solve 41 = .ok (.iadd, 1) := by decide +kernel
theorem dX6_solve_42 : decode cX6_solve 42 = .ok (.aload_n 0, 1) := by decide +kernel
theorem dX6_solve_43 : decode cX6_solve 43 = .ok (.iload_n 3, 1) := by decide +kernel
theorem dX6_solve_44 : decode cX6_solve 44 = .ok (.iload_n 2, 1) := by decide +kernel
theorem dX6_solve_45 : decode cX6_solve 45 = .ok (.aload_n 0, 1) := by decide +kernel
theorem dX6_solve_46 : decode cX6_solve 46 = .ok (.iload_n 3, 1) := by decide +kernel
theorem dX6_solve_47 : decode cX6_solve 47 = .ok (.iload_n 2, 1) := by decide +kernel
theorem dX6_solve_48 : decode cX6_solve 48 = .ok (.invokevirtual 43, 3) := by decide +kernel
theorem dX6_solve_51 : decode cX6_solve 51 = .ok (.invokevirtual 46, 3) := by decide +kernel
theorem dX6_solve_54 : decode cX6_solve 54 = .ok (.iastore, 1) := by decide +kernel
theorem dX6_solve_55 : decode cX6_solve 55 = .ok (.iinc 3 1, 3) := by decide +kernel
theorem dX6_solve_58 : decode cX6_solve 58 = .ok (.goto (-32), 3) := by decide +kernel
theorem dX6_solve_61 : decode cX6_solve 61 = .ok (.iinc 2 1, 3) := by decide +kernel
theorem dX6_solve_64 : decode cX6_solve 64 = .ok (.goto (-54), 3) := by decide +kernel
theorem dX6_solve_67 : decode cX6_solve 67 = .ok (.return_, 1) := by decide +kernel
theorem dX6_leastFrom_0 : decode cX6_leastFrom 0 = .ok (.iload_n 1, 1) := by decide +kernel
theorem dX6_leastFrom_1 : decode cX6_leastFrom 1 = .ok (.ifCond .lt 23, 3) := by decide +kernel
theorem dX6_leastFrom_4 : decode cX6_leastFrom 4 = .ok (.iload_n 1, 1) := by decide +kernel
theorem dX6_leastFrom_5 : decode cX6_leastFrom 5 = .ok (.bipush 7, 2) := by decide +kernel
theorem dX6_leastFrom_7 : decode cX6_leastFrom 7 = .ok (.if_icmp .ge 17, 3) := by decide +kernel
theorem dX6_leastFrom_10 : decode cX6_leastFrom 10 = .ok (.iload_n 2, 1) := by decide +kernel
theorem dX6_leastFrom_11 : decode cX6_leastFrom 11 = .ok (.ifCond .lt 13, 3) := by decide +kernel
theorem dX6_leastFrom_14 : decode cX6_leastFrom 14 = .ok (.iload_n 2, 1) := by decide +kernel
theorem dX6_leastFrom_15 : decode cX6_leastFrom 15 = .ok (.bipush 32, 2) := by decide +kernel
theorem dX6_leastFrom_17 : decode cX6_leastFrom 17 = .ok (.if_icmp .ge 7, 3) := by decide +kernel
theorem dX6_leastFrom_20 : decode cX6_leastFrom 20 = .ok (.iconst 1, 1) := by decide +kernel
theorem dX6_leastFrom_21 : decode cX6_leastFrom 21 = .ok (.goto 4, 3) := by decide +kernel
theorem dX6_leastFrom_24 : decode cX6_leastFrom 24 = .ok (.iconst 0, 1) := by decide +kernel
theorem dX6_leastFrom_25 : decode cX6_leastFrom 25 = .ok (.istore_n 3, 1) := by decide +kernel
theorem dX6_leastFrom_26 : decode cX6_leastFrom 26 = .ok (.iload_n 3, 1) := by decide +kernel
theorem dX6_leastFrom_27 : decode cX6_leastFrom 27 = .ok (.ifCond .eq 17, 3) := by decide +kernel
theorem dX6_leastFrom_30 : decode cX6_leastFrom 30 = .ok (.aload_n 0, 1) := by decide +kernel
theorem dX6_leastFrom_31 : decode cX6_leastFrom 31 = .ok (.getfield 18, 3) := by decide +kernel
theorem dX6_leastFrom_34 : decode cX6_leastFrom 34 = .ok (.iload_n 2, 1) := by decide +kernel
theorem dX6_leastFrom_35 : decode cX6_leastFrom 35 = .ok (.bipush 7, 2) := by decide +kernel
theorem dX6_leastFrom_37 : decode cX6_leastFrom 37 = .ok (.imul, 1) := by decide +kernel
theorem dX6_leastFrom_38 : decode cX6_leastFrom 38 = .ok (.iload_n 1, 1) := by decide +kernel
theorem dX6_leastFrom_39 : decode cX6_leastFrom 39 = .ok (.iadd, 1) := by decide +kernel
theorem dX6_leastFrom_40 : decode cX6_leastFrom 40 = .ok (.iaload, 1) := by decide +kernel
theorem dX6_leastFrom_41 : decode cX6_leastFrom 41 = .ok (.goto 4, 3) := by decide +kernel
theorem dX6_leastFrom_44 : decode cX6_leastFrom 44 = .ok (.iconst 0, 1) := by decide +kernel
theorem dX6_leastFrom_45 : decode cX6_leastFrom 45 = .ok (.ireturn, 1) := by decide +kernel
theorem dX6_costBy_0 : decode cX6_costBy 0 = .ok (.iload_n 1, 1) := by decide +kernel
theorem dX6_costBy_1 : decode cX6_costBy 1 = .ok (.ifCond .lt 32, 3) := by decide +kernel
theorem dX6_costBy_4 : decode cX6_costBy 4 = .ok (.iload_n 1, 1) := by decide +kernel
theorem dX6_costBy_5 : decode cX6_costBy 5 = .ok (.bipush 7, 2) := by decide +kernel
theorem dX6_costBy_7 : decode cX6_costBy 7 = .ok (.if_icmp .ge 26, 3) := by decide +kernel
theorem dX6_costBy_10 : decode cX6_costBy 10 = .ok (.iload_n 2, 1) := by decide +kernel
theorem dX6_costBy_11 : decode cX6_costBy 11 = .ok (.ifCond .lt 22, 3) := by decide +kernel
theorem dX6_costBy_14 : decode cX6_costBy 14 = .ok (.iload_n 2, 1) := by decide +kernel
theorem dX6_costBy_15 : decode cX6_costBy 15 = .ok (.bipush 32, 2) := by decide +kernel
theorem dX6_costBy_17 : decode cX6_costBy 17 = .ok (.if_icmp .ge 16, 3) := by decide +kernel
theorem dX6_costBy_20 : decode cX6_costBy 20 = .ok (.iload_n 3, 1) := by decide +kernel
theorem dX6_costBy_21 : decode cX6_costBy 21 = .ok (.ifCond .lt 12, 3) := by decide +kernel
theorem dX6_costBy_24 : decode cX6_costBy 24 = .ok (.iload_n 3, 1) := by decide +kernel
theorem dX6_costBy_25 : decode cX6_costBy 25 = .ok (.iconst 5, 1) := by decide +kernel
theorem dX6_costBy_26 : decode cX6_costBy 26 = .ok (.if_icmp .ge 7, 3) := by decide +kernel
theorem dX6_costBy_29 : decode cX6_costBy 29 = .ok (.iconst 1, 1) := by decide +kernel
theorem dX6_costBy_30 : decode cX6_costBy 30 = .ok (.goto 4, 3) := by decide +kernel
theorem dX6_costBy_33 : decode cX6_costBy 33 = .ok (.iconst 0, 1) := by decide +kernel
theorem dX6_costBy_34 : decode cX6_costBy 34 = .ok (.istore 4, 2) := by decide +kernel
theorem dX6_costBy_36 : decode cX6_costBy 36 = .ok (.iload 4, 2) := by decide +kernel
theorem dX6_costBy_38 : decode cX6_costBy 38 = .ok (.ifCond .eq 36, 3) := by decide +kernel
theorem dX6_costBy_41 : decode cX6_costBy 41 = .ok (.aload_n 0, 1) := by decide +kernel
theorem dX6_costBy_42 : decode cX6_costBy 42 = .ok (.getfield 11, 3) := by decide +kernel
theorem dX6_costBy_45 : decode cX6_costBy 45 = .ok (.iload_n 1, 1) := by decide +kernel
theorem dX6_costBy_46 : decode cX6_costBy 46 = .ok (.iconst 5, 1) := by decide +kernel
theorem dX6_costBy_47 : decode cX6_costBy 47 = .ok (.imul, 1) := by decide +kernel
theorem dX6_costBy_48 : decode cX6_costBy 48 = .ok (.iload_n 3, 1) := by decide +kernel
theorem dX6_costBy_49 : decode cX6_costBy 49 = .ok (.iadd, 1) := by decide +kernel
theorem dX6_costBy_50 : decode cX6_costBy 50 = .ok (.iaload, 1) := by decide +kernel
theorem dX6_costBy_51 : decode cX6_costBy 51 = .ok (.aload_n 0, 1) := by decide +kernel
theorem dX6_costBy_52 : decode cX6_costBy 52 = .ok (.getfield 15, 3) := by decide +kernel
theorem dX6_costBy_55 : decode cX6_costBy 55 = .ok (.iload_n 2, 1) := by decide +kernel
theorem dX6_costBy_56 : decode cX6_costBy 56 = .ok (.iaload, 1) := by decide +kernel
theorem dX6_costBy_57 : decode cX6_costBy 57 = .ok (.imul, 1) := by decide +kernel
theorem dX6_costBy_58 : decode cX6_costBy 58 = .ok (.aload_n 0, 1) := by decide +kernel
theorem dX6_costBy_59 : decode cX6_costBy 59 = .ok (.iload_n 3, 1) := by decide +kernel
theorem dX6_costBy_60 : decode cX6_costBy 60 = .ok (.iload_n 2, 1) := by decide +kernel
theorem dX6_costBy_61 : decode cX6_costBy 61 = .ok (.iconst 1, 1) := by decide +kernel
theorem dX6_costBy_62 : decode cX6_costBy 62 = .ok (.iload_n 3, 1) := by decide +kernel
theorem dX6_costBy_63 : decode cX6_costBy 63 = .ok (.ishl, 1) := by decide +kernel
theorem dX6_costBy_64 : decode cX6_costBy 64 = .ok (.iconst (-1), 1) := by decide +kernel
theorem dX6_costBy_65 : decode cX6_costBy 65 = .ok (.ixor, 1) := by decide +kernel
theorem dX6_costBy_66 : decode cX6_costBy 66 = .ok (.iand, 1) := by decide +kernel
theorem dX6_costBy_67 : decode cX6_costBy 67 = .ok (.invokevirtual 50, 3) := by decide +kernel
theorem dX6_costBy_70 : decode cX6_costBy 70 = .ok (.iadd, 1) := by decide +kernel
theorem dX6_costBy_71 : decode cX6_costBy 71 = .ok (.goto 4, 3) := by decide +kernel
theorem dX6_costBy_74 : decode cX6_costBy 74 = .ok (.iconst 0, 1) := by decide +kernel
theorem dX6_costBy_75 : decode cX6_costBy 75 = .ok (.ireturn, 1) := by decide +kernel
theorem dX6_cheapestNext_0 : decode cX6_cheapestNext 0 = .ok (.iconst (-1), 1) := by decide +kernel
theorem dX6_cheapestNext_1 : decode cX6_cheapestNext 1 = .ok (.istore_n 3, 1) := by decide +kernel
theorem dX6_cheapestNext_2 : decode cX6_cheapestNext 2 = .ok (.iconst 0, 1) := by decide +kernel
theorem dX6_cheapestNext_3 : decode cX6_cheapestNext 3 = .ok (.istore 4, 2) := by decide +kernel
theorem dX6_cheapestNext_5 : decode cX6_cheapestNext 5 = .ok (.iconst 0, 1) := by decide +kernel
theorem dX6_cheapestNext_6 : decode cX6_cheapestNext 6 = .ok (.istore 5, 2) := by decide +kernel
theorem dX6_cheapestNext_8 : decode cX6_cheapestNext 8 = .ok (.iload 5, 2) := by decide +kernel
theorem dX6_cheapestNext_10 : decode cX6_cheapestNext 10 = .ok (.iconst 5, 1) := by decide +kernel
theorem dX6_cheapestNext_11 : decode cX6_cheapestNext 11 = .ok (.if_icmp .ge 47, 3) := by decide +kernel
theorem dX6_cheapestNext_14 : decode cX6_cheapestNext 14 = .ok (.iload_n 2, 1) := by decide +kernel
theorem dX6_cheapestNext_15 : decode cX6_cheapestNext 15 = .ok (.iload 5, 2) := by decide +kernel
theorem dX6_cheapestNext_17 : decode cX6_cheapestNext 17 = .ok (.ishr, 1) := by decide +kernel
theorem dX6_cheapestNext_18 : decode cX6_cheapestNext 18 = .ok (.iconst 1, 1) := by decide +kernel
theorem dX6_cheapestNext_19 : decode cX6_cheapestNext 19 = .ok (.iand, 1) := by decide +kernel
theorem dX6_cheapestNext_20 : decode cX6_cheapestNext 20 = .ok (.ifCond .eq 32, 3) := by decide +kernel
theorem dX6_cheapestNext_23 : decode cX6_cheapestNext 23 = .ok (.aload_n 0, 1) := by decide +kernel
theorem dX6_cheapestNext_24 : decode cX6_cheapestNext 24 = .ok (.iload_n 1, 1) := by decide +kernel
theorem dX6_cheapestNext_25 : decode cX6_cheapestNext 25 = .ok (.iload_n 2, 1) := by decide +kernel
theorem dX6_cheapestNext_26 : decode cX6_cheapestNext 26 = .ok (.iload 5, 2) := by decide +kernel
theorem dX6_cheapestNext_28 : decode cX6_cheapestNext 28 = .ok (.invokevirtual 46, 3) := by decide +kernel
theorem dX6_cheapestNext_31 : decode cX6_cheapestNext 31 = .ok (.istore 6, 2) := by decide +kernel
theorem dX6_cheapestNext_33 : decode cX6_cheapestNext 33 = .ok (.iload_n 3, 1) := by decide +kernel
theorem dX6_cheapestNext_34 : decode cX6_cheapestNext 34 = .ok (.iconst (-1), 1) := by decide +kernel
theorem dX6_cheapestNext_35 : decode cX6_cheapestNext 35 = .ok (.if_icmp .eq 10, 3) := by decide +kernel
theorem dX6_cheapestNext_38 : decode cX6_cheapestNext 38 = .ok (.iload 6, 2) := by decide +kernel
theorem dX6_cheapestNext_40 : decode cX6_cheapestNext 40 = .ok (.iload 4, 2) := by decide +kernel
theorem dX6_cheapestNext_42 : decode cX6_cheapestNext 42 = .ok (.if_icmp .ge 10, 3) := by decide +kernel
theorem dX6_cheapestNext_45 : decode cX6_cheapestNext 45 = .ok (.iload 5, 2) := by decide +kernel
theorem dX6_cheapestNext_47 : decode cX6_cheapestNext 47 = .ok (.istore_n 3, 1) := by decide +kernel
theorem dX6_cheapestNext_48 : decode cX6_cheapestNext 48 = .ok (.iload 6, 2) := by decide +kernel
theorem dX6_cheapestNext_50 : decode cX6_cheapestNext 50 = .ok (.istore 4, 2) := by decide +kernel
theorem dX6_cheapestNext_52 : decode cX6_cheapestNext 52 = .ok (.iinc 5 1, 3) := by decide +kernel
theorem dX6_cheapestNext_55 : decode cX6_cheapestNext 55 = .ok (.goto (-47), 3) := by decide +kernel
theorem dX6_cheapestNext_58 : decode cX6_cheapestNext 58 = .ok (.iload_n 3, 1) := by decide +kernel
theorem dX6_cheapestNext_59 : decode cX6_cheapestNext 59 = .ok (.ireturn, 1) := by decide +kernel
theorem dX6_stopAt_0 : decode cX6_stopAt 0 = .ok (.iconst 5, 1) := by decide +kernel
theorem dX6_stopAt_1 : decode cX6_stopAt 1 = .ok (.istore_n 3, 1) := by decide +kernel
theorem dX6_stopAt_2 : decode cX6_stopAt 2 = .ok (.iload_n 1, 1) := by decide +kernel
theorem dX6_stopAt_3 : decode cX6_stopAt 3 = .ok (.istore 4, 2) := by decide +kernel
theorem dX6_stopAt_5 : decode cX6_stopAt 5 = .ok (.iconst 0, 1) := by decide +kernel
theorem dX6_stopAt_6 : decode cX6_stopAt 6 = .ok (.istore 5, 2) := by decide +kernel
theorem dX6_stopAt_8 : decode cX6_stopAt 8 = .ok (.iload 5, 2) := by decide +kernel
theorem dX6_stopAt_10 : decode cX6_stopAt 10 = .ok (.iconst 5, 1) := by decide +kernel
theorem dX6_stopAt_11 : decode cX6_stopAt 11 = .ok (.if_icmp .ge 52, 3) := by decide +kernel
theorem dX6_stopAt_14 : decode cX6_stopAt 14 = .ok (.iload 4, 2) := by decide +kernel
theorem dX6_stopAt_16 : decode cX6_stopAt 16 = .ok (.ifCond .eq 47, 3) := by decide +kernel
theorem dX6_stopAt_19 : decode cX6_stopAt 19 = .ok (.aload_n 0, 1) := by decide +kernel
theorem dX6_stopAt_20 : decode cX6_stopAt 20 = .ok (.iload_n 3, 1) := by decide +kernel
theorem dX6_stopAt_21 : decode cX6_stopAt 21 = .ok (.iload 4, 2) := by decide +kernel
theorem dX6_stopAt_23 : decode cX6_stopAt 23 = .ok (.invokevirtual 43, 3) := by decide +kernel
theorem dX6_stopAt_26 : decode cX6_stopAt 26 = .ok (.istore 6, 2) := by decide +kernel
theorem dX6_stopAt_28 : decode cX6_stopAt 28 = .ok (.iload 6, 2) := by decide +kernel
theorem dX6_stopAt_30 : decode cX6_stopAt 30 = .ok (.iconst (-1), 1) := by decide +kernel
theorem dX6_stopAt_31 : decode cX6_stopAt 31 = .ok (.if_icmp .eq 9, 3) := by decide +kernel
theorem dX6_stopAt_34 : decode cX6_stopAt 34 = .ok (.iload 5, 2) := by decide +kernel
theorem dX6_stopAt_36 : decode cX6_stopAt 36 = .ok (.iload_n 2, 1) := by decide +kernel
theorem dX6_stopAt_37 : decode cX6_stopAt 37 = .ok (.if_icmp .ne 6, 3) := by decide +kernel
theorem dX6_stopAt_40 : decode cX6_stopAt 40 = .ok (.iload 6, 2) := by decide +kernel
theorem dX6_stopAt_42 : decode cX6_stopAt 42 = .ok (.ireturn, 1) := by decide +kernel
theorem dX6_stopAt_43 : decode cX6_stopAt 43 = .ok (.iload 4, 2) := by decide +kernel
theorem dX6_stopAt_45 : decode cX6_stopAt 45 = .ok (.iconst 1, 1) := by decide +kernel
theorem dX6_stopAt_46 : decode cX6_stopAt 46 = .ok (.iload 6, 2) := by decide +kernel
theorem dX6_stopAt_48 : decode cX6_stopAt 48 = .ok (.ishl, 1) := by decide +kernel
theorem dX6_stopAt_49 : decode cX6_stopAt 49 = .ok (.iconst (-1), 1) := by decide +kernel
theorem dX6_stopAt_50 : decode cX6_stopAt 50 = .ok (.ixor, 1) := by decide +kernel
theorem dX6_stopAt_51 : decode cX6_stopAt 51 = .ok (.iand, 1) := by decide +kernel
theorem dX6_stopAt_52 : decode cX6_stopAt 52 = .ok (.istore 4, 2) := by decide +kernel
theorem dX6_stopAt_54 : decode cX6_stopAt 54 = .ok (.iload 6, 2) := by decide +kernel
theorem dX6_stopAt_56 : decode cX6_stopAt 56 = .ok (.istore_n 3, 1) := by decide +kernel
theorem dX6_stopAt_57 : decode cX6_stopAt 57 = .ok (.iinc 5 1, 3) := by decide +kernel
theorem dX6_stopAt_60 : decode cX6_stopAt 60 = .ok (.goto (-52), 3) := by decide +kernel
theorem dX6_stopAt_63 : decode cX6_stopAt 63 = .ok (.iconst (-1), 1) := by decide +kernel
theorem dX6_stopAt_64 : decode cX6_stopAt 64 = .ok (.ireturn, 1) := by decide +kernel
theorem dX6_leastParted_0 : decode cX6_leastParted 0 = .ok (.aload_n 0, 1) := by decide +kernel
theorem dX6_leastParted_1 : decode cX6_leastParted 1 = .ok (.iconst 5, 1) := by decide +kernel
theorem dX6_leastParted_2 : decode cX6_leastParted 2 = .ok (.iload_n 1, 1) := by decide +kernel
theorem dX6_leastParted_3 : decode cX6_leastParted 3 = .ok (.invokevirtual 50, 3) := by decide +kernel
theorem dX6_leastParted_6 : decode cX6_leastParted 6 = .ok (.aload_n 0, 1) := by decide +kernel
theorem dX6_leastParted_7 : decode cX6_leastParted 7 = .ok (.bipush 6, 2) := by decide +kernel
theorem dX6_leastParted_9 : decode cX6_leastParted 9 = .ok (.iload_n 2, 1) := by decide +kernel
theorem dX6_leastParted_10 : decode cX6_leastParted 10 = .ok (.iload_n 1, 1) := by decide +kernel
theorem dX6_leastParted_11 : decode cX6_leastParted 11 = .ok (.iconst (-1), 1) := by decide +kernel
theorem dX6_leastParted_12 : decode cX6_leastParted 12 = .ok (.ixor, 1) := by decide +kernel
theorem dX6_leastParted_13 : decode cX6_leastParted 13 = .ok (.iand, 1) := by decide +kernel
theorem dX6_leastParted_14 : decode cX6_leastParted 14 = .ok (.invokevirtual 50, 3) := by decide +kernel
theorem dX6_leastParted_17 : decode cX6_leastParted 17 = .ok (.iadd, 1) := by decide +kernel
theorem dX6_leastParted_18 : decode cX6_leastParted 18 = .ok (.ireturn, 1) := by decide +kernel
theorem dX6_bestShare_0 : decode cX6_bestShare 0 = .ok (.iconst 0, 1) := by decide +kernel
theorem dX6_bestShare_1 : decode cX6_bestShare 1 = .ok (.istore_n 2, 1) := by decide +kernel
theorem dX6_bestShare_2 : decode cX6_bestShare 2 = .ok (.iconst 1, 1) := by decide +kernel
theorem dX6_bestShare_3 : decode cX6_bestShare 3 = .ok (.istore_n 3, 1) := by decide +kernel
theorem dX6_bestShare_4 : decode cX6_bestShare 4 = .ok (.iload_n 3, 1) := by decide +kernel
theorem dX6_bestShare_5 : decode cX6_bestShare 5 = .ok (.bipush 32, 2) := by decide +kernel
theorem dX6_bestShare_7 : decode cX6_bestShare 7 = .ok (.if_icmp .ge 46, 3) := by decide +kernel
theorem dX6_bestShare_10 : decode cX6_bestShare 10 = .ok (.iload_n 3, 1) := by decide +kernel
theorem dX6_bestShare_11 : decode cX6_bestShare 11 = .ok (.iload_n 1, 1) := by decide +kernel
theorem dX6_bestShare_12 : decode cX6_bestShare 12 = .ok (.iconst (-1), 1) := by decide +kernel
theorem dX6_bestShare_13 : decode cX6_bestShare 13 = .ok (.ixor, 1) := by decide +kernel
theorem dX6_bestShare_14 : decode cX6_bestShare 14 = .ok (.iand, 1) := by decide +kernel
theorem dX6_bestShare_15 : decode cX6_bestShare 15 = .ok (.ifCond .ne 7, 3) := by decide +kernel
theorem dX6_bestShare_18 : decode cX6_bestShare 18 = .ok (.iconst 1, 1) := by decide +kernel
theorem dX6_bestShare_19 : decode cX6_bestShare 19 = .ok (.goto 4, 3) := by decide +kernel
theorem dX6_bestShare_22 : decode cX6_bestShare 22 = .ok (.iconst 0, 1) := by decide +kernel
theorem dX6_bestShare_23 : decode cX6_bestShare 23 = .ok (.istore 4, 2) := by decide +kernel
theorem dX6_bestShare_25 : decode cX6_bestShare 25 = .ok (.iload 4, 2) := by decide +kernel
theorem dX6_bestShare_27 : decode cX6_bestShare 27 = .ok (.ifCond .eq 20, 3) := by decide +kernel
theorem dX6_bestShare_30 : decode cX6_bestShare 30 = .ok (.aload_n 0, 1) := by decide +kernel
theorem dX6_bestShare_31 : decode cX6_bestShare 31 = .ok (.iload_n 3, 1) := by decide +kernel
theorem dX6_bestShare_32 : decode cX6_bestShare 32 = .ok (.iload_n 1, 1) := by decide +kernel
theorem dX6_bestShare_33 : decode cX6_bestShare 33 = .ok (.invokevirtual 53, 3) := by decide +kernel
theorem dX6_bestShare_36 : decode cX6_bestShare 36 = .ok (.aload_n 0, 1) := by decide +kernel
theorem dX6_bestShare_37 : decode cX6_bestShare 37 = .ok (.iload_n 2, 1) := by decide +kernel
theorem dX6_bestShare_38 : decode cX6_bestShare 38 = .ok (.iload_n 1, 1) := by decide +kernel
theorem dX6_bestShare_39 : decode cX6_bestShare 39 = .ok (.invokevirtual 53, 3) := by decide +kernel
theorem dX6_bestShare_42 : decode cX6_bestShare 42 = .ok (.if_icmp .ge 5, 3) := by decide +kernel
theorem dX6_bestShare_45 : decode cX6_bestShare 45 = .ok (.iload_n 3, 1) := by decide +kernel
theorem dX6_bestShare_46 : decode cX6_bestShare 46 = .ok (.istore_n 2, 1) := by decide +kernel
theorem dX6_bestShare_47 : decode cX6_bestShare 47 = .ok (.iinc 3 1, 3) := by decide +kernel
theorem dX6_bestShare_50 : decode cX6_bestShare 50 = .ok (.goto (-46), 3) := by decide +kernel
theorem dX6_bestShare_53 : decode cX6_bestShare 53 = .ok (.iload_n 2, 1) := by decide +kernel
theorem dX6_bestShare_54 : decode cX6_bestShare 54 = .ok (.ireturn, 1) := by decide +kernel
theorem dX7_init_0 : decode cX7_init 0 = .ok (.aload_n 0, 1) := by decide +kernel
theorem dX7_init_1 : decode cX7_init 1 = .ok (.invokespecial 3, 3) := by decide +kernel
theorem dX7_init_4 : decode cX7_init 4 = .ok (.aload_n 0, 1) := by decide +kernel
theorem dX7_init_5 : decode cX7_init 5 = .ok (.bipush 64, 2) := by decide +kernel
theorem dX7_init_7 : decode cX7_init 7 = .ok (.newarray .int, 2) := by decide +kernel
end
section
theorem dX7_init_9 : decode cX7_init 9 = .ok (.putfield 9, 3) := by decide +kernel
theorem dX7_init_12 : decode cX7_init 12 = .ok (.aload_n 0, 1) := by decide +kernel
theorem dX7_init_13 : decode cX7_init 13 = .ok (.iconst (-1), 1) := by decide +kernel
theorem dX7_init_14 : decode cX7_init 14 = .ok (.putfield 15, 3) := by decide +kernel
theorem dX7_init_17 : decode cX7_init 17 = .ok (.aload_n 0, 1) := by decide +kernel
theorem dX7_init_18 : decode cX7_init 18 = .ok (.iconst 0, 1) := by decide +kernel
theorem dX7_init_19 : decode cX7_init 19 = .ok (.putfield 19, 3) := by decide +kernel
theorem dX7_init_22 : decode cX7_init 22 = .ok (.return_, 1) := by decide +kernel
theorem dX7_isLost_0 : decode cX7_isLost 0 = .ok (.aload_n 0, 1) := by decide +kernel
theorem dX7_isLost_1 : decode cX7_isLost 1 = .ok (.getfield 15, 3) := by decide +kernel
theorem dX7_isLost_4 : decode cX7_isLost 4 = .ok (.iconst (-1), 1) := by decide +kernel
theorem dX7_isLost_5 : decode cX7_isLost 5 = .ok (.if_icmp .ne 7, 3) := by decide +kernel
theorem dX7_isLost_8 : decode cX7_isLost 8 = .ok (.iconst 1, 1) := by decide +kernel
theorem dX7_isLost_9 : decode cX7_isLost 9 = .ok (.goto 4, 3) := by decide +kernel
theorem dX7_isLost_12 : decode cX7_isLost 12 = .ok (.iconst 0, 1) := by decide +kernel
theorem dX7_isLost_13 : decode cX7_isLost 13 = .ok (.ireturn, 1) := by decide +kernel
theorem dX7_renew_0 : decode cX7_renew 0 = .ok (.aload_n 0, 1) := by decide +kernel
theorem dX7_renew_1 : decode cX7_renew 1 = .ok (.getfield 9, 3) := by decide +kernel
theorem dX7_renew_4 : decode cX7_renew 4 = .ok (.iconst 0, 1) := by decide +kernel
theorem dX7_renew_5 : decode cX7_renew 5 = .ok (.invokestatic 22, 3) := by decide +kernel
theorem dX7_renew_8 : decode cX7_renew 8 = .ok (.aload_n 0, 1) := by decide +kernel
theorem dX7_renew_9 : decode cX7_renew 9 = .ok (.iload_n 1, 1) := by decide +kernel
theorem dX7_renew_10 : decode cX7_renew 10 = .ok (.putfield 15, 3) := by decide +kernel
theorem dX7_renew_13 : decode cX7_renew 13 = .ok (.aload_n 0, 1) := by decide +kernel
theorem dX7_renew_14 : decode cX7_renew 14 = .ok (.iload_n 2, 1) := by decide +kernel
theorem dX7_renew_15 : decode cX7_renew 15 = .ok (.bipush 64, 2) := by decide +kernel
theorem dX7_renew_17 : decode cX7_renew 17 = .ok (.invokestatic 28, 3) := by decide +kernel
theorem dX7_renew_20 : decode cX7_renew 20 = .ok (.putfield 19, 3) := by decide +kernel
theorem dX7_renew_23 : decode cX7_renew 23 = .ok (.return_, 1) := by decide +kernel
theorem dX7_giveUp_0 : decode cX7_giveUp 0 = .ok (.aload_n 0, 1) := by decide +kernel
theorem dX7_giveUp_1 : decode cX7_giveUp 1 = .ok (.iconst (-1), 1) := by decide +kernel
theorem dX7_giveUp_2 : decode cX7_giveUp 2 = .ok (.putfield 15, 3) := by decide +kernel
theorem dX7_giveUp_5 : decode cX7_giveUp 5 = .ok (.aload_n 0, 1) := by decide +kernel
theorem dX7_giveUp_6 : decode cX7_giveUp 6 = .ok (.iconst 0, 1) := by decide +kernel
theorem dX7_giveUp_7 : decode cX7_giveUp 7 = .ok (.putfield 19, 3) := by decide +kernel
theorem dX7_giveUp_10 : decode cX7_giveUp 10 = .ok (.return_, 1) := by decide +kernel
theorem dX7_has_0 : decode cX7_has 0 = .ok (.iload_n 1, 1) := by decide +kernel
theorem dX7_has_1 : decode cX7_has 1 = .ok (.ifCond .lt 21, 3) := by decide +kernel
theorem dX7_has_4 : decode cX7_has 4 = .ok (.iload_n 1, 1) := by decide +kernel
theorem dX7_has_5 : decode cX7_has 5 = .ok (.aload_n 0, 1) := by decide +kernel
theorem dX7_has_6 : decode cX7_has 6 = .ok (.getfield 19, 3) := by decide +kernel
theorem dX7_has_9 : decode cX7_has 9 = .ok (.if_icmp .ge 13, 3) := by decide +kernel
theorem dX7_has_12 : decode cX7_has 12 = .ok (.iload_n 1, 1) := by decide +kernel
theorem dX7_has_13 : decode cX7_has 13 = .ok (.bipush 64, 2) := by decide +kernel
theorem dX7_has_15 : decode cX7_has 15 = .ok (.if_icmp .ge 7, 3) := by decide +kernel
theorem dX7_has_18 : decode cX7_has 18 = .ok (.iconst 1, 1) := by decide +kernel
theorem dX7_has_19 : decode cX7_has 19 = .ok (.goto 4, 3) := by decide +kernel
theorem dX7_has_22 : decode cX7_has 22 = .ok (.iconst 0, 1) := by decide +kernel
theorem dX7_has_23 : decode cX7_has 23 = .ok (.ireturn, 1) := by decide +kernel
theorem dX7_hasRun_0 : decode cX7_hasRun 0 = .ok (.iload_n 1, 1) := by decide +kernel
theorem dX7_hasRun_1 : decode cX7_hasRun 1 = .ok (.ifCond .lt 21, 3) := by decide +kernel
theorem dX7_hasRun_4 : decode cX7_hasRun 4 = .ok (.iload_n 2, 1) := by decide +kernel
theorem dX7_hasRun_5 : decode cX7_hasRun 5 = .ok (.ifCond .lt 17, 3) := by decide +kernel
theorem dX7_hasRun_8 : decode cX7_hasRun 8 = .ok (.iload_n 1, 1) := by decide +kernel
theorem dX7_hasRun_9 : decode cX7_hasRun 9 = .ok (.aload_n 0, 1) := by decide +kernel
theorem dX7_hasRun_10 : decode cX7_hasRun 10 = .ok (.getfield 19, 3) := by decide +kernel
theorem dX7_hasRun_13 : decode cX7_hasRun 13 = .ok (.iload_n 2, 1) := by decide +kernel
theorem dX7_hasRun_14 : decode cX7_hasRun 14 = .ok (.isub, 1) := by decide +kernel
theorem dX7_hasRun_15 : decode cX7_hasRun 15 = .ok (.if_icmp .gt 7, 3) := by decide +kernel
theorem dX7_hasRun_18 : decode cX7_hasRun 18 = .ok (.iconst 1, 1) := by decide +kernel
theorem dX7_hasRun_19 : decode cX7_hasRun 19 = .ok (.goto 4, 3) := by decide +kernel
theorem dX7_hasRun_22 : decode cX7_hasRun 22 = .ok (.iconst 0, 1) := by decide +kernel
theorem dX7_hasRun_23 : decode cX7_hasRun 23 = .ok (.ireturn, 1) := by decide +kernel
theorem dX7_wrongWith_0 : decode cX7_wrongWith 0 = .ok (.aload_n 0, 1) := by decide +kernel
theorem dX7_wrongWith_1 : decode cX7_wrongWith 1 = .ok (.invokevirtual 34, 3) := by decide +kernel
theorem dX7_wrongWith_4 : decode cX7_wrongWith 4 = .ok (.ifCond .eq 5, 3) := by decide +kernel
theorem dX7_wrongWith_7 : decode cX7_wrongWith 7 = .ok (.iconst 1, 1) := by decide +kernel
theorem dX7_wrongWith_8 : decode cX7_wrongWith 8 = .ok (.ireturn, 1) := by decide +kernel
theorem dX7_wrongWith_9 : decode cX7_wrongWith 9 = .ok (.aload_n 0, 1) := by decide +kernel
theorem dX7_wrongWith_10 : decode cX7_wrongWith 10 = .ok (.getfield 15, 3) := by decide +kernel
theorem dX7_wrongWith_13 : decode cX7_wrongWith 13 = .ok (.iload_n 1, 1) := by decide +kernel
theorem dX7_wrongWith_14 : decode cX7_wrongWith 14 = .ok (.if_icmp .eq 5, 3) := by decide +kernel
theorem dX7_wrongWith_17 : decode cX7_wrongWith 17 = .ok (.iconst 3, 1) := by decide +kernel
theorem dX7_wrongWith_18 : decode cX7_wrongWith 18 = .ok (.ireturn, 1) := by decide +kernel
theorem dX7_wrongWith_19 : decode cX7_wrongWith 19 = .ok (.aload_n 0, 1) := by decide +kernel
theorem dX7_wrongWith_20 : decode cX7_wrongWith 20 = .ok (.iload_n 2, 1) := by decide +kernel
theorem dX7_wrongWith_21 : decode cX7_wrongWith 21 = .ok (.invokevirtual 38, 3) := by decide +kernel
theorem dX7_wrongWith_24 : decode cX7_wrongWith 24 = .ok (.ifCond .eq 7, 3) := by decide +kernel
theorem dX7_wrongWith_27 : decode cX7_wrongWith 27 = .ok (.iconst 0, 1) := by decide +kernel
theorem dX7_wrongWith_28 : decode cX7_wrongWith 28 = .ok (.goto 4, 3) := by decide +kernel
theorem dX7_wrongWith_31 : decode cX7_wrongWith 31 = .ok (.iconst 2, 1) := by decide +kernel
theorem dX7_wrongWith_32 : decode cX7_wrongWith 32 = .ok (.ireturn, 1) := by decide +kernel
theorem dX7_itemAt_0 : decode cX7_itemAt 0 = .ok (.aload_n 0, 1) := by decide +kernel
theorem dX7_itemAt_1 : decode cX7_itemAt 1 = .ok (.iload_n 1, 1) := by decide +kernel
theorem dX7_itemAt_2 : decode cX7_itemAt 2 = .ok (.invokevirtual 38, 3) := by decide +kernel
theorem dX7_itemAt_5 : decode cX7_itemAt 5 = .ok (.ifCond .eq 12, 3) := by decide +kernel
theorem dX7_itemAt_8 : decode cX7_itemAt 8 = .ok (.aload_n 0, 1) := by decide +kernel
theorem dX7_itemAt_9 : decode cX7_itemAt 9 = .ok (.getfield 9, 3) := by decide +kernel
theorem dX7_itemAt_12 : decode cX7_itemAt 12 = .ok (.iload_n 1, 1) := by decide +kernel
theorem dX7_itemAt_13 : decode cX7_itemAt 13 = .ok (.iaload, 1) := by decide +kernel
theorem dX7_itemAt_14 : decode cX7_itemAt 14 = .ok (.goto 4, 3) := by decide +kernel
theorem dX7_itemAt_17 : decode cX7_itemAt 17 = .ok (.iconst 0, 1) := by decide +kernel
theorem dX7_itemAt_18 : decode cX7_itemAt 18 = .ok (.ireturn, 1) := by decide +kernel
theorem dX7_putItem_0 : decode cX7_putItem 0 = .ok (.aload_n 0, 1) := by decide +kernel
theorem dX7_putItem_1 : decode cX7_putItem 1 = .ok (.iload_n 1, 1) := by decide +kernel
theorem dX7_putItem_2 : decode cX7_putItem 2 = .ok (.invokevirtual 38, 3) := by decide +kernel
theorem dX7_putItem_5 : decode cX7_putItem 5 = .ok (.ifCond .eq 35, 3) := by decide +kernel
theorem dX7_putItem_8 : decode cX7_putItem 8 = .ok (.aload_n 0, 1) := by decide +kernel
theorem dX7_putItem_9 : decode cX7_putItem 9 = .ok (.getfield 9, 3) := by decide +kernel
theorem dX7_putItem_12 : decode cX7_putItem 12 = .ok (.iload_n 1, 1) := by decide +kernel
theorem dX7_putItem_13 : decode cX7_putItem 13 = .ok (.aload_n 0, 1) := by decide +kernel
theorem dX7_putItem_14 : decode cX7_putItem 14 = .ok (.getfield 15, 3) := by decide +kernel
theorem dX7_putItem_17 : decode cX7_putItem 17 = .ok (.ifCond .ne 8, 3) := by decide +kernel
theorem dX7_putItem_20 : decode cX7_putItem 20 = .ok (.iload_n 2, 1) := by decide +kernel
theorem dX7_putItem_21 : decode cX7_putItem 21 = .ok (.i2b, 1) := by decide +kernel
theorem dX7_putItem_22 : decode cX7_putItem 22 = .ok (.goto 17, 3) := by decide +kernel
theorem dX7_putItem_25 : decode cX7_putItem 25 = .ok (.aload_n 0, 1) := by decide +kernel
theorem dX7_putItem_26 : decode cX7_putItem 26 = .ok (.getfield 15, 3) := by decide +kernel
theorem dX7_putItem_29 : decode cX7_putItem 29 = .ok (.iconst 1, 1) := by decide +kernel
theorem dX7_putItem_30 : decode cX7_putItem 30 = .ok (.if_icmp .ne 8, 3) := by decide +kernel
theorem dX7_putItem_33 : decode cX7_putItem 33 = .ok (.iload_n 2, 1) := by decide +kernel
theorem dX7_putItem_34 : decode cX7_putItem 34 = .ok (.i2s, 1) := by decide +kernel
theorem dX7_putItem_35 : decode cX7_putItem 35 = .ok (.goto 4, 3) := by decide +kernel
theorem dX7_putItem_38 : decode cX7_putItem 38 = .ok (.iload_n 2, 1) := by decide +kernel
theorem dX7_putItem_39 : decode cX7_putItem 39 = .ok (.iastore, 1) := by decide +kernel
theorem dX7_putItem_40 : decode cX7_putItem 40 = .ok (.return_, 1) := by decide +kernel
theorem dX8_init_0 : decode cX8_init 0 = .ok (.aload_n 0, 1) := by decide +kernel
theorem dX8_init_1 : decode cX8_init 1 = .ok (.invokespecial 3, 3) := by decide +kernel
theorem dX8_init_4 : decode cX8_init 4 = .ok (.aload_n 0, 1) := by decide +kernel
theorem dX8_init_5 : decode cX8_init 5 = .ok (.iconst 0, 1) := by decide +kernel
theorem dX8_init_6 : decode cX8_init 6 = .ok (.putfield 9, 3) := by decide +kernel
theorem dX8_init_9 : decode cX8_init 9 = .ok (.aload_n 0, 1) := by decide +kernel
theorem dX8_init_10 : decode cX8_init 10 = .ok (.invokevirtual 15, 3) := by decide +kernel
theorem dX8_init_13 : decode cX8_init 13 = .ok (.return_, 1) := by decide +kernel
theorem dX8_startWhole_0 : decode cX8_startWhole 0 = .ok (.aload_n 0, 1) := by decide +kernel
theorem dX8_startWhole_1 : decode cX8_startWhole 1 = .ok (.iconst 0, 1) := by decide +kernel
theorem dX8_startWhole_2 : decode cX8_startWhole 2 = .ok (.putfield 18, 3) := by decide +kernel
theorem dX8_startWhole_5 : decode cX8_startWhole 5 = .ok (.aload_n 0, 1) := by decide +kernel
theorem dX8_startWhole_6 : decode cX8_startWhole 6 = .ok (.iconst (-1), 1) := by decide +kernel
theorem dX8_startWhole_7 : decode cX8_startWhole 7 = .ok (.putfield 21, 3) := by decide +kernel
theorem dX8_startWhole_10 : decode cX8_startWhole 10 = .ok (.aload_n 0, 1) := by decide +kernel
theorem dX8_startWhole_11 : decode cX8_startWhole 11 = .ok (.iconst (-1), 1) := by decide +kernel
theorem dX8_startWhole_12 : decode cX8_startWhole 12 = .ok (.putfield 24, 3) := by decide +kernel
theorem dX8_startWhole_15 : decode cX8_startWhole 15 = .ok (.aload_n 0, 1) := by decide +kernel
theorem dX8_startWhole_16 : decode cX8_startWhole 16 = .ok (.iconst 0, 1) := by decide +kernel
theorem dX8_startWhole_17 : decode cX8_startWhole 17 = .ok (.putfield 27, 3) := by decide +kernel
theorem dX8_startWhole_20 : decode cX8_startWhole 20 = .ok (.return_, 1) := by decide +kernel
theorem dX8_goStep_0 : decode cX8_goStep 0 = .ok (.iconst 0, 1) := by decide +kernel
theorem dX8_goStep_1 : decode cX8_goStep 1 = .ok (.istore 4, 2) := by decide +kernel
theorem dX8_goStep_3 : decode cX8_goStep 3 = .ok (.iload 4, 2) := by decide +kernel
theorem dX8_goStep_5 : decode cX8_goStep 5 = .ok (.aload_n 3, 1) := by decide +kernel
theorem dX8_goStep_6 : decode cX8_goStep 6 = .ok (.invokevirtual 30, 3) := by decide +kernel
theorem dX8_goStep_9 : decode cX8_goStep 9 = .ok (.if_icmp .ge 77, 3) := by decide +kernel
theorem dX8_goStep_12 : decode cX8_goStep 12 = .ok (.aload_n 0, 1) := by decide +kernel
theorem dX8_goStep_13 : decode cX8_goStep 13 = .ok (.getfield 18, 3) := by decide +kernel
theorem dX8_goStep_16 : decode cX8_goStep 16 = .ok (.iload 4, 2) := by decide +kernel
theorem dX8_goStep_18 : decode cX8_goStep 18 = .ok (.ishr, 1) := by decide +kernel
theorem dX8_goStep_19 : decode cX8_goStep 19 = .ok (.iconst 1, 1) := by decide +kernel
theorem dX8_goStep_20 : decode cX8_goStep 20 = .ok (.iand, 1) := by decide +kernel
theorem dX8_goStep_21 : decode cX8_goStep 21 = .ok (.ifCond .ne 59, 3) := by decide +kernel
theorem dX8_goStep_24 : decode cX8_goStep 24 = .ok (.aload_n 0, 1) := by decide +kernel
theorem dX8_goStep_25 : decode cX8_goStep 25 = .ok (.iload_n 2, 1) := by decide +kernel
theorem dX8_goStep_26 : decode cX8_goStep 26 = .ok (.aload_n 3, 1) := by decide +kernel
theorem dX8_goStep_27 : decode cX8_goStep 27 = .ok (.iload 4, 2) := by decide +kernel
theorem dX8_goStep_29 : decode cX8_goStep 29 = .ok (.invokevirtual 36, 3) := by decide +kernel
theorem dX8_goStep_32 : decode cX8_goStep 32 = .ok (.invokevirtual 40, 3) := by decide +kernel
theorem dX8_goStep_35 : decode cX8_goStep 35 = .ok (.ifCond .eq 45, 3) := by decide +kernel
theorem dX8_goStep_38 : decode cX8_goStep 38 = .ok (.aload_n 0, 1) := by decide +kernel
theorem dX8_goStep_39 : decode cX8_goStep 39 = .ok (.dup, 1) := by decide +kernel
theorem dX8_goStep_40 : decode cX8_goStep 40 = .ok (.getfield 18, 3) := by decide +kernel
theorem dX8_goStep_43 : decode cX8_goStep 43 = .ok (.iconst 1, 1) := by decide +kernel
theorem dX8_goStep_44 : decode cX8_goStep 44 = .ok (.iload 4, 2) := by decide +kernel
theorem dX8_goStep_46 : decode cX8_goStep 46 = .ok (.ishl, 1) := by decide +kernel
theorem dX8_goStep_47 : decode cX8_goStep 47 = .ok (.ior, 1) := by decide +kernel
theorem dX8_goStep_48 : decode cX8_goStep 48 = .ok (.putfield 18, 3) := by decide +kernel
theorem dX8_goStep_51 : decode cX8_goStep 51 = .ok (.aload_n 0, 1) := by decide +kernel
theorem dX8_goStep_52 : decode cX8_goStep 52 = .ok (.dup, 1) := by decide +kernel
theorem dX8_goStep_53 : decode cX8_goStep 53 = .ok (.getfield 27, 3) := by decide +kernel
theorem dX8_goStep_56 : decode cX8_goStep 56 = .ok (.iconst 1, 1) := by decide +kernel
theorem dX8_goStep_57 : decode cX8_goStep 57 = .ok (.iadd, 1) := by decide +kernel
theorem dX8_goStep_58 : decode cX8_goStep 58 = .ok (.putfield 27, 3) := by decide +kernel
theorem dX8_goStep_61 : decode cX8_goStep 61 = .ok (.aload_n 0, 1) := by decide +kernel
theorem dX8_goStep_62 : decode cX8_goStep 62 = .ok (.getfield 21, 3) := by decide +kernel
theorem dX8_goStep_65 : decode cX8_goStep 65 = .ok (.iconst (-1), 1) := by decide +kernel
theorem dX8_goStep_66 : decode cX8_goStep 66 = .ok (.if_icmp .ne 14, 3) := by decide +kernel
theorem dX8_goStep_69 : decode cX8_goStep 69 = .ok (.aload_n 0, 1) := by decide +kernel
theorem dX8_goStep_70 : decode cX8_goStep 70 = .ok (.iload 4, 2) := by decide +kernel
theorem dX8_goStep_72 : decode cX8_goStep 72 = .ok (.putfield 21, 3) := by decide +kernel
theorem dX8_goStep_75 : decode cX8_goStep 75 = .ok (.aload_n 0, 1) := by decide +kernel
theorem dX8_goStep_76 : decode cX8_goStep 76 = .ok (.iload_n 1, 1) := by decide +kernel
theorem dX8_goStep_77 : decode cX8_goStep 77 = .ok (.putfield 24, 3) := by decide +kernel
theorem dX8_goStep_80 : decode cX8_goStep 80 = .ok (.iinc 4 1, 3) := by decide +kernel
theorem dX8_goStep_83 : decode cX8_goStep 83 = .ok (.goto (-80), 3) := by decide +kernel
theorem dX8_goStep_86 : decode cX8_goStep 86 = .ok (.return_, 1) := by decide +kernel
theorem dX8_tears_0 : decode cX8_tears 0 = .ok (.aload_n 0, 1) := by decide +kernel
theorem dX8_tears_1 : decode cX8_tears 1 = .ok (.invokevirtual 44, 3) := by decide +kernel
theorem dX8_tears_4 : decode cX8_tears 4 = .ok (.iload_n 1, 1) := by decide +kernel
theorem dX8_tears_5 : decode cX8_tears 5 = .ok (.if_icmp .ge 15, 3) := by decide +kernel
theorem dX8_tears_8 : decode cX8_tears 8 = .ok (.aload_n 0, 1) := by decide +kernel
theorem dX8_tears_9 : decode cX8_tears 9 = .ok (.invokevirtual 44, 3) := by decide +kernel
theorem dX8_tears_12 : decode cX8_tears 12 = .ok (.iload_n 2, 1) := by decide +kernel
theorem dX8_tears_13 : decode cX8_tears 13 = .ok (.if_icmp .lt 7, 3) := by decide +kernel
theorem dX8_tears_16 : decode cX8_tears 16 = .ok (.iconst 1, 1) := by decide +kernel
theorem dX8_tears_17 : decode cX8_tears 17 = .ok (.goto 4, 3) := by decide +kernel
theorem dX8_tears_20 : decode cX8_tears 20 = .ok (.iconst 0, 1) := by decide +kernel
theorem dX8_tears_21 : decode cX8_tears 21 = .ok (.ireturn, 1) := by decide +kernel
theorem dX8_lotOfSixteen_0 : decode cX8_lotOfSixteen 0 = .ok (.aload_n 0, 1) := by decide +kernel
theorem dX8_lotOfSixteen_1 : decode cX8_lotOfSixteen 1 = .ok (.ldc 47, 2) := by decide +kernel
theorem dX8_lotOfSixteen_3 : decode cX8_lotOfSixteen 3 = .ok (.aload_n 0, 1) := by decide +kernel
theorem dX8_lotOfSixteen_4 : decode cX8_lotOfSixteen 4 = .ok (.getfield 9, 3) := by decide +kernel
theorem dX8_lotOfSixteen_7 : decode cX8_lotOfSixteen 7 = .ok (.imul, 1) := by decide +kernel
theorem dX8_lotOfSixteen_8 : decode cX8_lotOfSixteen 8 = .ok (.sipush 12345, 3) := by decide +kernel
theorem dX8_lotOfSixteen_11 : decode cX8_lotOfSixteen 11 = .ok (.iadd, 1) := by decide +kernel
theorem dX8_lotOfSixteen_12 : decode cX8_lotOfSixteen 12 = .ok (.putfield 9, 3) := by decide +kernel
theorem dX8_lotOfSixteen_15 : decode cX8_lotOfSixteen 15 = .ok (.aload_n 0, 1) := by decide +kernel
theorem dX8_lotOfSixteen_16 : decode cX8_lotOfSixteen 16 = .ok (.getfield 9, 3) := by decide +kernel
theorem dX8_lotOfSixteen_19 : decode cX8_lotOfSixteen 19 = .ok (.bipush 16, 2) := by decide +kernel
theorem dX8_lotOfSixteen_21 : decode cX8_lotOfSixteen 21 = .ok (.iushr, 1) := by decide +kernel
theorem dX8_lotOfSixteen_22 : decode cX8_lotOfSixteen 22 = .ok (.bipush 16, 2) := by decide +kernel
theorem dX8_lotOfSixteen_24 : decode cX8_lotOfSixteen 24 = .ok (.irem, 1) := by decide +kernel
theorem dX8_lotOfSixteen_25 : decode cX8_lotOfSixteen 25 = .ok (.ireturn, 1) := by decide +kernel
theorem dX9_init_0 : decode cX9_init 0 = .ok (.aload_n 0, 1) := by decide +kernel
theorem dX9_init_1 : decode cX9_init 1 = .ok (.invokespecial 3, 3) := by decide +kernel
theorem dX9_init_4 : decode cX9_init 4 = .ok (.aload_n 0, 1) := by decide +kernel
theorem dX9_init_5 : decode cX9_init 5 = .ok (.iload_n 1, 1) := by decide +kernel
theorem dX9_init_6 : decode cX9_init 6 = .ok (.putfield 9, 3) := by decide +kernel
theorem dX9_init_9 : decode cX9_init 9 = .ok (.aload_n 0, 1) := by decide +kernel
theorem dX9_init_10 : decode cX9_init 10 = .ok (.bipush 71, 2) := by decide +kernel
theorem dX9_init_12 : decode cX9_init 12 = .ok (.newarray .int, 2) := by decide +kernel
theorem dX9_init_14 : decode cX9_init 14 = .ok (.putfield 15, 3) := by decide +kernel
theorem dX9_init_17 : decode cX9_init 17 = .ok (.aload_n 0, 1) := by decide +kernel
theorem dX9_init_18 : decode cX9_init 18 = .ok (.iconst 0, 1) := by decide +kernel
theorem dX9_init_19 : decode cX9_init 19 = .ok (.putfield 19, 3) := by decide +kernel
theorem dX9_init_22 : decode cX9_init 22 = .ok (.aload_n 0, 1) := by decide +kernel
theorem dX9_init_23 : decode cX9_init 23 = .ok (.iconst (-1), 1) := by decide +kernel
theorem dX9_init_24 : decode cX9_init 24 = .ok (.putfield 22, 3) := by decide +kernel
theorem dX9_init_27 : decode cX9_init 27 = .ok (.return_, 1) := by decide +kernel
theorem dX9_isFull_0 : decode cX9_isFull 0 = .ok (.aload_n 0, 1) := by decide +kernel
theorem dX9_isFull_1 : decode cX9_isFull 1 = .ok (.getfield 19, 3) := by decide +kernel
theorem dX9_isFull_4 : decode cX9_isFull 4 = .ok (.aload_n 0, 1) := by decide +kernel
theorem dX9_isFull_5 : decode cX9_isFull 5 = .ok (.getfield 9, 3) := by decide +kernel
theorem dX9_isFull_8 : decode cX9_isFull 8 = .ok (.if_icmp .ge 12, 3) := by decide +kernel
theorem dX9_isFull_11 : decode cX9_isFull 11 = .ok (.aload_n 0, 1) := by decide +kernel
theorem dX9_isFull_12 : decode cX9_isFull 12 = .ok (.getfield 19, 3) := by decide +kernel
theorem dX9_isFull_15 : decode cX9_isFull 15 = .ok (.bipush 71, 2) := by decide +kernel
theorem dX9_isFull_17 : decode cX9_isFull 17 = .ok (.if_icmp .lt 7, 3) := by decide +kernel
theorem dX9_isFull_20 : decode cX9_isFull 20 = .ok (.iconst 1, 1) := by decide +kernel
theorem dX9_isFull_21 : decode cX9_isFull 21 = .ok (.goto 4, 3) := by decide +kernel
theorem dX9_isFull_24 : decode cX9_isFull 24 = .ok (.iconst 0, 1) := by decide +kernel
theorem dX9_isFull_25 : decode cX9_isFull 25 = .ok (.ireturn, 1) := by decide +kernel
theorem dX9_append_0 : decode cX9_append 0 = .ok (.aload_n 0, 1) := by decide +kernel
theorem dX9_append_1 : decode cX9_append 1 = .ok (.getfield 19, 3) := by decide +kernel
theorem dX9_append_4 : decode cX9_append 4 = .ok (.ifCond .lt 32, 3) := by decide +kernel
theorem dX9_append_7 : decode cX9_append 7 = .ok (.aload_n 0, 1) := by decide +kernel
theorem dX9_append_8 : decode cX9_append 8 = .ok (.getfield 19, 3) := by decide +kernel
theorem dX9_append_11 : decode cX9_append 11 = .ok (.bipush 71, 2) := by decide +kernel
theorem dX9_append_13 : decode cX9_append 13 = .ok (.if_icmp .ge 23, 3) := by decide +kernel
theorem dX9_append_16 : decode cX9_append 16 = .ok (.aload_n 0, 1) := by decide +kernel
theorem dX9_append_17 : decode cX9_append 17 = .ok (.getfield 15, 3) := by decide +kernel
theorem dX9_append_20 : decode cX9_append 20 = .ok (.aload_n 0, 1) := by decide +kernel
theorem dX9_append_21 : decode cX9_append 21 = .ok (.getfield 19, 3) := by decide +kernel
theorem dX9_append_24 : decode cX9_append 24 = .ok (.iload_n 1, 1) := by decide +kernel
theorem dX9_append_25 : decode cX9_append 25 = .ok (.iastore, 1) := by decide +kernel
theorem dX9_append_26 : decode cX9_append 26 = .ok (.aload_n 0, 1) := by decide +kernel
theorem dX9_append_27 : decode cX9_append 27 = .ok (.dup, 1) := by decide +kernel
theorem dX9_append_28 : decode cX9_append 28 = .ok (.getfield 19, 3) := by decide +kernel
theorem dX9_append_31 : decode cX9_append 31 = .ok (.iconst 1, 1) := by decide +kernel
theorem dX9_append_32 : decode cX9_append 32 = .ok (.iadd, 1) := by decide +kernel
theorem dX9_append_33 : decode cX9_append 33 = .ok (.putfield 19, 3) := by decide +kernel
theorem dX9_append_36 : decode cX9_append 36 = .ok (.return_, 1) := by decide +kernel
theorem dX9_byteAt_0 : decode cX9_byteAt 0 = .ok (.iload_n 1, 1) := by decide +kernel
theorem dX9_byteAt_1 : decode cX9_byteAt 1 = .ok (.ifCond .lt 26, 3) := by decide +kernel
theorem dX9_byteAt_4 : decode cX9_byteAt 4 = .ok (.iload_n 1, 1) := by decide +kernel
theorem dX9_byteAt_5 : decode cX9_byteAt 5 = .ok (.aload_n 0, 1) := by decide +kernel
theorem dX9_byteAt_6 : decode cX9_byteAt 6 = .ok (.getfield 19, 3) := by decide +kernel
theorem dX9_byteAt_9 : decode cX9_byteAt 9 = .ok (.if_icmp .ge 18, 3) := by decide +kernel
theorem dX9_byteAt_12 : decode cX9_byteAt 12 = .ok (.iload_n 1, 1) := by decide +kernel
theorem dX9_byteAt_13 : decode cX9_byteAt 13 = .ok (.bipush 71, 2) := by decide +kernel
theorem dX9_byteAt_15 : decode cX9_byteAt 15 = .ok (.if_icmp .ge 12, 3) := by decide +kernel
theorem dX9_byteAt_18 : decode cX9_byteAt 18 = .ok (.aload_n 0, 1) := by decide +kernel
theorem dX9_byteAt_19 : decode cX9_byteAt 19 = .ok (.getfield 15, 3) := by decide +kernel
theorem dX9_byteAt_22 : decode cX9_byteAt 22 = .ok (.iload_n 1, 1) := by decide +kernel
theorem dX9_byteAt_23 : decode cX9_byteAt 23 = .ok (.iaload, 1) := by decide +kernel
theorem dX9_byteAt_24 : decode cX9_byteAt 24 = .ok (.goto 4, 3) := by decide +kernel
theorem dX9_byteAt_27 : decode cX9_byteAt 27 = .ok (.iconst (-1), 1) := by decide +kernel
theorem dX9_byteAt_28 : decode cX9_byteAt 28 = .ok (.ireturn, 1) := by decide +kernel
theorem dX10_init_0 : decode cX10_init 0 = .ok (.aload_n 0, 1) := by decide +kernel
theorem dX10_init_1 : decode cX10_init 1 = .ok (.invokespecial 3, 3) := by decide +kernel
theorem dX10_init_4 : decode cX10_init 4 = .ok (.aload_n 0, 1) := by decide +kernel
theorem dX10_init_5 : decode cX10_init 5 = .ok (.bipush 40, 2) := by decide +kernel
theorem dX10_init_7 : decode cX10_init 7 = .ok (.newarray .int, 2) := by decide +kernel
theorem dX10_init_9 : decode cX10_init 9 = .ok (.putfield 9, 3) := by decide +kernel
theorem dX10_init_12 : decode cX10_init 12 = .ok (.aload_n 0, 1) := by decide +kernel
theorem dX10_init_13 : decode cX10_init 13 = .ok (.bipush 41, 2) := by decide +kernel
theorem dX10_init_15 : decode cX10_init 15 = .ok (.newarray .int, 2) := by decide +kernel
theorem dX10_init_17 : decode cX10_init 17 = .ok (.putfield 15, 3) := by decide +kernel
theorem dX10_init_20 : decode cX10_init 20 = .ok (.aload_n 0, 1) := by decide +kernel
theorem dX10_init_21 : decode cX10_init 21 = .ok (.iconst 0, 1) := by decide +kernel
theorem dX10_init_22 : decode cX10_init 22 = .ok (.putfield 18, 3) := by decide +kernel
theorem dX10_init_25 : decode cX10_init 25 = .ok (.aload_n 0, 1) := by decide +kernel
theorem dX10_init_26 : decode cX10_init 26 = .ok (.iconst 0, 1) := by decide +kernel
theorem dX10_init_27 : decode cX10_init 27 = .ok (.putfield 22, 3) := by decide +kernel
theorem dX10_init_30 : decode cX10_init 30 = .ok (.aload_n 0, 1) := by decide +kernel
theorem dX10_init_31 : decode cX10_init 31 = .ok (.iconst 0, 1) := by decide +kernel
theorem dX10_init_32 : decode cX10_init 32 = .ok (.putfield 25, 3) := by decide +kernel
theorem dX10_init_35 : decode cX10_init 35 = .ok (.return_, 1) := by decide +kernel
theorem dX10_takeText_0 : decode cX10_takeText 0 = .ok (.aload_n 0, 1) := by decide +kernel
theorem dX10_takeText_1 : decode cX10_takeText 1 = .ok (.iconst 0, 1) := by decide +kernel
theorem dX10_takeText_2 : decode cX10_takeText 2 = .ok (.putfield 22, 3) := by decide +kernel
theorem dX10_takeText_5 : decode cX10_takeText 5 = .ok (.iconst 0, 1) := by decide +kernel
theorem dX10_takeText_6 : decode cX10_takeText 6 = .ok (.istore_n 2, 1) := by decide +kernel
theorem dX10_takeText_7 : decode cX10_takeText 7 = .ok (.iload_n 2, 1) := by decide +kernel
theorem dX10_takeText_8 : decode cX10_takeText 8 = .ok (.aload_n 1, 1) := by decide +kernel
theorem dX10_takeText_9 : decode cX10_takeText 9 = .ok (.getfield 28, 3) := by decide +kernel
theorem dX10_takeText_12 : decode cX10_takeText 12 = .ok (.if_icmp .ge 38, 3) := by decide +kernel
theorem dX10_takeText_15 : decode cX10_takeText 15 = .ok (.aload_n 1, 1) := by decide +kernel
theorem dX10_takeText_16 : decode cX10_takeText 16 = .ok (.iload_n 2, 1) := by decide +kernel
theorem dX10_takeText_17 : decode cX10_takeText 17 = .ok (.invokevirtual 31, 3) := by decide +kernel
theorem dX10_takeText_20 : decode cX10_takeText 20 = .ok (.invokestatic 35, 3) := by decide +kernel
theorem dX10_takeText_23 : decode cX10_takeText 23 = .ok (.istore_n 3, 1) := by decide +kernel
theorem dX10_takeText_24 : decode cX10_takeText 24 = .ok (.iload_n 3, 1) := by decide +kernel
theorem dX10_takeText_25 : decode cX10_takeText 25 = .ok (.iconst (-1), 1) := by decide +kernel
theorem dX10_takeText_26 : decode cX10_takeText 26 = .ok (.if_icmp .eq 9, 3) := by decide +kernel
theorem dX10_takeText_29 : decode cX10_takeText 29 = .ok (.iload_n 2, 1) := by decide +kernel
theorem dX10_takeText_30 : decode cX10_takeText 30 = .ok (.bipush 40, 2) := by decide +kernel
theorem dX10_takeText_32 : decode cX10_takeText 32 = .ok (.if_icmp .lt 5, 3) := by decide +kernel
theorem dX10_takeText_35 : decode cX10_takeText 35 = .ok (.iload_n 2, 1) := by decide +kernel
theorem dX10_takeText_36 : decode cX10_takeText 36 = .ok (.ireturn, 1) := by decide +kernel
theorem dX10_takeText_37 : decode cX10_takeText 37 = .ok (.aload_n 0, 1) := by decide +kernel
theorem dX10_takeText_38 : decode cX10_takeText 38 = .ok (.getfield 9, 3) := by decide +kernel
theorem dX10_takeText_41 : decode cX10_takeText 41 = .ok (.iload_n 2, 1) := by decide +kernel
theorem dX10_takeText_42 : decode cX10_takeText 42 = .ok (.iload_n 3, 1) := by decide +kernel
theorem dX10_takeText_43 : decode cX10_takeText 43 = .ok (.iastore, 1) := by decide +kernel
theorem dX10_takeText_44 : decode cX10_takeText 44 = .ok (.iinc 2 1, 3) := by decide +kernel
theorem dX10_takeText_47 : decode cX10_takeText 47 = .ok (.goto (-40), 3) := by decide +kernel
theorem dX10_takeText_50 : decode cX10_takeText 50 = .ok (.aload_n 0, 1) := by decide +kernel
theorem dX10_takeText_51 : decode cX10_takeText 51 = .ok (.aload_n 1, 1) := by decide +kernel
theorem dX10_takeText_52 : decode cX10_takeText 52 = .ok (.getfield 28, 3) := by decide +kernel
theorem dX10_takeText_55 : decode cX10_takeText 55 = .ok (.putfield 22, 3) := by decide +kernel
theorem dX10_takeText_58 : decode cX10_takeText 58 = .ok (.iconst (-1), 1) := by decide +kernel
theorem dX10_takeText_59 : decode cX10_takeText 59 = .ok (.ireturn, 1) := by decide +kernel
theorem dX10_directionOf_0 : decode cX10_directionOf 0 = .ok (.iload_n 0, 1) := by decide +kernel
theorem dX10_directionOf_1 : decode cX10_directionOf 1 = .ok (.lookupswitch 51 #[(101, 45), (110, 43), (115, 47), (119, 49)], 43) := by decide +kernel
theorem dX10_directionOf_44 : decode cX10_directionOf 44 = .ok (.iconst 0, 1) := by decide +kernel
theorem dX10_directionOf_45 : decode cX10_directionOf 45 = .ok (.ireturn, 1) := by decide +kernel
theorem dX10_directionOf_46 : decode cX10_directionOf 46 = .ok (.iconst 1, 1) := by decide +kernel
theorem dX10_directionOf_47 : decode cX10_directionOf 47 = .ok (.ireturn, 1) := by decide +kernel
theorem dX10_directionOf_48 : decode cX10_directionOf 48 = .ok (.iconst 2, 1) := by decide +kernel
theorem dX10_directionOf_49 : decode cX10_directionOf 49 = .ok (.ireturn, 1) := by decide +kernel
theorem dX10_directionOf_50 : decode cX10_directionOf 50 = .ok (.iconst 3, 1) := by decide +kernel
theorem dX10_directionOf_51 : decode cX10_directionOf 51 = .ok (.ireturn, 1) := by decide +kernel
theorem dX10_directionOf_52 : decode cX10_directionOf 52 = .ok (.iconst (-1), 1) := by decide +kernel
theorem dX10_directionOf_53 : decode cX10_directionOf 53 = .ok (.ireturn, 1) := by decide +kernel
theorem dX10_retrace_0 : decode cX10_retrace 0 = .ok (.aload_n 0, 1) := by decide +kernel
theorem dX10_retrace_1 : decode cX10_retrace 1 = .ok (.iconst 0, 1) := by decide +kernel
theorem dX10_retrace_2 : decode cX10_retrace 2 = .ok (.putfield 25, 3) := by decide +kernel
theorem dX10_retrace_5 : decode cX10_retrace 5 = .ok (.aload_n 0, 1) := by decide +kernel
theorem dX10_retrace_6 : decode cX10_retrace 6 = .ok (.getfield 15, 3) := by decide +kernel
theorem dX10_retrace_9 : decode cX10_retrace 9 = .ok (.iconst 0, 1) := by decide +kernel
theorem dX10_retrace_10 : decode cX10_retrace 10 = .ok (.aload_n 0, 1) := by decide +kernel
theorem dX10_retrace_11 : decode cX10_retrace 11 = .ok (.getfield 18, 3) := by decide +kernel
theorem dX10_retrace_14 : decode cX10_retrace 14 = .ok (.iastore, 1) := by decide +kernel
theorem dX10_retrace_15 : decode cX10_retrace 15 = .ok (.iconst 0, 1) := by decide +kernel
theorem dX10_retrace_16 : decode cX10_retrace 16 = .ok (.istore_n 2, 1) := by decide +kernel
theorem dX10_retrace_17 : decode cX10_retrace 17 = .ok (.iload_n 2, 1) := by decide +kernel
theorem dX10_retrace_18 : decode cX10_retrace 18 = .ok (.aload_n 0, 1) := by decide +kernel
theorem dX10_retrace_19 : decode cX10_retrace 19 = .ok (.getfield 22, 3) := by decide +kernel
theorem dX10_retrace_22 : decode cX10_retrace 22 = .ok (.if_icmp .ge 54, 3) := by decide +kernel
theorem dX10_retrace_25 : decode cX10_retrace 25 = .ok (.iload_n 2, 1) := by decide +kernel
theorem dX10_retrace_26 : decode cX10_retrace 26 = .ok (.bipush 40, 2) := by decide +kernel
theorem dX10_retrace_28 : decode cX10_retrace 28 = .ok (.if_icmp .ge 48, 3) := by decide +kernel
theorem dX10_retrace_31 : decode cX10_retrace 31 = .ok (.aload_n 1, 1) := by decide +kernel
theorem dX10_retrace_32 : decode cX10_retrace 32 = .ok (.aload_n 0, 1) := by decide +kernel
theorem dX10_retrace_33 : decode cX10_retrace 33 = .ok (.getfield 15, 3) := by decide +kernel
theorem dX10_retrace_36 : decode cX10_retrace 36 = .ok (.iload_n 2, 1) := by decide +kernel
theorem dX10_retrace_37 : decode cX10_retrace 37 = .ok (.iaload, 1) := by decide +kernel
theorem dX10_retrace_38 : decode cX10_retrace 38 = .ok (.aload_n 0, 1) := by decide +kernel
theorem dX10_retrace_39 : decode cX10_retrace 39 = .ok (.getfield 9, 3) := by decide +kernel
theorem dX10_retrace_42 : decode cX10_retrace 42 = .ok (.iload_n 2, 1) := by decide +kernel
theorem dX10_retrace_43 : decode cX10_retrace 43 = .ok (.iaload, 1) := by decide +kernel
theorem dX10_retrace_44 : decode cX10_retrace 44 = .ok (.invokevirtual 38, 3) := by decide +kernel
theorem dX10_retrace_47 : decode cX10_retrace 47 = .ok (.istore_n 3, 1) := by decide +kernel
theorem dX10_retrace_48 : decode cX10_retrace 48 = .ok (.iload_n 3, 1) := by decide +kernel
theorem dX10_retrace_49 : decode cX10_retrace 49 = .ok (.iconst (-1), 1) := by decide +kernel
theorem dX10_retrace_50 : decode cX10_retrace 50 = .ok (.if_icmp .ne 4, 3) := by decide +kernel
theorem dX10_retrace_53 : decode cX10_retrace 53 = .ok (.return_, 1) := by decide +kernel
theorem dX10_retrace_54 : decode cX10_retrace 54 = .ok (.aload_n 0, 1) := by decide +kernel
theorem dX10_retrace_55 : decode cX10_retrace 55 = .ok (.getfield 15, 3) := by decide +kernel
theorem dX10_retrace_58 : decode cX10_retrace 58 = .ok (.iload_n 2, 1) := by decide +kernel
theorem dX10_retrace_59 : decode cX10_retrace 59 = .ok (.iconst 1, 1) := by decide +kernel
theorem dX10_retrace_60 : decode cX10_retrace 60 = .ok (.iadd, 1) := by decide +kernel
theorem dX10_retrace_61 : decode cX10_retrace 61 = .ok (.iload_n 3, 1) := by decide +kernel
theorem dX10_retrace_62 : decode cX10_retrace 62 = .ok (.iastore, 1) := by decide +kernel
theorem dX10_retrace_63 : decode cX10_retrace 63 = .ok (.aload_n 0, 1) := by decide +kernel
theorem dX10_retrace_64 : decode cX10_retrace 64 = .ok (.iload_n 2, 1) := by decide +kernel
theorem dX10_retrace_65 : decode cX10_retrace 65 = .ok (.iconst 1, 1) := by decide +kernel
theorem dX10_retrace_66 : decode cX10_retrace 66 = .ok (.iadd, 1) := by decide +kernel
theorem dX10_retrace_67 : decode cX10_retrace 67 = .ok (.putfield 25, 3) := by decide +kernel
theorem dX10_retrace_70 : decode cX10_retrace 70 = .ok (.iinc 2 1, 3) := by decide +kernel
theorem dX10_retrace_73 : decode cX10_retrace 73 = .ok (.goto (-56), 3) := by decide +kernel
theorem dX10_retrace_76 : decode cX10_retrace 76 = .ok (.return_, 1) := by decide +kernel
theorem dX10_placeBehind_0 : decode cX10_placeBehind 0 = .ok (.iload_n 1, 1) := by decide +kernel
theorem dX10_placeBehind_1 : decode cX10_placeBehind 1 = .ok (.ifCond .lt 26, 3) := by decide +kernel
theorem dX10_placeBehind_4 : decode cX10_placeBehind 4 = .ok (.iload_n 1, 1) := by decide +kernel
theorem dX10_placeBehind_5 : decode cX10_placeBehind 5 = .ok (.aload_n 0, 1) := by decide +kernel
theorem dX10_placeBehind_6 : decode cX10_placeBehind 6 = .ok (.getfield 25, 3) := by decide +kernel
theorem dX10_placeBehind_9 : decode cX10_placeBehind 9 = .ok (.if_icmp .gt 18, 3) := by decide +kernel
theorem dX10_placeBehind_12 : decode cX10_placeBehind 12 = .ok (.iload_n 1, 1) := by decide +kernel
theorem dX10_placeBehind_13 : decode cX10_placeBehind 13 = .ok (.bipush 40, 2) := by decide +kernel
theorem dX10_placeBehind_15 : decode cX10_placeBehind 15 = .ok (.if_icmp .gt 12, 3) := by decide +kernel
theorem dX10_placeBehind_18 : decode cX10_placeBehind 18 = .ok (.aload_n 0, 1) := by decide +kernel
theorem dX10_placeBehind_19 : decode cX10_placeBehind 19 = .ok (.getfield 15, 3) := by decide +kernel
theorem dX10_placeBehind_22 : decode cX10_placeBehind 22 = .ok (.iload_n 1, 1) := by decide +kernel
theorem dX10_placeBehind_23 : decode cX10_placeBehind 23 = .ok (.iaload, 1) := by decide +kernel
theorem dX10_placeBehind_24 : decode cX10_placeBehind 24 = .ok (.goto 4, 3) := by decide +kernel
theorem dX10_placeBehind_27 : decode cX10_placeBehind 27 = .ok (.iconst (-1), 1) := by decide +kernel
theorem dX10_placeBehind_28 : decode cX10_placeBehind 28 = .ok (.ireturn, 1) := by decide +kernel
theorem dX11_init_0 : decode cX11_init 0 = .ok (.aload_n 0, 1) := by decide +kernel
theorem dX11_init_1 : decode cX11_init 1 = .ok (.invokespecial 1, 3) := by decide +kernel
theorem dX11_init_4 : decode cX11_init 4 = .ok (.aload_n 0, 1) := by decide +kernel
theorem dX11_init_5 : decode cX11_init 5 = .ok (.new 7, 3) := by decide +kernel
theorem dX11_init_8 : decode cX11_init 8 = .ok (.dup, 1) := by decide +kernel
theorem dX11_init_9 : decode cX11_init 9 = .ok (.bipush 71, 2) := by decide +kernel
theorem dX11_init_11 : decode cX11_init 11 = .ok (.invokespecial 11, 3) := by decide +kernel
theorem dX11_init_14 : decode cX11_init 14 = .ok (.putfield 14, 3) := by decide +kernel
theorem dX11_init_17 : decode cX11_init 17 = .ok (.aload_n 0, 1) := by decide +kernel
theorem dX11_init_18 : decode cX11_init 18 = .ok (.new 7, 3) := by decide +kernel
theorem dX11_init_21 : decode cX11_init 21 = .ok (.dup, 1) := by decide +kernel
theorem dX11_init_22 : decode cX11_init 22 = .ok (.iconst 5, 1) := by decide +kernel
theorem dX11_init_23 : decode cX11_init 23 = .ok (.invokespecial 11, 3) := by decide +kernel
theorem dX11_init_26 : decode cX11_init 26 = .ok (.putfield 18, 3) := by decide +kernel
theorem dX11_init_29 : decode cX11_init 29 = .ok (.aload_n 0, 1) := by decide +kernel
theorem dX11_init_30 : decode cX11_init 30 = .ok (.new 7, 3) := by decide +kernel
theorem dX11_init_33 : decode cX11_init 33 = .ok (.dup, 1) := by decide +kernel
theorem dX11_init_34 : decode cX11_init 34 = .ok (.bipush 40, 2) := by decide +kernel
theorem dX11_init_36 : decode cX11_init 36 = .ok (.invokespecial 11, 3) := by decide +kernel
theorem dX11_init_39 : decode cX11_init 39 = .ok (.putfield 21, 3) := by decide +kernel
theorem dX11_init_42 : decode cX11_init 42 = .ok (.aload_n 0, 1) := by decide +kernel
theorem dX11_init_43 : decode cX11_init 43 = .ok (.new 24, 3) := by decide +kernel
theorem dX11_init_46 : decode cX11_init 46 = .ok (.dup, 1) := by decide +kernel
theorem dX11_init_47 : decode cX11_init 47 = .ok (.invokespecial 26, 3) := by decide +kernel
theorem dX11_init_50 : decode cX11_init 50 = .ok (.putfield 27, 3) := by decide +kernel
theorem dX11_init_53 : decode cX11_init 53 = .ok (.aload_n 0, 1) := by decide +kernel
theorem dX11_init_54 : decode cX11_init 54 = .ok (.new 31, 3) := by decide +kernel
theorem dX11_init_57 : decode cX11_init 57 = .ok (.dup, 1) := by decide +kernel
theorem dX11_init_58 : decode cX11_init 58 = .ok (.aload_n 0, 1) := by decide +kernel
theorem dX11_init_59 : decode cX11_init 59 = .ok (.getfield 27, 3) := by decide +kernel
theorem dX11_init_62 : decode cX11_init 62 = .ok (.invokespecial 33, 3) := by decide +kernel
theorem dX11_init_65 : decode cX11_init 65 = .ok (.putfield 36, 3) := by decide +kernel
theorem dX11_init_68 : decode cX11_init 68 = .ok (.aload_n 0, 1) := by decide +kernel
theorem dX11_init_69 : decode cX11_init 69 = .ok (.new 40, 3) := by decide +kernel
theorem dX11_init_72 : decode cX11_init 72 = .ok (.dup, 1) := by decide +kernel
theorem dX11_init_73 : decode cX11_init 73 = .ok (.aload_n 0, 1) := by decide +kernel
theorem dX11_init_74 : decode cX11_init 74 = .ok (.getfield 27, 3) := by decide +kernel
theorem dX11_init_77 : decode cX11_init 77 = .ok (.invokespecial 42, 3) := by decide +kernel
theorem dX11_init_80 : decode cX11_init 80 = .ok (.putfield 43, 3) := by decide +kernel
theorem dX11_init_83 : decode cX11_init 83 = .ok (.aload_n 0, 1) := by decide +kernel
theorem dX11_init_84 : decode cX11_init 84 = .ok (.new 47, 3) := by decide +kernel
theorem dX11_init_87 : decode cX11_init 87 = .ok (.dup, 1) := by decide +kernel
theorem dX11_init_88 : decode cX11_init 88 = .ok (.invokespecial 49, 3) := by decide +kernel
theorem dX11_init_91 : decode cX11_init 91 = .ok (.putfield 50, 3) := by decide +kernel
theorem dX11_init_94 : decode cX11_init 94 = .ok (.aload_n 0, 1) := by decide +kernel
theorem dX11_init_95 : decode cX11_init 95 = .ok (.new 54, 3) := by decide +kernel
theorem dX11_init_98 : decode cX11_init 98 = .ok (.dup, 1) := by decide +kernel
theorem dX11_init_99 : decode cX11_init 99 = .ok (.invokespecial 56, 3) := by decide +kernel
theorem dX11_init_102 : decode cX11_init 102 = .ok (.putfield 57, 3) := by decide +kernel
theorem dX11_init_105 : decode cX11_init 105 = .ok (.aload_n 0, 1) := by decide +kernel
theorem dX11_init_106 : decode cX11_init 106 = .ok (.new 61, 3) := by decide +kernel
theorem dX11_init_109 : decode cX11_init 109 = .ok (.dup, 1) := by decide +kernel
theorem dX11_init_110 : decode cX11_init 110 = .ok (.invokespecial 63, 3) := by decide +kernel
theorem dX11_init_113 : decode cX11_init 113 = .ok (.putfield 64, 3) := by decide +kernel
theorem dX11_init_116 : decode cX11_init 116 = .ok (.aload_n 0, 1) := by decide +kernel
theorem dX11_init_117 : decode cX11_init 117 = .ok (.new 68, 3) := by decide +kernel
theorem dX11_init_120 : decode cX11_init 120 = .ok (.dup, 1) := by decide +kernel
theorem dX11_init_121 : decode cX11_init 121 = .ok (.aload_n 0, 1) := by decide +kernel
theorem dX11_init_122 : decode cX11_init 122 = .ok (.getfield 27, 3) := by decide +kernel
theorem dX11_init_125 : decode cX11_init 125 = .ok (.aload_n 0, 1) := by decide +kernel
theorem dX11_init_126 : decode cX11_init 126 = .ok (.getfield 36, 3) := by decide +kernel
theorem dX11_init_129 : decode cX11_init 129 = .ok (.invokespecial 70, 3) := by decide +kernel
theorem dX11_init_132 : decode cX11_init 132 = .ok (.putfield 73, 3) := by decide +kernel
theorem dX11_init_135 : decode cX11_init 135 = .ok (.aload_n 0, 1) := by decide +kernel
theorem dX11_init_136 : decode cX11_init 136 = .ok (.new 77, 3) := by decide +kernel
theorem dX11_init_139 : decode cX11_init 139 = .ok (.dup, 1) := by decide +kernel
theorem dX11_init_140 : decode cX11_init 140 = .ok (.invokespecial 79, 3) := by decide +kernel
theorem dX11_init_143 : decode cX11_init 143 = .ok (.putfield 80, 3) := by decide +kernel
theorem dX11_init_146 : decode cX11_init 146 = .ok (.aload_n 0, 1) := by decide +kernel
theorem dX11_init_147 : decode cX11_init 147 = .ok (.new 84, 3) := by decide +kernel
theorem dX11_init_150 : decode cX11_init 150 = .ok (.dup, 1) := by decide +kernel
theorem dX11_init_151 : decode cX11_init 151 = .ok (.invokespecial 86, 3) := by decide +kernel
theorem dX11_init_154 : decode cX11_init 154 = .ok (.putfield 87, 3) := by decide +kernel
theorem dX11_init_157 : decode cX11_init 157 = .ok (.aload_n 0, 1) := by decide +kernel
theorem dX11_init_158 : decode cX11_init 158 = .ok (.iconst 4, 1) := by decide +kernel
theorem dX11_init_159 : decode cX11_init 159 = .ok (.anewarray 91, 3) := by decide +kernel
theorem dX11_init_162 : decode cX11_init 162 = .ok (.putfield 93, 3) := by decide +kernel
theorem dX11_init_165 : decode cX11_init 165 = .ok (.iconst 0, 1) := by decide +kernel
theorem dX11_init_166 : decode cX11_init 166 = .ok (.istore_n 1, 1) := by decide +kernel
theorem dX11_init_167 : decode cX11_init 167 = .ok (.iload_n 1, 1) := by decide +kernel
theorem dX11_init_168 : decode cX11_init 168 = .ok (.iconst 4, 1) := by decide +kernel
theorem dX11_init_169 : decode cX11_init 169 = .ok (.if_icmp .ge 22, 3) := by decide +kernel
theorem dX11_init_172 : decode cX11_init 172 = .ok (.aload_n 0, 1) := by decide +kernel
theorem dX11_init_173 : decode cX11_init 173 = .ok (.getfield 93, 3) := by decide +kernel
theorem dX11_init_176 : decode cX11_init 176 = .ok (.iload_n 1, 1) := by decide +kernel
theorem dX11_init_177 : decode cX11_init 177 = .ok (.new 91, 3) := by decide +kernel
theorem dX11_init_180 : decode cX11_init 180 = .ok (.dup, 1) := by decide +kernel
theorem dX11_init_181 : decode cX11_init 181 = .ok (.invokespecial 97, 3) := by decide +kernel
theorem dX11_init_184 : decode cX11_init 184 = .ok (.aastore, 1) := by decide +kernel
theorem dX11_init_185 : decode cX11_init 185 = .ok (.iinc 1 1, 3) := by decide +kernel
theorem dX11_init_188 : decode cX11_init 188 = .ok (.goto (-21), 3) := by decide +kernel
theorem dX11_init_191 : decode cX11_init 191 = .ok (.aload_n 0, 1) := by decide +kernel
theorem dX11_init_192 : decode cX11_init 192 = .ok (.bipush 64, 2) := by decide +kernel
theorem dX11_init_194 : decode cX11_init 194 = .ok (.newarray .int, 2) := by decide +kernel
theorem dX11_init_196 : decode cX11_init 196 = .ok (.putfield 98, 3) := by decide +kernel
theorem dX11_init_199 : decode cX11_init 199 = .ok (.return_, 1) := by decide +kernel
theorem dX11_type_0 : decode cX11_type 0 = .ok (.aload_n 0, 1) := by decide +kernel
theorem dX11_type_1 : decode cX11_type 1 = .ok (.iload_n 1, 1) := by decide +kernel
theorem dX11_type_2 : decode cX11_type 2 = .ok (.invokevirtual 102, 3) := by decide +kernel
theorem dX11_type_5 : decode cX11_type 5 = .ok (.astore_n 3, 1) := by decide +kernel
theorem dX11_type_6 : decode cX11_type 6 = .ok (.aload_n 3, 1) := by decide +kernel
theorem dX11_type_7 : decode cX11_type 7 = .ok (.ifnull 14, 3) := by decide +kernel
theorem dX11_type_10 : decode cX11_type 10 = .ok (.iload_n 2, 1) := by decide +kernel
theorem dX11_type_11 : decode cX11_type 11 = .ok (.ifCond .lt 10, 3) := by decide +kernel
theorem dX11_type_14 : decode cX11_type 14 = .ok (.iload_n 2, 1) := by decide +kernel
theorem dX11_type_15 : decode cX11_type 15 = .ok (.sipush 255, 3) := by decide +kernel
theorem dX11_type_18 : decode cX11_type 18 = .ok (.if_icmp .le 6, 3) := by decide +kernel
theorem dX11_type_21 : decode cX11_type 21 = .ok (.bipush (-2), 2) := by decide +kernel
theorem dX11_type_23 : decode cX11_type 23 = .ok (.ireturn, 1) := by decide +kernel
theorem dX11_type_24 : decode cX11_type 24 = .ok (.aload_n 3, 1) := by decide +kernel
theorem dX11_type_25 : decode cX11_type 25 = .ok (.invokevirtual 106, 3) := by decide +kernel
theorem dX11_type_28 : decode cX11_type 28 = .ok (.ifCond .eq 6, 3) := by decide +kernel
theorem dX11_type_31 : decode cX11_type 31 = .ok (.bipush (-4), 2) := by decide +kernel
theorem dX11_type_33 : decode cX11_type 33 = .ok (.ireturn, 1) := by decide +kernel
theorem dX11_type_34 : decode cX11_type 34 = .ok (.aload_n 3, 1) := by decide +kernel
theorem dX11_type_35 : decode cX11_type 35 = .ok (.iload_n 2, 1) := by decide +kernel
theorem dX11_type_36 : decode cX11_type 36 = .ok (.invokevirtual 110, 3) := by decide +kernel
theorem dX11_type_39 : decode cX11_type 39 = .ok (.aload_n 0, 1) := by decide +kernel
theorem dX11_type_40 : decode cX11_type 40 = .ok (.iload_n 1, 1) := by decide +kernel
theorem dX11_type_41 : decode cX11_type 41 = .ok (.invokevirtual 113, 3) := by decide +kernel
theorem dX11_type_44 : decode cX11_type 44 = .ok (.aload_n 3, 1) := by decide +kernel
theorem dX11_type_45 : decode cX11_type 45 = .ok (.getfield 116, 3) := by decide +kernel
theorem dX11_type_48 : decode cX11_type 48 = .ok (.ireturn, 1) := by decide +kernel
theorem dX11_wipe_0 : decode cX11_wipe 0 = .ok (.aload_n 0, 1) := by decide +kernel
theorem dX11_wipe_1 : decode cX11_wipe 1 = .ok (.iload_n 1, 1) := by decide +kernel
theorem dX11_wipe_2 : decode cX11_wipe 2 = .ok (.invokevirtual 102, 3) := by decide +kernel
theorem dX11_wipe_5 : decode cX11_wipe 5 = .ok (.astore_n 2, 1) := by decide +kernel
theorem dX11_wipe_6 : decode cX11_wipe 6 = .ok (.aload_n 2, 1) := by decide +kernel
theorem dX11_wipe_7 : decode cX11_wipe 7 = .ok (.ifnonnull 6, 3) := by decide +kernel
theorem dX11_wipe_10 : decode cX11_wipe 10 = .ok (.bipush (-2), 2) := by decide +kernel
theorem dX11_wipe_12 : decode cX11_wipe 12 = .ok (.ireturn, 1) := by decide +kernel
theorem dX11_wipe_13 : decode cX11_wipe 13 = .ok (.aload_n 2, 1) := by decide +kernel
theorem dX11_wipe_14 : decode cX11_wipe 14 = .ok (.getfield 116, 3) := by decide +kernel
theorem dX11_wipe_17 : decode cX11_wipe 17 = .ok (.istore_n 3, 1) := by decide +kernel
theorem dX11_wipe_18 : decode cX11_wipe 18 = .ok (.aload_n 2, 1) := by decide +kernel
theorem dX11_wipe_19 : decode cX11_wipe 19 = .ok (.iconst 0, 1) := by decide +kernel
theorem dX11_wipe_20 : decode cX11_wipe 20 = .ok (.putfield 116, 3) := by decide +kernel
theorem dX11_wipe_23 : decode cX11_wipe 23 = .ok (.aload_n 0, 1) := by decide +kernel
theorem dX11_wipe_24 : decode cX11_wipe 24 = .ok (.iload_n 1, 1) := by decide +kernel
theorem dX11_wipe_25 : decode cX11_wipe 25 = .ok (.invokevirtual 113, 3) := by decide +kernel
theorem dX11_wipe_28 : decode cX11_wipe 28 = .ok (.iload_n 3, 1) := by decide +kernel
theorem dX11_wipe_29 : decode cX11_wipe 29 = .ok (.ireturn, 1) := by decide +kernel
theorem dX11_undo_0 : decode cX11_undo 0 = .ok (.aload_n 0, 1) := by decide +kernel
theorem dX11_undo_1 : decode cX11_undo 1 = .ok (.iload_n 1, 1) := by decide +kernel
theorem dX11_undo_2 : decode cX11_undo 2 = .ok (.invokevirtual 102, 3) := by decide +kernel
theorem dX11_undo_5 : decode cX11_undo 5 = .ok (.astore_n 2, 1) := by decide +kernel
theorem dX11_undo_6 : decode cX11_undo 6 = .ok (.aload_n 2, 1) := by decide +kernel
theorem dX11_undo_7 : decode cX11_undo 7 = .ok (.ifnonnull 6, 3) := by decide +kernel
theorem dX11_undo_10 : decode cX11_undo 10 = .ok (.bipush (-2), 2) := by decide +kernel
theorem dX11_undo_12 : decode cX11_undo 12 = .ok (.ireturn, 1) := by decide +kernel
theorem dX11_undo_13 : decode cX11_undo 13 = .ok (.aload_n 2, 1) := by decide +kernel
theorem dX11_undo_14 : decode cX11_undo 14 = .ok (.getfield 116, 3) := by decide +kernel
theorem dX11_undo_17 : decode cX11_undo 17 = .ok (.ifCond .gt 6, 3) := by decide +kernel
theorem dX11_undo_20 : decode cX11_undo 20 = .ok (.bipush (-3), 2) := by decide +kernel
theorem dX11_undo_22 : decode cX11_undo 22 = .ok (.ireturn, 1) := by decide +kernel
theorem dX11_undo_23 : decode cX11_undo 23 = .ok (.aload_n 2, 1) := by decide +kernel
theorem dX11_undo_24 : decode cX11_undo 24 = .ok (.dup, 1) := by decide +kernel
theorem dX11_undo_25 : decode cX11_undo 25 = .ok (.getfield 116, 3) := by decide +kernel
theorem dX11_undo_28 : decode cX11_undo 28 = .ok (.iconst 1, 1) := by decide +kernel
theorem dX11_undo_29 : decode cX11_undo 29 = .ok (.isub, 1) := by decide +kernel
theorem dX11_undo_30 : decode cX11_undo 30 = .ok (.putfield 116, 3) := by decide +kernel
theorem dX11_undo_33 : decode cX11_undo 33 = .ok (.aload_n 0, 1) := by decide +kernel
theorem dX11_undo_34 : decode cX11_undo 34 = .ok (.iload_n 1, 1) := by decide +kernel
theorem dX11_undo_35 : decode cX11_undo 35 = .ok (.invokevirtual 113, 3) := by decide +kernel
theorem dX11_undo_38 : decode cX11_undo 38 = .ok (.aload_n 2, 1) := by decide +kernel
theorem dX11_undo_39 : decode cX11_undo 39 = .ok (.getfield 116, 3) := by decide +kernel
theorem dX11_undo_42 : decode cX11_undo 42 = .ok (.ireturn, 1) := by decide +kernel
theorem dX11_fault_0 : decode cX11_fault 0 = .ok (.aload_n 0, 1) := by decide +kernel
theorem dX11_fault_1 : decode cX11_fault 1 = .ok (.iload_n 1, 1) := by decide +kernel
theorem dX11_fault_2 : decode cX11_fault 2 = .ok (.invokevirtual 102, 3) := by decide +kernel
theorem dX11_fault_5 : decode cX11_fault 5 = .ok (.astore_n 2, 1) := by decide +kernel
theorem dX11_fault_6 : decode cX11_fault 6 = .ok (.aload_n 2, 1) := by decide +kernel
theorem dX11_fault_7 : decode cX11_fault 7 = .ok (.ifnonnull 8, 3) := by decide +kernel
theorem dX11_fault_10 : decode cX11_fault 10 = .ok (.bipush (-2), 2) := by decide +kernel
theorem dX11_fault_12 : decode cX11_fault 12 = .ok (.goto 7, 3) := by decide +kernel
theorem dX11_fault_15 : decode cX11_fault 15 = .ok (.aload_n 2, 1) := by decide +kernel
theorem dX11_fault_16 : decode cX11_fault 16 = .ok (.getfield 120, 3) := by decide +kernel
theorem dX11_fault_19 : decode cX11_fault 19 = .ok (.ireturn, 1) := by decide +kernel
theorem dX11_set_0 : decode cX11_set 0 = .ok (.iload_n 1, 1) := by decide +kernel
theorem dX11_set_1 : decode cX11_set 1 = .ok (.ifCond .lt 27, 3) := by decide +kernel
theorem dX11_set_4 : decode cX11_set 4 = .ok (.iload_n 1, 1) := by decide +kernel
theorem dX11_set_5 : decode cX11_set 5 = .ok (.iconst 2, 1) := by decide +kernel
theorem dX11_set_6 : decode cX11_set 6 = .ok (.if_icmp .gt 22, 3) := by decide +kernel
theorem dX11_set_9 : decode cX11_set 9 = .ok (.iload_n 2, 1) := by decide +kernel
theorem dX11_set_10 : decode cX11_set 10 = .ok (.ifCond .lt 18, 3) := by decide +kernel
theorem dX11_set_13 : decode cX11_set 13 = .ok (.iload_n 2, 1) := by decide +kernel
theorem dX11_set_14 : decode cX11_set 14 = .ok (.iload_n 1, 1) := by decide +kernel
theorem dX11_set_15 : decode cX11_set 15 = .ok (.iconst 2, 1) := by decide +kernel
theorem dX11_set_16 : decode cX11_set 16 = .ok (.if_icmp .ne 7, 3) := by decide +kernel
theorem dX11_set_19 : decode cX11_set 19 = .ok (.iconst 2, 1) := by decide +kernel
theorem dX11_set_20 : decode cX11_set 20 = .ok (.goto 5, 3) := by decide +kernel
theorem dX11_set_23 : decode cX11_set 23 = .ok (.bipush 63, 2) := by decide +kernel
theorem dX11_set_25 : decode cX11_set 25 = .ok (.if_icmp .le 6, 3) := by decide +kernel
theorem dX11_set_28 : decode cX11_set 28 = .ok (.bipush (-2), 2) := by decide +kernel
theorem dX11_set_30 : decode cX11_set 30 = .ok (.ireturn, 1) := by decide +kernel
theorem dX11_set_31 : decode cX11_set 31 = .ok (.iload_n 1, 1) := by decide +kernel
theorem dX11_set_32 : decode cX11_set 32 = .ok (.ifCond .ne 33, 3) := by decide +kernel
theorem dX11_set_35 : decode cX11_set 35 = .ok (.aload_n 0, 1) := by decide +kernel
theorem dX11_set_36 : decode cX11_set 36 = .ok (.getfield 57, 3) := by decide +kernel
theorem dX11_set_39 : decode cX11_set 39 = .ok (.getfield 123, 3) := by decide +kernel
theorem dX11_set_42 : decode cX11_set 42 = .ok (.istore_n 3, 1) := by decide +kernel
theorem dX11_set_43 : decode cX11_set 43 = .ok (.aload_n 0, 1) := by decide +kernel
theorem dX11_set_44 : decode cX11_set 44 = .ok (.getfield 57, 3) := by decide +kernel
theorem dX11_set_47 : decode cX11_set 47 = .ok (.iload_n 2, 1) := by decide +kernel
theorem dX11_set_48 : decode cX11_set 48 = .ok (.putfield 123, 3) := by decide +kernel
theorem dX11_set_51 : decode cX11_set 51 = .ok (.aload_n 0, 1) := by decide +kernel
theorem dX11_set_52 : decode cX11_set 52 = .ok (.getfield 57, 3) := by decide +kernel
theorem dX11_set_55 : decode cX11_set 55 = .ok (.aload_n 0, 1) := by decide +kernel
theorem dX11_set_56 : decode cX11_set 56 = .ok (.getfield 27, 3) := by decide +kernel
theorem dX11_set_59 : decode cX11_set 59 = .ok (.invokevirtual 126, 3) := by decide +kernel
theorem dX11_set_62 : decode cX11_set 62 = .ok (.goto 31, 3) := by decide +kernel
theorem dX11_set_65 : decode cX11_set 65 = .ok (.iload_n 1, 1) := by decide +kernel
theorem dX11_set_66 : decode cX11_set 66 = .ok (.iconst 1, 1) := by decide +kernel
theorem dX11_set_67 : decode cX11_set 67 = .ok (.if_icmp .ne 16, 3) := by decide +kernel
theorem dX11_set_70 : decode cX11_set 70 = .ok (.aload_n 0, 1) := by decide +kernel
theorem dX11_set_71 : decode cX11_set 71 = .ok (.getfield 129, 3) := by decide +kernel
theorem dX11_set_74 : decode cX11_set 74 = .ok (.istore_n 3, 1) := by decide +kernel
theorem dX11_set_75 : decode cX11_set 75 = .ok (.aload_n 0, 1) := by decide +kernel
theorem dX11_set_76 : decode cX11_set 76 = .ok (.iload_n 2, 1) := by decide +kernel
theorem dX11_set_77 : decode cX11_set 77 = .ok (.putfield 129, 3) := by decide +kernel
theorem dX11_set_80 : decode cX11_set 80 = .ok (.goto 13, 3) := by decide +kernel
theorem dX11_set_83 : decode cX11_set 83 = .ok (.aload_n 0, 1) := by decide +kernel
theorem dX11_set_84 : decode cX11_set 84 = .ok (.getfield 132, 3) := by decide +kernel
theorem dX11_set_87 : decode cX11_set 87 = .ok (.istore_n 3, 1) := by decide +kernel
theorem dX11_set_88 : decode cX11_set 88 = .ok (.aload_n 0, 1) := by decide +kernel
theorem dX11_set_89 : decode cX11_set 89 = .ok (.iload_n 2, 1) := by decide +kernel
theorem dX11_set_90 : decode cX11_set 90 = .ok (.putfield 132, 3) := by decide +kernel
theorem dX11_set_93 : decode cX11_set 93 = .ok (.iload_n 3, 1) := by decide +kernel
theorem dX11_set_94 : decode cX11_set 94 = .ok (.ireturn, 1) := by decide +kernel
theorem dX11_grip_0 : decode cX11_grip 0 = .ok (.iload_n 1, 1) := by decide +kernel
theorem dX11_grip_1 : decode cX11_grip 1 = .ok (.invokestatic 135, 3) := by decide +kernel
theorem dX11_grip_4 : decode cX11_grip 4 = .ok (.ifCond .eq 22, 3) := by decide +kernel
theorem dX11_grip_7 : decode cX11_grip 7 = .ok (.iload_n 2, 1) := by decide +kernel
theorem dX11_grip_8 : decode cX11_grip 8 = .ok (.invokestatic 135, 3) := by decide +kernel
theorem dX11_grip_11 : decode cX11_grip 11 = .ok (.ifCond .eq 15, 3) := by decide +kernel
theorem dX11_grip_14 : decode cX11_grip 14 = .ok (.iload_n 1, 1) := by decide +kernel
theorem dX11_grip_15 : decode cX11_grip 15 = .ok (.iload_n 2, 1) := by decide +kernel
theorem dX11_grip_16 : decode cX11_grip 16 = .ok (.if_icmp .eq 10, 3) := by decide +kernel
theorem dX11_grip_19 : decode cX11_grip 19 = .ok (.iload_n 3, 1) := by decide +kernel
theorem dX11_grip_20 : decode cX11_grip 20 = .ok (.invokestatic 139, 3) := by decide +kernel
theorem dX11_grip_23 : decode cX11_grip 23 = .ok (.ifCond .ne 6, 3) := by decide +kernel
theorem dX11_grip_26 : decode cX11_grip 26 = .ok (.bipush (-2), 2) := by decide +kernel
theorem dX11_grip_28 : decode cX11_grip 28 = .ok (.ireturn, 1) := by decide +kernel
theorem dX11_grip_29 : decode cX11_grip 29 = .ok (.aload_n 0, 1) := by decide +kernel
theorem dX11_grip_30 : decode cX11_grip 30 = .ok (.getfield 50, 3) := by decide +kernel
theorem dX11_grip_33 : decode cX11_grip 33 = .ok (.iload_n 1, 1) := by decide +kernel
theorem dX11_grip_34 : decode cX11_grip 34 = .ok (.iload_n 2, 1) := by decide +kernel
theorem dX11_grip_35 : decode cX11_grip 35 = .ok (.invokevirtual 142, 3) := by decide +kernel
theorem dX11_grip_38 : decode cX11_grip 38 = .ok (.istore 4, 2) := by decide +kernel
theorem dX11_grip_40 : decode cX11_grip 40 = .ok (.aload_n 0, 1) := by decide +kernel
theorem dX11_grip_41 : decode cX11_grip 41 = .ok (.getfield 50, 3) := by decide +kernel
theorem dX11_grip_44 : decode cX11_grip 44 = .ok (.iload_n 1, 1) := by decide +kernel
theorem dX11_grip_45 : decode cX11_grip 45 = .ok (.iload_n 2, 1) := by decide +kernel
theorem dX11_grip_46 : decode cX11_grip 46 = .ok (.iload_n 3, 1) := by decide +kernel
theorem dX11_grip_47 : decode cX11_grip 47 = .ok (.invokevirtual 146, 3) := by decide +kernel
theorem dX11_grip_50 : decode cX11_grip 50 = .ok (.iload 4, 2) := by decide +kernel
theorem dX11_grip_52 : decode cX11_grip 52 = .ok (.ireturn, 1) := by decide +kernel
theorem dX11_person_0 : decode cX11_person 0 = .ok (.iload_n 1, 1) := by decide +kernel
theorem dX11_person_1 : decode cX11_person 1 = .ok (.invokestatic 135, 3) := by decide +kernel
theorem dX11_person_4 : decode cX11_person 4 = .ok (.ifCond .ne 6, 3) := by decide +kernel
theorem dX11_person_7 : decode cX11_person 7 = .ok (.bipush (-2), 2) := by decide +kernel
theorem dX11_person_9 : decode cX11_person 9 = .ok (.ireturn, 1) := by decide +kernel
theorem dX11_person_10 : decode cX11_person 10 = .ok (.iload_n 2, 1) := by decide +kernel
theorem dX11_person_11 : decode cX11_person 11 = .ok (.ifCond .ne 34, 3) := by decide +kernel
theorem dX11_person_14 : decode cX11_person 14 = .ok (.iload_n 3, 1) := by decide +kernel
theorem dX11_person_15 : decode cX11_person 15 = .ok (.invokestatic 139, 3) := by decide +kernel
theorem dX11_person_18 : decode cX11_person 18 = .ok (.ifCond .eq 27, 3) := by decide +kernel
theorem dX11_person_21 : decode cX11_person 21 = .ok (.aload_n 0, 1) := by decide +kernel
theorem dX11_person_22 : decode cX11_person 22 = .ok (.getfield 50, 3) := by decide +kernel
theorem dX11_person_25 : decode cX11_person 25 = .ok (.getfield 150, 3) := by decide +kernel
theorem dX11_person_28 : decode cX11_person 28 = .ok (.iload_n 1, 1) := by decide +kernel
theorem dX11_person_29 : decode cX11_person 29 = .ok (.iaload, 1) := by decide +kernel
theorem dX11_person_30 : decode cX11_person 30 = .ok (.istore 4, 2) := by decide +kernel
theorem dX11_person_32 : decode cX11_person 32 = .ok (.aload_n 0, 1) := by decide +kernel
theorem dX11_person_33 : decode cX11_person 33 = .ok (.getfield 50, 3) := by decide +kernel
theorem dX11_person_36 : decode cX11_person 36 = .ok (.getfield 150, 3) := by decide +kernel
theorem dX11_person_39 : decode cX11_person 39 = .ok (.iload_n 1, 1) := by decide +kernel
theorem dX11_person_40 : decode cX11_person 40 = .ok (.iload_n 3, 1) := by decide +kernel
theorem dX11_person_41 : decode cX11_person 41 = .ok (.iastore, 1) := by decide +kernel
theorem dX11_person_42 : decode cX11_person 42 = .ok (.iload 4, 2) := by decide +kernel
theorem dX11_person_44 : decode cX11_person 44 = .ok (.ireturn, 1) := by decide +kernel
theorem dX11_person_45 : decode cX11_person 45 = .ok (.iload_n 2, 1) := by decide +kernel
theorem dX11_person_46 : decode cX11_person 46 = .ok (.iconst 1, 1) := by decide +kernel
theorem dX11_person_47 : decode cX11_person 47 = .ok (.if_icmp .ne 34, 3) := by decide +kernel
theorem dX11_person_50 : decode cX11_person 50 = .ok (.iload_n 3, 1) := by decide +kernel
theorem dX11_person_51 : decode cX11_person 51 = .ok (.invokestatic 153, 3) := by decide +kernel
theorem dX11_person_54 : decode cX11_person 54 = .ok (.ifCond .eq 27, 3) := by decide +kernel
theorem dX11_person_57 : decode cX11_person 57 = .ok (.aload_n 0, 1) := by decide +kernel
theorem dX11_person_58 : decode cX11_person 58 = .ok (.getfield 50, 3) := by decide +kernel
theorem dX11_person_61 : decode cX11_person 61 = .ok (.getfield 156, 3) := by decide +kernel
theorem dX11_person_64 : decode cX11_person 64 = .ok (.iload_n 1, 1) := by decide +kernel
theorem dX11_person_65 : decode cX11_person 65 = .ok (.iaload, 1) := by decide +kernel
theorem dX11_person_66 : decode cX11_person 66 = .ok (.istore 4, 2) := by decide +kernel
theorem dX11_person_68 : decode cX11_person 68 = .ok (.aload_n 0, 1) := by decide +kernel
theorem dX11_person_69 : decode cX11_person 69 = .ok (.getfield 50, 3) := by decide +kernel
theorem dX11_person_72 : decode cX11_person 72 = .ok (.getfield 156, 3) := by decide +kernel
theorem dX11_person_75 : decode cX11_person 75 = .ok (.iload_n 1, 1) := by decide +kernel
theorem dX11_person_76 : decode cX11_person 76 = .ok (.iload_n 3, 1) := by decide +kernel
theorem dX11_person_77 : decode cX11_person 77 = .ok (.iastore, 1) := by decide +kernel
theorem dX11_person_78 : decode cX11_person 78 = .ok (.iload 4, 2) := by decide +kernel
theorem dX11_person_80 : decode cX11_person 80 = .ok (.ireturn, 1) := by decide +kernel
theorem dX11_person_81 : decode cX11_person 81 = .ok (.bipush (-2), 2) := by decide +kernel
theorem dX11_person_83 : decode cX11_person 83 = .ok (.ireturn, 1) := by decide +kernel
theorem dX11_read_0 : decode cX11_read 0 = .ok (.aload_n 0, 1) := by decide +kernel
theorem dX11_read_1 : decode cX11_read 1 = .ok (.iload_n 1, 1) := by decide +kernel
theorem dX11_read_2 : decode cX11_read 2 = .ok (.invokevirtual 159, 3) := by decide +kernel
theorem dX11_read_5 : decode cX11_read 5 = .ok (.astore_n 2, 1) := by decide +kernel
theorem dX11_read_6 : decode cX11_read 6 = .ok (.aload_n 2, 1) := by decide +kernel
theorem dX11_read_7 : decode cX11_read 7 = .ok (.ifnonnull 6, 3) := by decide +kernel
theorem dX11_read_10 : decode cX11_read 10 = .ok (.bipush (-2), 2) := by decide +kernel
theorem dX11_read_12 : decode cX11_read 12 = .ok (.ireturn, 1) := by decide +kernel
theorem dX11_read_13 : decode cX11_read 13 = .ok (.aload_n 2, 1) := by decide +kernel
theorem dX11_read_14 : decode cX11_read 14 = .ok (.invokevirtual 163, 3) := by decide +kernel
theorem dX11_read_17 : decode cX11_read 17 = .ok (.ifCond .eq 9, 3) := by decide +kernel
theorem dX11_read_20 : decode cX11_read 20 = .ok (.aload_n 0, 1) := by decide +kernel
theorem dX11_read_21 : decode cX11_read 21 = .ok (.iconst 1, 1) := by decide +kernel
theorem dX11_read_22 : decode cX11_read 22 = .ok (.invokevirtual 166, 3) := by decide +kernel
theorem dX11_read_25 : decode cX11_read 25 = .ok (.ireturn, 1) := by decide +kernel
theorem dX11_read_26 : decode cX11_read 26 = .ok (.iconst 0, 1) := by decide +kernel
theorem dX11_read_27 : decode cX11_read 27 = .ok (.istore_n 3, 1) := by decide +kernel
theorem dX11_read_28 : decode cX11_read 28 = .ok (.iload_n 3, 1) := by decide +kernel
theorem dX11_read_29 : decode cX11_read 29 = .ok (.iconst 5, 1) := by decide +kernel
theorem dX11_read_30 : decode cX11_read 30 = .ok (.if_icmp .ge 42, 3) := by decide +kernel
theorem dX11_read_33 : decode cX11_read 33 = .ok (.aload_n 2, 1) := by decide +kernel
theorem dX11_read_34 : decode cX11_read 34 = .ok (.iload_n 3, 1) := by decide +kernel
theorem dX11_read_35 : decode cX11_read 35 = .ok (.invokevirtual 170, 3) := by decide +kernel
theorem dX11_read_38 : decode cX11_read 38 = .ok (.ifCond .eq 34, 3) := by decide +kernel
theorem dX11_read_41 : decode cX11_read 41 = .ok (.aload_n 2, 1) := by decide +kernel
theorem dX11_read_42 : decode cX11_read 42 = .ok (.iload_n 3, 1) := by decide +kernel
theorem dX11_read_43 : decode cX11_read 43 = .ok (.invokevirtual 173, 3) := by decide +kernel
theorem dX11_read_46 : decode cX11_read 46 = .ok (.invokestatic 139, 3) := by decide +kernel
theorem dX11_read_49 : decode cX11_read 49 = .ok (.ifCond .eq 23, 3) := by decide +kernel
theorem dX11_read_52 : decode cX11_read 52 = .ok (.aload_n 0, 1) := by decide +kernel
theorem dX11_read_53 : decode cX11_read 53 = .ok (.getfield 50, 3) := by decide +kernel
theorem dX11_read_56 : decode cX11_read 56 = .ok (.getfield 150, 3) := by decide +kernel
theorem dX11_read_59 : decode cX11_read 59 = .ok (.iload_n 3, 1) := by decide +kernel
theorem dX11_read_60 : decode cX11_read 60 = .ok (.aload_n 2, 1) := by decide +kernel
theorem dX11_read_61 : decode cX11_read 61 = .ok (.iload_n 3, 1) := by decide +kernel
theorem dX11_read_62 : decode cX11_read 62 = .ok (.invokevirtual 173, 3) := by decide +kernel
theorem dX11_read_65 : decode cX11_read 65 = .ok (.iastore, 1) := by decide +kernel
theorem dX11_read_66 : decode cX11_read 66 = .ok (.iinc 3 1, 3) := by decide +kernel
theorem dX11_read_69 : decode cX11_read 69 = .ok (.goto (-41), 3) := by decide +kernel
theorem dX11_read_72 : decode cX11_read 72 = .ok (.iload_n 3, 1) := by decide +kernel
theorem dX11_read_73 : decode cX11_read 73 = .ok (.ireturn, 1) := by decide +kernel
theorem dX11_dense_0 : decode cX11_dense 0 = .ok (.aload_n 0, 1) := by decide +kernel
theorem dX11_dense_1 : decode cX11_dense 1 = .ok (.getfield 27, 3) := by decide +kernel
theorem dX11_dense_4 : decode cX11_dense 4 = .ok (.iload_n 1, 1) := by decide +kernel
theorem dX11_dense_5 : decode cX11_dense 5 = .ok (.invokevirtual 176, 3) := by decide +kernel
theorem dX11_dense_8 : decode cX11_dense 8 = .ok (.ifCond .eq 14, 3) := by decide +kernel
theorem dX11_dense_11 : decode cX11_dense 11 = .ok (.aload_n 0, 1) := by decide +kernel
theorem dX11_dense_12 : decode cX11_dense 12 = .ok (.getfield 27, 3) := by decide +kernel
theorem dX11_dense_15 : decode cX11_dense 15 = .ok (.iload_n 1, 1) := by decide +kernel
theorem dX11_dense_16 : decode cX11_dense 16 = .ok (.invokevirtual 179, 3) := by decide +kernel
theorem dX11_dense_19 : decode cX11_dense 19 = .ok (.goto 5, 3) := by decide +kernel
theorem dX11_dense_22 : decode cX11_dense 22 = .ok (.bipush (-2), 2) := by decide +kernel
theorem dX11_dense_24 : decode cX11_dense 24 = .ok (.ireturn, 1) := by decide +kernel
theorem dX11_judged_0 : decode cX11_judged 0 = .ok (.aload_n 0, 1) := by decide +kernel
theorem dX11_judged_1 : decode cX11_judged 1 = .ok (.getfield 57, 3) := by decide +kernel
theorem dX11_judged_4 : decode cX11_judged 4 = .ok (.getfield 182, 3) := by decide +kernel
theorem dX11_judged_7 : decode cX11_judged 7 = .ok (.aload_n 0, 1) := by decide +kernel
theorem dX11_judged_8 : decode cX11_judged 8 = .ok (.getfield 57, 3) := by decide +kernel
theorem dX11_judged_11 : decode cX11_judged 11 = .ok (.getfield 185, 3) := by decide +kernel
theorem dX11_judged_14 : decode cX11_judged 14 = .ok (.if_icmp .ge 13, 3) := by decide +kernel
theorem dX11_judged_17 : decode cX11_judged 17 = .ok (.aload_n 0, 1) := by decide +kernel
theorem dX11_judged_18 : decode cX11_judged 18 = .ok (.getfield 57, 3) := by decide +kernel
theorem dX11_judged_21 : decode cX11_judged 21 = .ok (.getfield 182, 3) := by decide +kernel
theorem dX11_judged_24 : decode cX11_judged 24 = .ok (.goto 4, 3) := by decide +kernel
theorem dX11_judged_27 : decode cX11_judged 27 = .ok (.iconst (-1), 1) := by decide +kernel
theorem dX11_judged_28 : decode cX11_judged 28 = .ok (.ireturn, 1) := by decide +kernel
theorem dX11_at_0 : decode cX11_at 0 = .ok (.iload_n 1, 1) := by decide +kernel
theorem dX11_at_1 : decode cX11_at 1 = .ok (.ifCond .lt 14, 3) := by decide +kernel
theorem dX11_at_4 : decode cX11_at 4 = .ok (.iload_n 1, 1) := by decide +kernel
theorem dX11_at_5 : decode cX11_at 5 = .ok (.aload_n 0, 1) := by decide +kernel
theorem dX11_at_6 : decode cX11_at 6 = .ok (.getfield 57, 3) := by decide +kernel
theorem dX11_at_9 : decode cX11_at 9 = .ok (.getfield 182, 3) := by decide +kernel
theorem dX11_at_12 : decode cX11_at 12 = .ok (.if_icmp .le 6, 3) := by decide +kernel
theorem dX11_at_15 : decode cX11_at 15 = .ok (.bipush (-2), 2) := by decide +kernel
theorem dX11_at_17 : decode cX11_at 17 = .ok (.ireturn, 1) := by decide +kernel
theorem dX11_at_18 : decode cX11_at 18 = .ok (.aload_n 0, 1) := by decide +kernel
theorem dX11_at_19 : decode cX11_at 19 = .ok (.getfield 27, 3) := by decide +kernel
theorem dX11_at_22 : decode cX11_at 22 = .ok (.aload_n 0, 1) := by decide +kernel
theorem dX11_at_23 : decode cX11_at 23 = .ok (.getfield 57, 3) := by decide +kernel
theorem dX11_at_26 : decode cX11_at 26 = .ok (.getfield 123, 3) := by decide +kernel
theorem dX11_at_29 : decode cX11_at 29 = .ok (.invokevirtual 176, 3) := by decide +kernel
theorem dX11_at_32 : decode cX11_at 32 = .ok (.ifCond .eq 14, 3) := by decide +kernel
theorem dX11_at_35 : decode cX11_at 35 = .ok (.aload_n 0, 1) := by decide +kernel
theorem dX11_at_36 : decode cX11_at 36 = .ok (.getfield 57, 3) := by decide +kernel
theorem dX11_at_39 : decode cX11_at 39 = .ok (.iload_n 1, 1) := by decide +kernel
theorem dX11_at_40 : decode cX11_at 40 = .ok (.invokevirtual 186, 3) := by decide +kernel
theorem dX11_at_43 : decode cX11_at 43 = .ok (.goto 5, 3) := by decide +kernel
theorem dX11_at_46 : decode cX11_at 46 = .ok (.bipush (-3), 2) := by decide +kernel
theorem dX11_at_48 : decode cX11_at 48 = .ok (.ireturn, 1) := by decide +kernel
theorem dX11_near_0 : decode cX11_near 0 = .ok (.aload_n 0, 1) := by decide +kernel
theorem dX11_near_1 : decode cX11_near 1 = .ok (.getfield 27, 3) := by decide +kernel
theorem dX11_near_4 : decode cX11_near 4 = .ok (.iload_n 1, 1) := by decide +kernel
theorem dX11_near_5 : decode cX11_near 5 = .ok (.invokevirtual 176, 3) := by decide +kernel
theorem dX11_near_8 : decode cX11_near 8 = .ok (.ifCond .eq 14, 3) := by decide +kernel
theorem dX11_near_11 : decode cX11_near 11 = .ok (.aload_n 0, 1) := by decide +kernel
theorem dX11_near_12 : decode cX11_near 12 = .ok (.getfield 27, 3) := by decide +kernel
theorem dX11_near_15 : decode cX11_near 15 = .ok (.iload_n 2, 1) := by decide +kernel
theorem dX11_near_16 : decode cX11_near 16 = .ok (.invokevirtual 176, 3) := by decide +kernel
theorem dX11_near_19 : decode cX11_near 19 = .ok (.ifCond .ne 6, 3) := by decide +kernel
theorem dX11_near_22 : decode cX11_near 22 = .ok (.bipush (-2), 2) := by decide +kernel
theorem dX11_near_24 : decode cX11_near 24 = .ok (.ireturn, 1) := by decide +kernel
theorem dX11_near_25 : decode cX11_near 25 = .ok (.aload_n 0, 1) := by decide +kernel
theorem dX11_near_26 : decode cX11_near 26 = .ok (.getfield 36, 3) := by decide +kernel
theorem dX11_near_29 : decode cX11_near 29 = .ok (.iload_n 1, 1) := by decide +kernel
theorem dX11_near_30 : decode cX11_near 30 = .ok (.invokevirtual 189, 3) := by decide +kernel
theorem dX11_near_33 : decode cX11_near 33 = .ok (.aload_n 0, 1) := by decide +kernel
theorem dX11_near_34 : decode cX11_near 34 = .ok (.getfield 36, 3) := by decide +kernel
theorem dX11_near_37 : decode cX11_near 37 = .ok (.iload_n 2, 1) := by decide +kernel
theorem dX11_near_38 : decode cX11_near 38 = .ok (.invokevirtual 192, 3) := by decide +kernel
theorem dX11_near_41 : decode cX11_near 41 = .ok (.ireturn, 1) := by decide +kernel
theorem dX11_easiest_0 : decode cX11_easiest 0 = .ok (.aload_n 0, 1) := by decide +kernel
theorem dX11_easiest_1 : decode cX11_easiest 1 = .ok (.getfield 27, 3) := by decide +kernel
theorem dX11_easiest_4 : decode cX11_easiest 4 = .ok (.iload_n 1, 1) := by decide +kernel
theorem dX11_easiest_5 : decode cX11_easiest 5 = .ok (.invokevirtual 176, 3) := by decide +kernel
theorem dX11_easiest_8 : decode cX11_easiest 8 = .ok (.ifCond .eq 20, 3) := by decide +kernel
theorem dX11_easiest_11 : decode cX11_easiest 11 = .ok (.aload_n 0, 1) := by decide +kernel
theorem dX11_easiest_12 : decode cX11_easiest 12 = .ok (.getfield 27, 3) := by decide +kernel
theorem dX11_easiest_15 : decode cX11_easiest 15 = .ok (.iload_n 2, 1) := by decide +kernel
theorem dX11_easiest_16 : decode cX11_easiest 16 = .ok (.invokevirtual 176, 3) := by decide +kernel
theorem dX11_easiest_19 : decode cX11_easiest 19 = .ok (.ifCond .eq 9, 3) := by decide +kernel
theorem dX11_easiest_22 : decode cX11_easiest 22 = .ok (.iload_n 3, 1) := by decide +kernel
theorem dX11_easiest_23 : decode cX11_easiest 23 = .ok (.bipush (-2), 2) := by decide +kernel
theorem dX11_easiest_25 : decode cX11_easiest 25 = .ok (.if_icmp .ge 6, 3) := by decide +kernel
theorem dX11_easiest_28 : decode cX11_easiest 28 = .ok (.bipush (-2), 2) := by decide +kernel
theorem dX11_easiest_30 : decode cX11_easiest 30 = .ok (.ireturn, 1) := by decide +kernel
theorem dX11_easiest_31 : decode cX11_easiest 31 = .ok (.aload_n 0, 1) := by decide +kernel
theorem dX11_easiest_32 : decode cX11_easiest 32 = .ok (.getfield 43, 3) := by decide +kernel
theorem dX11_easiest_35 : decode cX11_easiest 35 = .ok (.iload_n 2, 1) := by decide +kernel
theorem dX11_easiest_36 : decode cX11_easiest 36 = .ok (.invokevirtual 195, 3) := by decide +kernel
theorem dX11_easiest_39 : decode cX11_easiest 39 = .ok (.iload_n 3, 1) := by decide +kernel
theorem dX11_easiest_40 : decode cX11_easiest 40 = .ok (.bipush (-2), 2) := by decide +kernel
theorem dX11_easiest_42 : decode cX11_easiest 42 = .ok (.if_icmp .ne 12, 3) := by decide +kernel
theorem dX11_easiest_45 : decode cX11_easiest 45 = .ok (.aload_n 0, 1) := by decide +kernel
theorem dX11_easiest_46 : decode cX11_easiest 46 = .ok (.getfield 43, 3) := by decide +kernel
theorem dX11_easiest_49 : decode cX11_easiest 49 = .ok (.iload_n 1, 1) := by decide +kernel
theorem dX11_easiest_50 : decode cX11_easiest 50 = .ok (.invokevirtual 198, 3) := by decide +kernel
theorem dX11_easiest_53 : decode cX11_easiest 53 = .ok (.ireturn, 1) := by decide +kernel
theorem dX11_easiest_54 : decode cX11_easiest 54 = .ok (.iload_n 3, 1) := by decide +kernel
theorem dX11_easiest_55 : decode cX11_easiest 55 = .ok (.iconst (-1), 1) := by decide +kernel
theorem dX11_easiest_56 : decode cX11_easiest 56 = .ok (.if_icmp .ne 14, 3) := by decide +kernel
theorem dX11_easiest_59 : decode cX11_easiest 59 = .ok (.aload_n 0, 1) := by decide +kernel
theorem dX11_easiest_60 : decode cX11_easiest 60 = .ok (.getfield 43, 3) := by decide +kernel
theorem dX11_easiest_63 : decode cX11_easiest 63 = .ok (.iload_n 1, 1) := by decide +kernel
theorem dX11_easiest_64 : decode cX11_easiest 64 = .ok (.invokevirtual 201, 3) := by decide +kernel
theorem dX11_easiest_67 : decode cX11_easiest 67 = .ok (.goto 12, 3) := by decide +kernel
theorem dX11_easiest_70 : decode cX11_easiest 70 = .ok (.aload_n 0, 1) := by decide +kernel
theorem dX11_easiest_71 : decode cX11_easiest 71 = .ok (.getfield 43, 3) := by decide +kernel
theorem dX11_easiest_74 : decode cX11_easiest 74 = .ok (.iload_n 1, 1) := by decide +kernel
theorem dX11_easiest_75 : decode cX11_easiest 75 = .ok (.iload_n 3, 1) := by decide +kernel
theorem dX11_easiest_76 : decode cX11_easiest 76 = .ok (.invokevirtual 204, 3) := by decide +kernel
theorem dX11_easiest_79 : decode cX11_easiest 79 = .ok (.ireturn, 1) := by decide +kernel
theorem dX11_order_0 : decode cX11_order 0 = .ok (.iload_n 1, 1) := by decide +kernel
theorem dX11_order_1 : decode cX11_order 1 = .ok (.invokestatic 135, 3) := by decide +kernel
theorem dX11_order_4 : decode cX11_order 4 = .ok (.ifCond .eq 14, 3) := by decide +kernel
theorem dX11_order_7 : decode cX11_order 7 = .ok (.aload_n 0, 1) := by decide +kernel
theorem dX11_order_8 : decode cX11_order 8 = .ok (.getfield 50, 3) := by decide +kernel
theorem dX11_order_11 : decode cX11_order 11 = .ok (.iload_n 1, 1) := by decide +kernel
theorem dX11_order_12 : decode cX11_order 12 = .ok (.invokevirtual 207, 3) := by decide +kernel
theorem dX11_order_15 : decode cX11_order 15 = .ok (.goto 5, 3) := by decide +kernel
theorem dX11_order_18 : decode cX11_order 18 = .ok (.bipush (-2), 2) := by decide +kernel
theorem dX11_order_20 : decode cX11_order 20 = .ok (.ireturn, 1) := by decide +kernel
theorem dX11_loose_0 : decode cX11_loose 0 = .ok (.aload_n 0, 1) := by decide +kernel
theorem dX11_loose_1 : decode cX11_loose 1 = .ok (.getfield 50, 3) := by decide +kernel
theorem dX11_loose_4 : decode cX11_loose 4 = .ok (.invokevirtual 210, 3) := by decide +kernel
theorem dX11_loose_7 : decode cX11_loose 7 = .ok (.ireturn, 1) := by decide +kernel
theorem dX11_risk_0 : decode cX11_risk 0 = .ok (.iconst 0, 1) := by decide +kernel
theorem dX11_risk_1 : decode cX11_risk 1 = .ok (.istore_n 1, 1) := by decide +kernel
theorem dX11_risk_2 : decode cX11_risk 2 = .ok (.iconst 0, 1) := by decide +kernel
theorem dX11_risk_3 : decode cX11_risk 3 = .ok (.istore_n 2, 1) := by decide +kernel
theorem dX11_risk_4 : decode cX11_risk 4 = .ok (.iload_n 2, 1) := by decide +kernel
theorem dX11_risk_5 : decode cX11_risk 5 = .ok (.aload_n 0, 1) := by decide +kernel
theorem dX11_risk_6 : decode cX11_risk 6 = .ok (.getfield 57, 3) := by decide +kernel
theorem dX11_risk_9 : decode cX11_risk 9 = .ok (.getfield 182, 3) := by decide +kernel
theorem dX11_risk_12 : decode cX11_risk 12 = .ok (.if_icmp .ge 17, 3) := by decide +kernel
theorem dX11_risk_15 : decode cX11_risk 15 = .ok (.iload_n 1, 1) := by decide +kernel
theorem dX11_risk_16 : decode cX11_risk 16 = .ok (.aload_n 0, 1) := by decide +kernel
theorem dX11_risk_17 : decode cX11_risk 17 = .ok (.iload_n 2, 1) := by decide +kernel
theorem dX11_risk_18 : decode cX11_risk 18 = .ok (.invokevirtual 214, 3) := by decide +kernel
theorem dX11_risk_21 : decode cX11_risk 21 = .ok (.iadd, 1) := by decide +kernel
theorem dX11_risk_22 : decode cX11_risk 22 = .ok (.istore_n 1, 1) := by decide +kernel
theorem dX11_risk_23 : decode cX11_risk 23 = .ok (.iinc 2 1, 3) := by decide +kernel
theorem dX11_risk_26 : decode cX11_risk 26 = .ok (.goto (-22), 3) := by decide +kernel
theorem dX11_risk_29 : decode cX11_risk 29 = .ok (.iload_n 1, 1) := by decide +kernel
theorem dX11_risk_30 : decode cX11_risk 30 = .ok (.aload_n 0, 1) := by decide +kernel
theorem dX11_risk_31 : decode cX11_risk 31 = .ok (.getfield 50, 3) := by decide +kernel
theorem dX11_risk_34 : decode cX11_risk 34 = .ok (.invokevirtual 210, 3) := by decide +kernel
theorem dX11_risk_37 : decode cX11_risk 37 = .ok (.imul, 1) := by decide +kernel
theorem dX11_risk_38 : decode cX11_risk 38 = .ok (.ireturn, 1) := by decide +kernel
theorem dX11_best_0 : decode cX11_best 0 = .ok (.iload_n 1, 1) := by decide +kernel
theorem dX11_best_1 : decode cX11_best 1 = .ok (.ifCond .lt 27, 3) := by decide +kernel
theorem dX11_best_4 : decode cX11_best 4 = .ok (.iload_n 1, 1) := by decide +kernel
theorem dX11_best_5 : decode cX11_best 5 = .ok (.bipush 31, 2) := by decide +kernel
theorem dX11_best_7 : decode cX11_best 7 = .ok (.if_icmp .gt 21, 3) := by decide +kernel
theorem dX11_best_10 : decode cX11_best 10 = .ok (.iload_n 1, 1) := by decide +kernel
theorem dX11_best_11 : decode cX11_best 11 = .ok (.invokestatic 217, 3) := by decide +kernel
theorem dX11_best_14 : decode cX11_best 14 = .ok (.iconst 2, 1) := by decide +kernel
theorem dX11_best_15 : decode cX11_best 15 = .ok (.if_icmp .lt 13, 3) := by decide +kernel
theorem dX11_best_18 : decode cX11_best 18 = .ok (.iload_n 2, 1) := by decide +kernel
theorem dX11_best_19 : decode cX11_best 19 = .ok (.iconst (-1), 1) := by decide +kernel
theorem dX11_best_20 : decode cX11_best 20 = .ok (.if_icmp .lt 8, 3) := by decide +kernel
theorem dX11_best_23 : decode cX11_best 23 = .ok (.iload_n 2, 1) := by decide +kernel
theorem dX11_best_24 : decode cX11_best 24 = .ok (.iconst 5, 1) := by decide +kernel
theorem dX11_best_25 : decode cX11_best 25 = .ok (.if_icmp .lt 6, 3) := by decide +kernel
theorem dX11_best_28 : decode cX11_best 28 = .ok (.bipush (-2), 2) := by decide +kernel
theorem dX11_best_30 : decode cX11_best 30 = .ok (.ireturn, 1) := by decide +kernel
theorem dX11_best_31 : decode cX11_best 31 = .ok (.aload_n 0, 1) := by decide +kernel
theorem dX11_best_32 : decode cX11_best 32 = .ok (.getfield 87, 3) := by decide +kernel
theorem dX11_best_35 : decode cX11_best 35 = .ok (.aload_n 0, 1) := by decide +kernel
theorem dX11_best_36 : decode cX11_best 36 = .ok (.getfield 50, 3) := by decide +kernel
theorem dX11_best_39 : decode cX11_best 39 = .ok (.invokevirtual 222, 3) := by decide +kernel
theorem dX11_best_42 : decode cX11_best 42 = .ok (.aload_n 0, 1) := by decide +kernel
theorem dX11_best_43 : decode cX11_best 43 = .ok (.getfield 87, 3) := by decide +kernel
theorem dX11_best_46 : decode cX11_best 46 = .ok (.iload_n 1, 1) := by decide +kernel
theorem dX11_best_47 : decode cX11_best 47 = .ok (.invokevirtual 226, 3) := by decide +kernel
theorem dX11_best_50 : decode cX11_best 50 = .ok (.iload_n 2, 1) := by decide +kernel
theorem dX11_best_51 : decode cX11_best 51 = .ok (.iconst (-1), 1) := by decide +kernel
theorem dX11_best_52 : decode cX11_best 52 = .ok (.if_icmp .ne 15, 3) := by decide +kernel
theorem dX11_best_55 : decode cX11_best 55 = .ok (.aload_n 0, 1) := by decide +kernel
theorem dX11_best_56 : decode cX11_best 56 = .ok (.getfield 87, 3) := by decide +kernel
theorem dX11_best_59 : decode cX11_best 59 = .ok (.iconst 5, 1) := by decide +kernel
theorem dX11_best_60 : decode cX11_best 60 = .ok (.iload_n 1, 1) := by decide +kernel
theorem dX11_best_61 : decode cX11_best 61 = .ok (.invokevirtual 229, 3) := by decide +kernel
theorem dX11_best_64 : decode cX11_best 64 = .ok (.goto 12, 3) := by decide +kernel
theorem dX11_best_67 : decode cX11_best 67 = .ok (.aload_n 0, 1) := by decide +kernel
theorem dX11_best_68 : decode cX11_best 68 = .ok (.getfield 87, 3) := by decide +kernel
theorem dX11_best_71 : decode cX11_best 71 = .ok (.iload_n 1, 1) := by decide +kernel
theorem dX11_best_72 : decode cX11_best 72 = .ok (.iload_n 2, 1) := by decide +kernel
theorem dX11_best_73 : decode cX11_best 73 = .ok (.invokevirtual 232, 3) := by decide +kernel
theorem dX11_best_76 : decode cX11_best 76 = .ok (.ireturn, 1) := by decide +kernel
theorem dX11_holds_0 : decode cX11_holds 0 = .ok (.iload_n 1, 1) := by decide +kernel
theorem dX11_holds_1 : decode cX11_holds 1 = .ok (.ifCond .lt 49, 3) := by decide +kernel
theorem dX11_holds_4 : decode cX11_holds 4 = .ok (.iload_n 1, 1) := by decide +kernel
theorem dX11_holds_5 : decode cX11_holds 5 = .ok (.aload_n 0, 1) := by decide +kernel
theorem dX11_holds_6 : decode cX11_holds 6 = .ok (.getfield 50, 3) := by decide +kernel
theorem dX11_holds_9 : decode cX11_holds 9 = .ok (.invokevirtual 235, 3) := by decide +kernel
theorem dX11_holds_12 : decode cX11_holds 12 = .ok (.if_icmp .ge 38, 3) := by decide +kernel
theorem dX11_holds_15 : decode cX11_holds 15 = .ok (.iload_n 2, 1) := by decide +kernel
theorem dX11_holds_16 : decode cX11_holds 16 = .ok (.ifCond .lt 34, 3) := by decide +kernel
theorem dX11_holds_19 : decode cX11_holds 19 = .ok (.iload_n 3, 1) := by decide +kernel
theorem dX11_holds_20 : decode cX11_holds 20 = .ok (.ifCond .lt 30, 3) := by decide +kernel
theorem dX11_holds_23 : decode cX11_holds 23 = .ok (.iload_n 3, 1) := by decide +kernel
theorem dX11_holds_24 : decode cX11_holds 24 = .ok (.bipush 6, 2) := by decide +kernel
theorem dX11_holds_26 : decode cX11_holds 26 = .ok (.if_icmp .gt 24, 3) := by decide +kernel
theorem dX11_holds_29 : decode cX11_holds 29 = .ok (.iload_n 2, 1) := by decide +kernel
theorem dX11_holds_30 : decode cX11_holds 30 = .ok (.aload_n 0, 1) := by decide +kernel
theorem dX11_holds_31 : decode cX11_holds 31 = .ok (.getfield 57, 3) := by decide +kernel
theorem dX11_holds_34 : decode cX11_holds 34 = .ok (.getfield 182, 3) := by decide +kernel
theorem dX11_holds_37 : decode cX11_holds 37 = .ok (.iload_n 3, 1) := by decide +kernel
theorem dX11_holds_38 : decode cX11_holds 38 = .ok (.isub, 1) := by decide +kernel
theorem dX11_holds_39 : decode cX11_holds 39 = .ok (.if_icmp .gt 11, 3) := by decide +kernel
theorem dX11_holds_42 : decode cX11_holds 42 = .ok (.iload 4, 2) := by decide +kernel
theorem dX11_holds_44 : decode cX11_holds 44 = .ok (.invokestatic 238, 3) := by decide +kernel
theorem dX11_holds_47 : decode cX11_holds 47 = .ok (.ifCond .ne 9, 3) := by decide +kernel
theorem dX11_holds_50 : decode cX11_holds 50 = .ok (.bipush (-2), 2) := by decide +kernel
theorem dX11_holds_52 : decode cX11_holds 52 = .ok (.invokestatic 241, 3) := by decide +kernel
theorem dX11_holds_55 : decode cX11_holds 55 = .ok (.lreturn, 1) := by decide +kernel
theorem dX11_holds_56 : decode cX11_holds 56 = .ok (.lconst 1, 1) := by decide +kernel
theorem dX11_holds_57 : decode cX11_holds 57 = .ok (.lstore 5, 2) := by decide +kernel
theorem dX11_holds_59 : decode cX11_holds 59 = .ok (.lconst 1, 1) := by decide +kernel
theorem dX11_holds_60 : decode cX11_holds 60 = .ok (.lstore 7, 2) := by decide +kernel
theorem dX11_holds_62 : decode cX11_holds 62 = .ok (.bipush 16, 2) := by decide +kernel
theorem dX11_holds_64 : decode cX11_holds 64 = .ok (.aload_n 0, 1) := by decide +kernel
theorem dX11_holds_65 : decode cX11_holds 65 = .ok (.getfield 50, 3) := by decide +kernel
theorem dX11_holds_68 : decode cX11_holds 68 = .ok (.iload_n 1, 1) := by decide +kernel
theorem dX11_holds_69 : decode cX11_holds 69 = .ok (.invokevirtual 245, 3) := by decide +kernel
theorem dX11_holds_72 : decode cX11_holds 72 = .ok (.isub, 1) := by decide +kernel
theorem dX11_holds_73 : decode cX11_holds 73 = .ok (.istore 9, 2) := by decide +kernel
theorem dX11_holds_75 : decode cX11_holds 75 = .ok (.iconst 0, 1) := by decide +kernel
theorem dX11_holds_76 : decode cX11_holds 76 = .ok (.istore 10, 2) := by decide +kernel
theorem dX11_holds_78 : decode cX11_holds 78 = .ok (.iload 10, 2) := by decide +kernel
theorem dX11_holds_80 : decode cX11_holds 80 = .ok (.iload_n 3, 1) := by decide +kernel
theorem dX11_holds_81 : decode cX11_holds 81 = .ok (.if_icmp .ge 38, 3) := by decide +kernel
theorem dX11_holds_84 : decode cX11_holds 84 = .ok (.lload 5, 2) := by decide +kernel
theorem dX11_holds_86 : decode cX11_holds 86 = .ok (.sipush 256, 3) := by decide +kernel
theorem dX11_holds_89 : decode cX11_holds 89 = .ok (.aload_n 0, 1) := by decide +kernel
theorem dX11_holds_90 : decode cX11_holds 90 = .ok (.iload_n 2, 1) := by decide +kernel
theorem dX11_holds_91 : decode cX11_holds 91 = .ok (.iload 10, 2) := by decide +kernel
theorem dX11_holds_93 : decode cX11_holds 93 = .ok (.iadd, 1) := by decide +kernel
theorem dX11_holds_94 : decode cX11_holds 94 = .ok (.invokevirtual 214, 3) := by decide +kernel
theorem dX11_holds_97 : decode cX11_holds 97 = .ok (.iload 9, 2) := by decide +kernel
theorem dX11_holds_99 : decode cX11_holds 99 = .ok (.imul, 1) := by decide +kernel
theorem dX11_holds_100 : decode cX11_holds 100 = .ok (.isub, 1) := by decide +kernel
theorem dX11_holds_101 : decode cX11_holds 101 = .ok (.i2l, 1) := by decide +kernel
theorem dX11_holds_102 : decode cX11_holds 102 = .ok (.lmul, 1) := by decide +kernel
theorem dX11_holds_103 : decode cX11_holds 103 = .ok (.lstore 5, 2) := by decide +kernel
theorem dX11_holds_105 : decode cX11_holds 105 = .ok (.lload 7, 2) := by decide +kernel
theorem dX11_holds_107 : decode cX11_holds 107 = .ok (.ldc2_w 248, 3) := by decide +kernel
theorem dX11_holds_110 : decode cX11_holds 110 = .ok (.lmul, 1) := by decide +kernel
theorem dX11_holds_111 : decode cX11_holds 111 = .ok (.lstore 7, 2) := by decide +kernel
theorem dX11_holds_113 : decode cX11_holds 113 = .ok (.iinc 10 1, 3) := by decide +kernel
theorem dX11_holds_116 : decode cX11_holds 116 = .ok (.goto (-38), 3) := by decide +kernel
theorem dX11_holds_119 : decode cX11_holds 119 = .ok (.lload 5, 2) := by decide +kernel
theorem dX11_holds_121 : decode cX11_holds 121 = .ok (.lload 7, 2) := by decide +kernel
theorem dX11_holds_123 : decode cX11_holds 123 = .ok (.iload 4, 2) := by decide +kernel
theorem dX11_holds_125 : decode cX11_holds 125 = .ok (.invokestatic 250, 3) := by decide +kernel
theorem dX11_holds_128 : decode cX11_holds 128 = .ok (.lreturn, 1) := by decide +kernel
theorem dX11_alike_0 : decode cX11_alike 0 = .ok (.iload_n 1, 1) := by decide +kernel
theorem dX11_alike_1 : decode cX11_alike 1 = .ok (.invokestatic 238, 3) := by decide +kernel
theorem dX11_alike_4 : decode cX11_alike 4 = .ok (.ifCond .ne 9, 3) := by decide +kernel
theorem dX11_alike_7 : decode cX11_alike 7 = .ok (.bipush (-2), 2) := by decide +kernel
theorem dX11_alike_9 : decode cX11_alike 9 = .ok (.invokestatic 241, 3) := by decide +kernel
theorem dX11_alike_12 : decode cX11_alike 12 = .ok (.lreturn, 1) := by decide +kernel
theorem dX11_alike_13 : decode cX11_alike 13 = .ok (.aload_n 0, 1) := by decide +kernel
theorem dX11_alike_14 : decode cX11_alike 14 = .ok (.getfield 50, 3) := by decide +kernel
theorem dX11_alike_17 : decode cX11_alike 17 = .ok (.getfield 254, 3) := by decide +kernel
theorem dX11_alike_20 : decode cX11_alike 20 = .ok (.ifCond .ne 5, 3) := by decide +kernel
theorem dX11_alike_23 : decode cX11_alike 23 = .ok (.lconst 1, 1) := by decide +kernel
theorem dX11_alike_24 : decode cX11_alike 24 = .ok (.lreturn, 1) := by decide +kernel
theorem dX11_alike_25 : decode cX11_alike 25 = .ok (.lconst 1, 1) := by decide +kernel
theorem dX11_alike_26 : decode cX11_alike 26 = .ok (.lstore_n 2, 1) := by decide +kernel
theorem dX11_alike_27 : decode cX11_alike 27 = .ok (.lconst 1, 1) := by decide +kernel
theorem dX11_alike_28 : decode cX11_alike 28 = .ok (.lstore 4, 2) := by decide +kernel
theorem dX11_alike_30 : decode cX11_alike 30 = .ok (.lconst 1, 1) := by decide +kernel
theorem dX11_alike_31 : decode cX11_alike 31 = .ok (.lstore 6, 2) := by decide +kernel
theorem dX11_alike_33 : decode cX11_alike 33 = .ok (.iconst 0, 1) := by decide +kernel
theorem dX11_alike_34 : decode cX11_alike 34 = .ok (.istore 8, 2) := by decide +kernel
theorem dX11_alike_36 : decode cX11_alike 36 = .ok (.iload 8, 2) := by decide +kernel
theorem dX11_alike_38 : decode cX11_alike 38 = .ok (.aload_n 0, 1) := by decide +kernel
theorem dX11_alike_39 : decode cX11_alike 39 = .ok (.getfield 50, 3) := by decide +kernel
theorem dX11_alike_42 : decode cX11_alike 42 = .ok (.getfield 254, 3) := by decide +kernel
theorem dX11_alike_45 : decode cX11_alike 45 = .ok (.if_icmp .ge 52, 3) := by decide +kernel
theorem dX11_alike_48 : decode cX11_alike 48 = .ok (.aload_n 0, 1) := by decide +kernel
theorem dX11_alike_49 : decode cX11_alike 49 = .ok (.getfield 50, 3) := by decide +kernel
theorem dX11_alike_52 : decode cX11_alike 52 = .ok (.aload_n 0, 1) := by decide +kernel
theorem dX11_alike_53 : decode cX11_alike 53 = .ok (.getfield 50, 3) := by decide +kernel
theorem dX11_alike_56 : decode cX11_alike 56 = .ok (.iload 8, 2) := by decide +kernel
theorem dX11_alike_58 : decode cX11_alike 58 = .ok (.invokevirtual 207, 3) := by decide +kernel
theorem dX11_alike_61 : decode cX11_alike 61 = .ok (.invokevirtual 257, 3) := by decide +kernel
theorem dX11_alike_64 : decode cX11_alike 64 = .ok (.istore 9, 2) := by decide +kernel
theorem dX11_alike_66 : decode cX11_alike 66 = .ok (.lload_n 2, 1) := by decide +kernel
theorem dX11_alike_67 : decode cX11_alike 67 = .ok (.iload 9, 2) := by decide +kernel
theorem dX11_alike_69 : decode cX11_alike 69 = .ok (.i2l, 1) := by decide +kernel
theorem dX11_alike_70 : decode cX11_alike 70 = .ok (.lmul, 1) := by decide +kernel
theorem dX11_alike_71 : decode cX11_alike 71 = .ok (.lstore_n 2, 1) := by decide +kernel
theorem dX11_alike_72 : decode cX11_alike 72 = .ok (.lload 4, 2) := by decide +kernel
theorem dX11_alike_74 : decode cX11_alike 74 = .ok (.bipush 16, 2) := by decide +kernel
theorem dX11_alike_76 : decode cX11_alike 76 = .ok (.iload 9, 2) := by decide +kernel
theorem dX11_alike_78 : decode cX11_alike 78 = .ok (.isub, 1) := by decide +kernel
theorem dX11_alike_79 : decode cX11_alike 79 = .ok (.i2l, 1) := by decide +kernel
theorem dX11_alike_80 : decode cX11_alike 80 = .ok (.lmul, 1) := by decide +kernel
theorem dX11_alike_81 : decode cX11_alike 81 = .ok (.lstore 4, 2) := by decide +kernel
theorem dX11_alike_83 : decode cX11_alike 83 = .ok (.lload 6, 2) := by decide +kernel
theorem dX11_alike_85 : decode cX11_alike 85 = .ok (.ldc2_w 260, 3) := by decide +kernel
theorem dX11_alike_88 : decode cX11_alike 88 = .ok (.lmul, 1) := by decide +kernel
theorem dX11_alike_89 : decode cX11_alike 89 = .ok (.lstore 6, 2) := by decide +kernel
theorem dX11_alike_91 : decode cX11_alike 91 = .ok (.iinc 8 1, 3) := by decide +kernel
theorem dX11_alike_94 : decode cX11_alike 94 = .ok (.goto (-58), 3) := by decide +kernel
theorem dX11_alike_97 : decode cX11_alike 97 = .ok (.lload_n 2, 1) := by decide +kernel
theorem dX11_alike_98 : decode cX11_alike 98 = .ok (.lload 4, 2) := by decide +kernel
theorem dX11_alike_100 : decode cX11_alike 100 = .ok (.ladd, 1) := by decide +kernel
theorem dX11_alike_101 : decode cX11_alike 101 = .ok (.lload 6, 2) := by decide +kernel
theorem dX11_alike_103 : decode cX11_alike 103 = .ok (.iload_n 1, 1) := by decide +kernel
theorem dX11_alike_104 : decode cX11_alike 104 = .ok (.invokestatic 250, 3) := by decide +kernel
theorem dX11_alike_107 : decode cX11_alike 107 = .ok (.lreturn, 1) := by decide +kernel
theorem dX11_torn_0 : decode cX11_torn 0 = .ok (.iload_n 2, 1) := by decide +kernel
theorem dX11_torn_1 : decode cX11_torn 1 = .ok (.ifCond .lt 8, 3) := by decide +kernel
theorem dX11_torn_4 : decode cX11_torn 4 = .ok (.iload_n 2, 1) := by decide +kernel
theorem dX11_torn_5 : decode cX11_torn 5 = .ok (.iconst 3, 1) := by decide +kernel
theorem dX11_torn_6 : decode cX11_torn 6 = .ok (.if_icmp .le 6, 3) := by decide +kernel
theorem dX11_torn_9 : decode cX11_torn 9 = .ok (.bipush (-2), 2) := by decide +kernel
theorem dX11_torn_11 : decode cX11_torn 11 = .ok (.ireturn, 1) := by decide +kernel
theorem dX11_torn_12 : decode cX11_torn 12 = .ok (.aload_n 0, 1) := by decide +kernel
theorem dX11_torn_13 : decode cX11_torn 13 = .ok (.getfield 64, 3) := by decide +kernel
theorem dX11_torn_16 : decode cX11_torn 16 = .ok (.iload_n 1, 1) := by decide +kernel
theorem dX11_torn_17 : decode cX11_torn 17 = .ok (.putfield 262, 3) := by decide +kernel
theorem dX11_torn_20 : decode cX11_torn 20 = .ok (.aload_n 0, 1) := by decide +kernel
theorem dX11_torn_21 : decode cX11_torn 21 = .ok (.invokevirtual 265, 3) := by decide +kernel
theorem dX11_torn_24 : decode cX11_torn 24 = .ok (.iload_n 2, 1) := by decide +kernel
theorem dX11_torn_25 : decode cX11_torn 25 = .ok (.ifCond .ne 11, 3) := by decide +kernel
theorem dX11_torn_28 : decode cX11_torn 28 = .ok (.aload_n 0, 1) := by decide +kernel
theorem dX11_torn_29 : decode cX11_torn 29 = .ok (.getfield 64, 3) := by decide +kernel
theorem dX11_torn_32 : decode cX11_torn 32 = .ok (.getfield 268, 3) := by decide +kernel
theorem dX11_torn_35 : decode cX11_torn 35 = .ok (.ireturn, 1) := by decide +kernel
theorem dX11_torn_36 : decode cX11_torn 36 = .ok (.iload_n 2, 1) := by decide +kernel
theorem dX11_torn_37 : decode cX11_torn 37 = .ok (.iconst 1, 1) := by decide +kernel
theorem dX11_torn_38 : decode cX11_torn 38 = .ok (.if_icmp .ne 11, 3) := by decide +kernel
theorem dX11_torn_41 : decode cX11_torn 41 = .ok (.aload_n 0, 1) := by decide +kernel
theorem dX11_torn_42 : decode cX11_torn 42 = .ok (.getfield 64, 3) := by decide +kernel
theorem dX11_torn_45 : decode cX11_torn 45 = .ok (.getfield 271, 3) := by decide +kernel
theorem dX11_torn_48 : decode cX11_torn 48 = .ok (.ireturn, 1) := by decide +kernel
theorem dX11_torn_49 : decode cX11_torn 49 = .ok (.iload_n 2, 1) := by decide +kernel
theorem dX11_torn_50 : decode cX11_torn 50 = .ok (.iconst 2, 1) := by decide +kernel
theorem dX11_torn_51 : decode cX11_torn 51 = .ok (.if_icmp .ne 13, 3) := by decide +kernel
theorem dX11_torn_54 : decode cX11_torn 54 = .ok (.aload_n 0, 1) := by decide +kernel
theorem dX11_torn_55 : decode cX11_torn 55 = .ok (.getfield 64, 3) := by decide +kernel
theorem dX11_torn_58 : decode cX11_torn 58 = .ok (.getfield 274, 3) := by decide +kernel
theorem dX11_torn_61 : decode cX11_torn 61 = .ok (.goto 17, 3) := by decide +kernel
theorem dX11_torn_64 : decode cX11_torn 64 = .ok (.aload_n 0, 1) := by decide +kernel
theorem dX11_torn_65 : decode cX11_torn 65 = .ok (.getfield 50, 3) := by decide +kernel
theorem dX11_torn_68 : decode cX11_torn 68 = .ok (.aload_n 0, 1) := by decide +kernel
theorem dX11_torn_69 : decode cX11_torn 69 = .ok (.getfield 64, 3) := by decide +kernel
theorem dX11_torn_72 : decode cX11_torn 72 = .ok (.getfield 268, 3) := by decide +kernel
theorem dX11_torn_75 : decode cX11_torn 75 = .ok (.invokevirtual 277, 3) := by decide +kernel
theorem dX11_torn_78 : decode cX11_torn 78 = .ok (.ireturn, 1) := by decide +kernel
theorem dX11_fairs_0 : decode cX11_fairs 0 = .ok (.iload_n 2, 1) := by decide +kernel
theorem dX11_fairs_1 : decode cX11_fairs 1 = .ok (.iconst 1, 1) := by decide +kernel
theorem dX11_fairs_2 : decode cX11_fairs 2 = .ok (.if_icmp .lt 9, 3) := by decide +kernel
theorem dX11_fairs_5 : decode cX11_fairs 5 = .ok (.iload_n 2, 1) := by decide +kernel
theorem dX11_fairs_6 : decode cX11_fairs 6 = .ok (.bipush 60, 2) := by decide +kernel
theorem dX11_fairs_8 : decode cX11_fairs 8 = .ok (.if_icmp .le 6, 3) := by decide +kernel
theorem dX11_fairs_11 : decode cX11_fairs 11 = .ok (.bipush (-2), 2) := by decide +kernel
theorem dX11_fairs_13 : decode cX11_fairs 13 = .ok (.ireturn, 1) := by decide +kernel
theorem dX11_fairs_14 : decode cX11_fairs 14 = .ok (.iconst 0, 1) := by decide +kernel
theorem dX11_fairs_15 : decode cX11_fairs 15 = .ok (.istore_n 3, 1) := by decide +kernel
theorem dX11_fairs_16 : decode cX11_fairs 16 = .ok (.aload_n 0, 1) := by decide +kernel
theorem dX11_fairs_17 : decode cX11_fairs 17 = .ok (.getfield 64, 3) := by decide +kernel
theorem dX11_fairs_20 : decode cX11_fairs 20 = .ok (.iload_n 1, 1) := by decide +kernel
theorem dX11_fairs_21 : decode cX11_fairs 21 = .ok (.putfield 262, 3) := by decide +kernel
theorem dX11_fairs_24 : decode cX11_fairs 24 = .ok (.iconst 0, 1) := by decide +kernel
theorem dX11_fairs_25 : decode cX11_fairs 25 = .ok (.istore 4, 2) := by decide +kernel
theorem dX11_fairs_27 : decode cX11_fairs 27 = .ok (.iload 4, 2) := by decide +kernel
theorem dX11_fairs_29 : decode cX11_fairs 29 = .ok (.iload_n 2, 1) := by decide +kernel
theorem dX11_fairs_30 : decode cX11_fairs 30 = .ok (.if_icmp .ge 23, 3) := by decide +kernel
theorem dX11_fairs_33 : decode cX11_fairs 33 = .ok (.aload_n 0, 1) := by decide +kernel
theorem dX11_fairs_34 : decode cX11_fairs 34 = .ok (.invokevirtual 265, 3) := by decide +kernel
theorem dX11_fairs_37 : decode cX11_fairs 37 = .ok (.iload_n 3, 1) := by decide +kernel
theorem dX11_fairs_38 : decode cX11_fairs 38 = .ok (.aload_n 0, 1) := by decide +kernel
theorem dX11_fairs_39 : decode cX11_fairs 39 = .ok (.getfield 64, 3) := by decide +kernel
theorem dX11_fairs_42 : decode cX11_fairs 42 = .ok (.getfield 274, 3) := by decide +kernel
theorem dX11_fairs_45 : decode cX11_fairs 45 = .ok (.iadd, 1) := by decide +kernel
theorem dX11_fairs_46 : decode cX11_fairs 46 = .ok (.istore_n 3, 1) := by decide +kernel
theorem dX11_fairs_47 : decode cX11_fairs 47 = .ok (.iinc 4 1, 3) := by decide +kernel
theorem dX11_fairs_50 : decode cX11_fairs 50 = .ok (.goto (-23), 3) := by decide +kernel
theorem dX11_fairs_53 : decode cX11_fairs 53 = .ok (.iload_n 3, 1) := by decide +kernel
theorem dX11_fairs_54 : decode cX11_fairs 54 = .ok (.ireturn, 1) := by decide +kernel
theorem dX11_is_0 : decode cX11_is 0 = .ok (.aload_n 0, 1) := by decide +kernel
theorem dX11_is_1 : decode cX11_is 1 = .ok (.getfield 27, 3) := by decide +kernel
theorem dX11_is_4 : decode cX11_is 4 = .ok (.iload_n 1, 1) := by decide +kernel
theorem dX11_is_5 : decode cX11_is 5 = .ok (.invokevirtual 176, 3) := by decide +kernel
theorem dX11_is_8 : decode cX11_is 8 = .ok (.ifCond .eq 29, 3) := by decide +kernel
theorem dX11_is_11 : decode cX11_is 11 = .ok (.iload_n 2, 1) := by decide +kernel
theorem dX11_is_12 : decode cX11_is 12 = .ok (.invokestatic 280, 3) := by decide +kernel
theorem dX11_is_15 : decode cX11_is 15 = .ok (.ifCond .eq 22, 3) := by decide +kernel
theorem dX11_is_18 : decode cX11_is 18 = .ok (.aload_n 0, 1) := by decide +kernel
theorem dX11_is_19 : decode cX11_is 19 = .ok (.getfield 27, 3) := by decide +kernel
theorem dX11_is_22 : decode cX11_is 22 = .ok (.iload_n 3, 1) := by decide +kernel
theorem dX11_is_23 : decode cX11_is 23 = .ok (.invokevirtual 176, 3) := by decide +kernel
theorem dX11_is_26 : decode cX11_is 26 = .ok (.ifCond .eq 11, 3) := by decide +kernel
theorem dX11_is_29 : decode cX11_is 29 = .ok (.iload 4, 2) := by decide +kernel
theorem dX11_is_31 : decode cX11_is 31 = .ok (.invokestatic 238, 3) := by decide +kernel
theorem dX11_is_34 : decode cX11_is 34 = .ok (.ifCond .ne 9, 3) := by decide +kernel
theorem dX11_is_37 : decode cX11_is 37 = .ok (.bipush (-2), 2) := by decide +kernel
theorem dX11_is_39 : decode cX11_is 39 = .ok (.invokestatic 241, 3) := by decide +kernel
theorem dX11_is_42 : decode cX11_is 42 = .ok (.lreturn, 1) := by decide +kernel
theorem dX11_is_43 : decode cX11_is 43 = .ok (.aload_n 0, 1) := by decide +kernel
theorem dX11_is_44 : decode cX11_is 44 = .ok (.iload_n 1, 1) := by decide +kernel
theorem dX11_is_45 : decode cX11_is 45 = .ok (.iload_n 2, 1) := by decide +kernel
theorem dX11_is_46 : decode cX11_is 46 = .ok (.invokevirtual 283, 3) := by decide +kernel
theorem dX11_is_49 : decode cX11_is 49 = .ok (.aload_n 0, 1) := by decide +kernel
theorem dX11_is_50 : decode cX11_is 50 = .ok (.getfield 73, 3) := by decide +kernel
theorem dX11_is_53 : decode cX11_is 53 = .ok (.iload_n 3, 1) := by decide +kernel
theorem dX11_is_54 : decode cX11_is 54 = .ok (.invokevirtual 287, 3) := by decide +kernel
theorem dX11_is_57 : decode cX11_is 57 = .ok (.aload_n 0, 1) := by decide +kernel
theorem dX11_is_58 : decode cX11_is 58 = .ok (.getfield 73, 3) := by decide +kernel
theorem dX11_is_61 : decode cX11_is 61 = .ok (.getfield 290, 3) := by decide +kernel
theorem dX11_is_64 : decode cX11_is 64 = .ok (.iload 4, 2) := by decide +kernel
theorem dX11_is_66 : decode cX11_is 66 = .ok (.invokestatic 250, 3) := by decide +kernel
theorem dX11_is_69 : decode cX11_is 69 = .ok (.lreturn, 1) := by decide +kernel
theorem dX11_likeliest_0 : decode cX11_likeliest 0 = .ok (.aload_n 0, 1) := by decide +kernel
theorem dX11_likeliest_1 : decode cX11_likeliest 1 = .ok (.getfield 27, 3) := by decide +kernel
theorem dX11_likeliest_4 : decode cX11_likeliest 4 = .ok (.iload_n 1, 1) := by decide +kernel
theorem dX11_likeliest_5 : decode cX11_likeliest 5 = .ok (.invokevirtual 176, 3) := by decide +kernel
theorem dX11_likeliest_8 : decode cX11_likeliest 8 = .ok (.ifCond .eq 10, 3) := by decide +kernel
theorem dX11_likeliest_11 : decode cX11_likeliest 11 = .ok (.iload_n 2, 1) := by decide +kernel
theorem dX11_likeliest_12 : decode cX11_likeliest 12 = .ok (.invokestatic 280, 3) := by decide +kernel
theorem dX11_likeliest_15 : decode cX11_likeliest 15 = .ok (.ifCond .ne 6, 3) := by decide +kernel
theorem dX11_likeliest_18 : decode cX11_likeliest 18 = .ok (.bipush (-2), 2) := by decide +kernel
theorem dX11_likeliest_20 : decode cX11_likeliest 20 = .ok (.ireturn, 1) := by decide +kernel
theorem dX11_likeliest_21 : decode cX11_likeliest 21 = .ok (.aload_n 0, 1) := by decide +kernel
theorem dX11_likeliest_22 : decode cX11_likeliest 22 = .ok (.iload_n 1, 1) := by decide +kernel
theorem dX11_likeliest_23 : decode cX11_likeliest 23 = .ok (.iload_n 2, 1) := by decide +kernel
theorem dX11_likeliest_24 : decode cX11_likeliest 24 = .ok (.invokevirtual 283, 3) := by decide +kernel
theorem dX11_likeliest_27 : decode cX11_likeliest 27 = .ok (.aload_n 0, 1) := by decide +kernel
theorem dX11_likeliest_28 : decode cX11_likeliest 28 = .ok (.getfield 73, 3) := by decide +kernel
theorem dX11_likeliest_31 : decode cX11_likeliest 31 = .ok (.invokevirtual 294, 3) := by decide +kernel
theorem dX11_likeliest_34 : decode cX11_likeliest 34 = .ok (.ireturn, 1) := by decide +kernel
theorem dX11_look_0 : decode cX11_look 0 = .ok (.iload_n 1, 1) := by decide +kernel
theorem dX11_look_1 : decode cX11_look 1 = .ok (.invokestatic 153, 3) := by decide +kernel
theorem dX11_look_4 : decode cX11_look 4 = .ok (.ifCond .eq 14, 3) := by decide +kernel
theorem dX11_look_7 : decode cX11_look 7 = .ok (.iload_n 2, 1) := by decide +kernel
theorem dX11_look_8 : decode cX11_look 8 = .ok (.iconst 1, 1) := by decide +kernel
theorem dX11_look_9 : decode cX11_look 9 = .ok (.if_icmp .lt 9, 3) := by decide +kernel
theorem dX11_look_12 : decode cX11_look 12 = .ok (.iload_n 2, 1) := by decide +kernel
theorem dX11_look_13 : decode cX11_look 13 = .ok (.bipush 9, 2) := by decide +kernel
theorem dX11_look_15 : decode cX11_look 15 = .ok (.if_icmp .le 6, 3) := by decide +kernel
theorem dX11_look_18 : decode cX11_look 18 = .ok (.bipush (-2), 2) := by decide +kernel
theorem dX11_look_20 : decode cX11_look 20 = .ok (.ireturn, 1) := by decide +kernel
theorem dX11_look_21 : decode cX11_look 21 = .ok (.aload_n 0, 1) := by decide +kernel
theorem dX11_look_22 : decode cX11_look 22 = .ok (.getfield 80, 3) := by decide +kernel
theorem dX11_look_25 : decode cX11_look 25 = .ok (.getfield 297, 3) := by decide +kernel
theorem dX11_look_28 : decode cX11_look 28 = .ok (.iconst 5, 1) := by decide +kernel
theorem dX11_look_29 : decode cX11_look 29 = .ok (.if_icmp .lt 6, 3) := by decide +kernel
theorem dX11_look_32 : decode cX11_look 32 = .ok (.bipush (-4), 2) := by decide +kernel
theorem dX11_look_34 : decode cX11_look 34 = .ok (.ireturn, 1) := by decide +kernel
theorem dX11_look_35 : decode cX11_look 35 = .ok (.aload_n 0, 1) := by decide +kernel
theorem dX11_look_36 : decode cX11_look 36 = .ok (.getfield 80, 3) := by decide +kernel
theorem dX11_look_39 : decode cX11_look 39 = .ok (.iload_n 1, 1) := by decide +kernel
theorem dX11_look_40 : decode cX11_look 40 = .ok (.iload_n 2, 1) := by decide +kernel
theorem dX11_look_41 : decode cX11_look 41 = .ok (.invokevirtual 298, 3) := by decide +kernel
theorem dX11_look_44 : decode cX11_look 44 = .ok (.aload_n 0, 1) := by decide +kernel
theorem dX11_look_45 : decode cX11_look 45 = .ok (.getfield 80, 3) := by decide +kernel
theorem dX11_look_48 : decode cX11_look 48 = .ok (.getfield 297, 3) := by decide +kernel
theorem dX11_look_51 : decode cX11_look 51 = .ok (.ireturn, 1) := by decide +kernel
theorem dX11_forget_0 : decode cX11_forget 0 = .ok (.aload_n 0, 1) := by decide +kernel
theorem dX11_forget_1 : decode cX11_forget 1 = .ok (.getfield 80, 3) := by decide +kernel
theorem dX11_forget_4 : decode cX11_forget 4 = .ok (.getfield 297, 3) := by decide +kernel
theorem dX11_forget_7 : decode cX11_forget 7 = .ok (.istore_n 1, 1) := by decide +kernel
theorem dX11_forget_8 : decode cX11_forget 8 = .ok (.aload_n 0, 1) := by decide +kernel
theorem dX11_forget_9 : decode cX11_forget 9 = .ok (.getfield 80, 3) := by decide +kernel
theorem dX11_forget_12 : decode cX11_forget 12 = .ok (.iconst 0, 1) := by decide +kernel
theorem dX11_forget_13 : decode cX11_forget 13 = .ok (.putfield 297, 3) := by decide +kernel
theorem dX11_forget_16 : decode cX11_forget 16 = .ok (.iload_n 1, 1) := by decide +kernel
theorem dX11_forget_17 : decode cX11_forget 17 = .ok (.ireturn, 1) := by decide +kernel
theorem dX11_seek_0 : decode cX11_seek 0 = .ok (.iload_n 1, 1) := by decide +kernel
theorem dX11_seek_1 : decode cX11_seek 1 = .ok (.invokestatic 135, 3) := by decide +kernel
theorem dX11_seek_4 : decode cX11_seek 4 = .ok (.ifCond .eq 14, 3) := by decide +kernel
theorem dX11_seek_7 : decode cX11_seek 7 = .ok (.iload_n 2, 1) := by decide +kernel
theorem dX11_seek_8 : decode cX11_seek 8 = .ok (.bipush (-2), 2) := by decide +kernel
theorem dX11_seek_10 : decode cX11_seek 10 = .ok (.if_icmp .lt 8, 3) := by decide +kernel
theorem dX11_seek_13 : decode cX11_seek 13 = .ok (.iload_n 2, 1) := by decide +kernel
theorem dX11_seek_14 : decode cX11_seek 14 = .ok (.iconst 5, 1) := by decide +kernel
theorem dX11_seek_15 : decode cX11_seek 15 = .ok (.if_icmp .lt 9, 3) := by decide +kernel
theorem dX11_seek_18 : decode cX11_seek 18 = .ok (.bipush (-2), 2) := by decide +kernel
theorem dX11_seek_20 : decode cX11_seek 20 = .ok (.invokestatic 241, 3) := by decide +kernel
theorem dX11_seek_23 : decode cX11_seek 23 = .ok (.lreturn, 1) := by decide +kernel
theorem dX11_seek_24 : decode cX11_seek 24 = .ok (.aload_n 0, 1) := by decide +kernel
theorem dX11_seek_25 : decode cX11_seek 25 = .ok (.iload_n 1, 1) := by decide +kernel
theorem dX11_seek_26 : decode cX11_seek 26 = .ok (.iload_n 1, 1) := by decide +kernel
theorem dX11_seek_27 : decode cX11_seek 27 = .ok (.invokevirtual 300, 3) := by decide +kernel
theorem dX11_seek_30 : decode cX11_seek 30 = .ok (.ifCond .ne 9, 3) := by decide +kernel
theorem dX11_seek_33 : decode cX11_seek 33 = .ok (.bipush (-3), 2) := by decide +kernel
theorem dX11_seek_35 : decode cX11_seek 35 = .ok (.invokestatic 241, 3) := by decide +kernel
theorem dX11_seek_38 : decode cX11_seek 38 = .ok (.lreturn, 1) := by decide +kernel
theorem dX11_seek_39 : decode cX11_seek 39 = .ok (.aload_n 0, 1) := by decide +kernel
theorem dX11_seek_40 : decode cX11_seek 40 = .ok (.getfield 80, 3) := by decide +kernel
theorem dX11_seek_43 : decode cX11_seek 43 = .ok (.invokevirtual 304, 3) := by decide +kernel
theorem dX11_seek_46 : decode cX11_seek 46 = .ok (.istore_n 3, 1) := by decide +kernel
theorem dX11_seek_47 : decode cX11_seek 47 = .ok (.aload_n 0, 1) := by decide +kernel
theorem dX11_seek_48 : decode cX11_seek 48 = .ok (.getfield 87, 3) := by decide +kernel
theorem dX11_seek_51 : decode cX11_seek 51 = .ok (.iload_n 3, 1) := by decide +kernel
theorem dX11_seek_52 : decode cX11_seek 52 = .ok (.invokevirtual 226, 3) := by decide +kernel
theorem dX11_seek_55 : decode cX11_seek 55 = .ok (.iload_n 2, 1) := by decide +kernel
theorem dX11_seek_56 : decode cX11_seek 56 = .ok (.ifCond .lt 14, 3) := by decide +kernel
theorem dX11_seek_59 : decode cX11_seek 59 = .ok (.aload_n 0, 1) := by decide +kernel
theorem dX11_seek_60 : decode cX11_seek 60 = .ok (.getfield 87, 3) := by decide +kernel
theorem dX11_seek_63 : decode cX11_seek 63 = .ok (.iload_n 3, 1) := by decide +kernel
theorem dX11_seek_64 : decode cX11_seek 64 = .ok (.iload_n 2, 1) := by decide +kernel
theorem dX11_seek_65 : decode cX11_seek 65 = .ok (.invokevirtual 232, 3) := by decide +kernel
theorem dX11_seek_68 : decode cX11_seek 68 = .ok (.i2l, 1) := by decide +kernel
theorem dX11_seek_69 : decode cX11_seek 69 = .ok (.lreturn, 1) := by decide +kernel
theorem dX11_seek_70 : decode cX11_seek 70 = .ok (.aload_n 0, 1) := by decide +kernel
theorem dX11_seek_71 : decode cX11_seek 71 = .ok (.getfield 87, 3) := by decide +kernel
theorem dX11_seek_74 : decode cX11_seek 74 = .ok (.iconst 5, 1) := by decide +kernel
theorem dX11_seek_75 : decode cX11_seek 75 = .ok (.iload_n 3, 1) := by decide +kernel
theorem dX11_seek_76 : decode cX11_seek 76 = .ok (.invokevirtual 229, 3) := by decide +kernel
theorem dX11_seek_79 : decode cX11_seek 79 = .ok (.i2l, 1) := by decide +kernel
theorem dX11_seek_80 : decode cX11_seek 80 = .ok (.aload_n 0, 1) := by decide +kernel
theorem dX11_seek_81 : decode cX11_seek 81 = .ok (.getfield 80, 3) := by decide +kernel
theorem dX11_seek_84 : decode cX11_seek 84 = .ok (.iload_n 3, 1) := by decide +kernel
theorem dX11_seek_85 : decode cX11_seek 85 = .ok (.invokevirtual 307, 3) := by decide +kernel
theorem dX11_seek_88 : decode cX11_seek 88 = .ok (.i2l, 1) := by decide +kernel
theorem dX11_seek_89 : decode cX11_seek 89 = .ok (.iload_n 2, 1) := by decide +kernel
theorem dX11_seek_90 : decode cX11_seek 90 = .ok (.iconst 2, 1) := by decide +kernel
theorem dX11_seek_91 : decode cX11_seek 91 = .ok (.iadd, 1) := by decide +kernel
theorem dX11_seek_92 : decode cX11_seek 92 = .ok (.invokestatic 250, 3) := by decide +kernel
theorem dX11_seek_95 : decode cX11_seek 95 = .ok (.lreturn, 1) := by decide +kernel
theorem dX11_parted_0 : decode cX11_parted 0 = .ok (.iload_n 1, 1) := by decide +kernel
theorem dX11_parted_1 : decode cX11_parted 1 = .ok (.invokestatic 135, 3) := by decide +kernel
theorem dX11_parted_4 : decode cX11_parted 4 = .ok (.ifCond .eq 24, 3) := by decide +kernel
theorem dX11_parted_7 : decode cX11_parted 7 = .ok (.iload_n 2, 1) := by decide +kernel
theorem dX11_parted_8 : decode cX11_parted 8 = .ok (.invokestatic 135, 3) := by decide +kernel
theorem dX11_parted_11 : decode cX11_parted 11 = .ok (.ifCond .eq 17, 3) := by decide +kernel
theorem dX11_parted_14 : decode cX11_parted 14 = .ok (.iload_n 1, 1) := by decide +kernel
theorem dX11_parted_15 : decode cX11_parted 15 = .ok (.iload_n 2, 1) := by decide +kernel
theorem dX11_parted_16 : decode cX11_parted 16 = .ok (.if_icmp .eq 12, 3) := by decide +kernel
theorem dX11_parted_19 : decode cX11_parted 19 = .ok (.iload_n 3, 1) := by decide +kernel
theorem dX11_parted_20 : decode cX11_parted 20 = .ok (.ifCond .lt 8, 3) := by decide +kernel
theorem dX11_parted_23 : decode cX11_parted 23 = .ok (.iload_n 3, 1) := by decide +kernel
theorem dX11_parted_24 : decode cX11_parted 24 = .ok (.iconst 2, 1) := by decide +kernel
theorem dX11_parted_25 : decode cX11_parted 25 = .ok (.if_icmp .le 9, 3) := by decide +kernel
theorem dX11_parted_28 : decode cX11_parted 28 = .ok (.bipush (-2), 2) := by decide +kernel
theorem dX11_parted_30 : decode cX11_parted 30 = .ok (.invokestatic 241, 3) := by decide +kernel
theorem dX11_parted_33 : decode cX11_parted 33 = .ok (.lreturn, 1) := by decide +kernel
theorem dX11_parted_34 : decode cX11_parted 34 = .ok (.aload_n 0, 1) := by decide +kernel
theorem dX11_parted_35 : decode cX11_parted 35 = .ok (.iload_n 1, 1) := by decide +kernel
theorem dX11_parted_36 : decode cX11_parted 36 = .ok (.iload_n 2, 1) := by decide +kernel
theorem dX11_parted_37 : decode cX11_parted 37 = .ok (.invokevirtual 300, 3) := by decide +kernel
theorem dX11_parted_40 : decode cX11_parted 40 = .ok (.ifCond .ne 9, 3) := by decide +kernel
theorem dX11_parted_43 : decode cX11_parted 43 = .ok (.bipush (-3), 2) := by decide +kernel
theorem dX11_parted_45 : decode cX11_parted 45 = .ok (.invokestatic 241, 3) := by decide +kernel
theorem dX11_parted_48 : decode cX11_parted 48 = .ok (.lreturn, 1) := by decide +kernel
theorem dX11_parted_49 : decode cX11_parted 49 = .ok (.aload_n 0, 1) := by decide +kernel
theorem dX11_parted_50 : decode cX11_parted 50 = .ok (.getfield 80, 3) := by decide +kernel
theorem dX11_parted_53 : decode cX11_parted 53 = .ok (.invokevirtual 304, 3) := by decide +kernel
theorem dX11_parted_56 : decode cX11_parted 56 = .ok (.istore 4, 2) := by decide +kernel
theorem dX11_parted_58 : decode cX11_parted 58 = .ok (.aload_n 0, 1) := by decide +kernel
theorem dX11_parted_59 : decode cX11_parted 59 = .ok (.getfield 87, 3) := by decide +kernel
theorem dX11_parted_62 : decode cX11_parted 62 = .ok (.iload 4, 2) := by decide +kernel
theorem dX11_parted_64 : decode cX11_parted 64 = .ok (.invokevirtual 226, 3) := by decide +kernel
theorem dX11_parted_67 : decode cX11_parted 67 = .ok (.aload_n 0, 1) := by decide +kernel
theorem dX11_parted_68 : decode cX11_parted 68 = .ok (.getfield 87, 3) := by decide +kernel
theorem dX11_parted_71 : decode cX11_parted 71 = .ok (.iload 4, 2) := by decide +kernel
theorem dX11_parted_73 : decode cX11_parted 73 = .ok (.invokevirtual 310, 3) := by decide +kernel
theorem dX11_parted_76 : decode cX11_parted 76 = .ok (.istore 5, 2) := by decide +kernel
theorem dX11_parted_78 : decode cX11_parted 78 = .ok (.iload_n 3, 1) := by decide +kernel
theorem dX11_parted_79 : decode cX11_parted 79 = .ok (.iconst 2, 1) := by decide +kernel
theorem dX11_parted_80 : decode cX11_parted 80 = .ok (.if_icmp .ne 9, 3) := by decide +kernel
theorem dX11_parted_83 : decode cX11_parted 83 = .ok (.iload 5, 2) := by decide +kernel
theorem dX11_parted_85 : decode cX11_parted 85 = .ok (.i2l, 1) := by decide +kernel
theorem dX11_parted_86 : decode cX11_parted 86 = .ok (.goto 29, 3) := by decide +kernel
theorem dX11_parted_89 : decode cX11_parted 89 = .ok (.aload_n 0, 1) := by decide +kernel
theorem dX11_parted_90 : decode cX11_parted 90 = .ok (.getfield 87, 3) := by decide +kernel
theorem dX11_parted_93 : decode cX11_parted 93 = .ok (.iload 5, 2) := by decide +kernel
theorem dX11_parted_95 : decode cX11_parted 95 = .ok (.iload 4, 2) := by decide +kernel
theorem dX11_parted_97 : decode cX11_parted 97 = .ok (.invokevirtual 313, 3) := by decide +kernel
theorem dX11_parted_100 : decode cX11_parted 100 = .ok (.i2l, 1) := by decide +kernel
theorem dX11_parted_101 : decode cX11_parted 101 = .ok (.aload_n 0, 1) := by decide +kernel
theorem dX11_parted_102 : decode cX11_parted 102 = .ok (.getfield 80, 3) := by decide +kernel
theorem dX11_parted_105 : decode cX11_parted 105 = .ok (.iload 4, 2) := by decide +kernel
theorem dX11_parted_107 : decode cX11_parted 107 = .ok (.invokevirtual 307, 3) := by decide +kernel
theorem dX11_parted_110 : decode cX11_parted 110 = .ok (.i2l, 1) := by decide +kernel
theorem dX11_parted_111 : decode cX11_parted 111 = .ok (.iload_n 3, 1) := by decide +kernel
theorem dX11_parted_112 : decode cX11_parted 112 = .ok (.invokestatic 250, 3) := by decide +kernel
theorem dX11_parted_115 : decode cX11_parted 115 = .ok (.lreturn, 1) := by decide +kernel
theorem dX11_meet_0 : decode cX11_meet 0 = .ok (.iload_n 1, 1) := by decide +kernel
theorem dX11_meet_1 : decode cX11_meet 1 = .ok (.iconst 1, 1) := by decide +kernel
theorem dX11_meet_2 : decode cX11_meet 2 = .ok (.if_icmp .lt 16, 3) := by decide +kernel
theorem dX11_meet_5 : decode cX11_meet 5 = .ok (.iload_n 1, 1) := by decide +kernel
theorem dX11_meet_6 : decode cX11_meet 6 = .ok (.bipush 31, 2) := by decide +kernel
theorem dX11_meet_8 : decode cX11_meet 8 = .ok (.if_icmp .gt 10, 3) := by decide +kernel
theorem dX11_meet_11 : decode cX11_meet 11 = .ok (.iload_n 2, 1) := by decide +kernel
theorem dX11_meet_12 : decode cX11_meet 12 = .ok (.invokestatic 238, 3) := by decide +kernel
theorem dX11_meet_15 : decode cX11_meet 15 = .ok (.ifCond .ne 6, 3) := by decide +kernel
theorem dX11_meet_18 : decode cX11_meet 18 = .ok (.bipush (-2), 2) := by decide +kernel
theorem dX11_meet_20 : decode cX11_meet 20 = .ok (.ireturn, 1) := by decide +kernel
theorem dX11_meet_21 : decode cX11_meet 21 = .ok (.aload_n 0, 1) := by decide +kernel
theorem dX11_meet_22 : decode cX11_meet 22 = .ok (.getfield 98, 3) := by decide +kernel
theorem dX11_meet_25 : decode cX11_meet 25 = .ok (.iconst 0, 1) := by decide +kernel
theorem dX11_meet_26 : decode cX11_meet 26 = .ok (.invokestatic 316, 3) := by decide +kernel
theorem dX11_meet_29 : decode cX11_meet 29 = .ok (.iconst 0, 1) := by decide +kernel
theorem dX11_meet_30 : decode cX11_meet 30 = .ok (.istore_n 3, 1) := by decide +kernel
theorem dX11_meet_31 : decode cX11_meet 31 = .ok (.iload_n 3, 1) := by decide +kernel
theorem dX11_meet_32 : decode cX11_meet 32 = .ok (.iconst 5, 1) := by decide +kernel
theorem dX11_meet_33 : decode cX11_meet 33 = .ok (.if_icmp .ge 29, 3) := by decide +kernel
theorem dX11_meet_36 : decode cX11_meet 36 = .ok (.iload_n 1, 1) := by decide +kernel
theorem dX11_meet_37 : decode cX11_meet 37 = .ok (.iload_n 3, 1) := by decide +kernel
theorem dX11_meet_38 : decode cX11_meet 38 = .ok (.ishr, 1) := by decide +kernel
theorem dX11_meet_39 : decode cX11_meet 39 = .ok (.iconst 1, 1) := by decide +kernel
theorem dX11_meet_40 : decode cX11_meet 40 = .ok (.iand, 1) := by decide +kernel
theorem dX11_meet_41 : decode cX11_meet 41 = .ok (.ifCond .eq 15, 3) := by decide +kernel
theorem dX11_meet_44 : decode cX11_meet 44 = .ok (.aload_n 0, 1) := by decide +kernel
theorem dX11_meet_45 : decode cX11_meet 45 = .ok (.aload_n 0, 1) := by decide +kernel
theorem dX11_meet_46 : decode cX11_meet 46 = .ok (.getfield 50, 3) := by decide +kernel
theorem dX11_meet_49 : decode cX11_meet 49 = .ok (.iload_n 3, 1) := by decide +kernel
theorem dX11_meet_50 : decode cX11_meet 50 = .ok (.invokevirtual 322, 3) := by decide +kernel
theorem dX11_meet_53 : decode cX11_meet 53 = .ok (.invokevirtual 325, 3) := by decide +kernel
theorem dX11_meet_56 : decode cX11_meet 56 = .ok (.iinc 3 1, 3) := by decide +kernel
theorem dX11_meet_59 : decode cX11_meet 59 = .ok (.goto (-28), 3) := by decide +kernel
theorem dX11_meet_62 : decode cX11_meet 62 = .ok (.aload_n 0, 1) := by decide +kernel
theorem dX11_meet_63 : decode cX11_meet 63 = .ok (.invokevirtual 328, 3) := by decide +kernel
theorem dX11_meet_66 : decode cX11_meet 66 = .ok (.istore_n 3, 1) := by decide +kernel
theorem dX11_meet_67 : decode cX11_meet 67 = .ok (.iload_n 2, 1) := by decide +kernel
theorem dX11_meet_68 : decode cX11_meet 68 = .ok (.ifCond .eq 10, 3) := by decide +kernel
theorem dX11_meet_71 : decode cX11_meet 71 = .ok (.iload_n 3, 1) := by decide +kernel
theorem dX11_meet_72 : decode cX11_meet 72 = .ok (.invokestatic 153, 3) := by decide +kernel
theorem dX11_meet_75 : decode cX11_meet 75 = .ok (.ifCond .ne 7, 3) := by decide +kernel
theorem dX11_meet_78 : decode cX11_meet 78 = .ok (.iload_n 3, 1) := by decide +kernel
theorem dX11_meet_79 : decode cX11_meet 79 = .ok (.goto 9, 3) := by decide +kernel
theorem dX11_meet_82 : decode cX11_meet 82 = .ok (.aload_n 0, 1) := by decide +kernel
theorem dX11_meet_83 : decode cX11_meet 83 = .ok (.getfield 98, 3) := by decide +kernel
theorem dX11_meet_86 : decode cX11_meet 86 = .ok (.iload_n 3, 1) := by decide +kernel
theorem dX11_meet_87 : decode cX11_meet 87 = .ok (.iaload, 1) := by decide +kernel
theorem dX11_meet_88 : decode cX11_meet 88 = .ok (.ireturn, 1) := by decide +kernel
theorem dX11_counts_0 : decode cX11_counts 0 = .ok (.iload_n 1, 1) := by decide +kernel
theorem dX11_counts_1 : decode cX11_counts 1 = .ok (.iconst 1, 1) := by decide +kernel
theorem dX11_counts_2 : decode cX11_counts 2 = .ok (.if_icmp .lt 29, 3) := by decide +kernel
theorem dX11_counts_5 : decode cX11_counts 5 = .ok (.iload_n 1, 1) := by decide +kernel
theorem dX11_counts_6 : decode cX11_counts 6 = .ok (.bipush 99, 2) := by decide +kernel
theorem dX11_counts_8 : decode cX11_counts 8 = .ok (.if_icmp .gt 23, 3) := by decide +kernel
theorem dX11_counts_11 : decode cX11_counts 11 = .ok (.iload_n 2, 1) := by decide +kernel
theorem dX11_counts_12 : decode cX11_counts 12 = .ok (.ifCond .lt 19, 3) := by decide +kernel
theorem dX11_counts_15 : decode cX11_counts 15 = .ok (.iload_n 2, 1) := by decide +kernel
theorem dX11_counts_16 : decode cX11_counts 16 = .ok (.bipush 99, 2) := by decide +kernel
theorem dX11_counts_18 : decode cX11_counts 18 = .ok (.if_icmp .gt 13, 3) := by decide +kernel
theorem dX11_counts_21 : decode cX11_counts 21 = .ok (.iload_n 3, 1) := by decide +kernel
theorem dX11_counts_22 : decode cX11_counts 22 = .ok (.ifCond .lt 9, 3) := by decide +kernel
theorem dX11_counts_25 : decode cX11_counts 25 = .ok (.iload_n 3, 1) := by decide +kernel
theorem dX11_counts_26 : decode cX11_counts 26 = .ok (.bipush 99, 2) := by decide +kernel
theorem dX11_counts_28 : decode cX11_counts 28 = .ok (.if_icmp .le 6, 3) := by decide +kernel
theorem dX11_counts_31 : decode cX11_counts 31 = .ok (.bipush (-2), 2) := by decide +kernel
theorem dX11_counts_33 : decode cX11_counts 33 = .ok (.ireturn, 1) := by decide +kernel
theorem dX11_counts_34 : decode cX11_counts 34 = .ok (.iconst 1, 1) := by decide +kernel
theorem dX11_counts_35 : decode cX11_counts 35 = .ok (.istore 4, 2) := by decide +kernel
theorem dX11_counts_37 : decode cX11_counts 37 = .ok (.iload_n 2, 1) := by decide +kernel
theorem dX11_counts_38 : decode cX11_counts 38 = .ok (.iload_n 1, 1) := by decide +kernel
theorem dX11_counts_39 : decode cX11_counts 39 = .ok (.imul, 1) := by decide +kernel
theorem dX11_counts_40 : decode cX11_counts 40 = .ok (.istore 5, 2) := by decide +kernel
theorem dX11_counts_42 : decode cX11_counts 42 = .ok (.iconst 2, 1) := by decide +kernel
theorem dX11_counts_43 : decode cX11_counts 43 = .ok (.istore 6, 2) := by decide +kernel
theorem dX11_counts_45 : decode cX11_counts 45 = .ok (.iload 6, 2) := by decide +kernel
theorem dX11_counts_47 : decode cX11_counts 47 = .ok (.bipush 60, 2) := by decide +kernel
theorem dX11_counts_49 : decode cX11_counts 49 = .ok (.if_icmp .gt 44, 3) := by decide +kernel
theorem dX11_counts_52 : decode cX11_counts 52 = .ok (.iload_n 2, 1) := by decide +kernel
theorem dX11_counts_53 : decode cX11_counts 53 = .ok (.iload_n 1, 1) := by decide +kernel
theorem dX11_counts_54 : decode cX11_counts 54 = .ok (.iload 6, 2) := by decide +kernel
theorem dX11_counts_56 : decode cX11_counts 56 = .ok (.iadd, 1) := by decide +kernel
theorem dX11_counts_57 : decode cX11_counts 57 = .ok (.iconst 1, 1) := by decide +kernel
theorem dX11_counts_58 : decode cX11_counts 58 = .ok (.isub, 1) := by decide +kernel
theorem dX11_counts_59 : decode cX11_counts 59 = .ok (.iload 6, 2) := by decide +kernel
theorem dX11_counts_61 : decode cX11_counts 61 = .ok (.idiv, 1) := by decide +kernel
theorem dX11_counts_62 : decode cX11_counts 62 = .ok (.imul, 1) := by decide +kernel
theorem dX11_counts_63 : decode cX11_counts 63 = .ok (.iload_n 3, 1) := by decide +kernel
theorem dX11_counts_64 : decode cX11_counts 64 = .ok (.iload 6, 2) := by decide +kernel
theorem dX11_counts_66 : decode cX11_counts 66 = .ok (.iconst 1, 1) := by decide +kernel
theorem dX11_counts_67 : decode cX11_counts 67 = .ok (.isub, 1) := by decide +kernel
theorem dX11_counts_68 : decode cX11_counts 68 = .ok (.imul, 1) := by decide +kernel
theorem dX11_counts_69 : decode cX11_counts 69 = .ok (.iadd, 1) := by decide +kernel
theorem dX11_counts_70 : decode cX11_counts 70 = .ok (.istore 7, 2) := by decide +kernel
theorem dX11_counts_72 : decode cX11_counts 72 = .ok (.iload 7, 2) := by decide +kernel
theorem dX11_counts_74 : decode cX11_counts 74 = .ok (.iload 5, 2) := by decide +kernel
theorem dX11_counts_76 : decode cX11_counts 76 = .ok (.if_icmp .ge 11, 3) := by decide +kernel
theorem dX11_counts_79 : decode cX11_counts 79 = .ok (.iload 6, 2) := by decide +kernel
theorem dX11_counts_81 : decode cX11_counts 81 = .ok (.istore 4, 2) := by decide +kernel
theorem dX11_counts_83 : decode cX11_counts 83 = .ok (.iload 7, 2) := by decide +kernel
theorem dX11_counts_85 : decode cX11_counts 85 = .ok (.istore 5, 2) := by decide +kernel
theorem dX11_counts_87 : decode cX11_counts 87 = .ok (.iinc 6 1, 3) := by decide +kernel
theorem dX11_counts_90 : decode cX11_counts 90 = .ok (.goto (-45), 3) := by decide +kernel
theorem dX11_counts_93 : decode cX11_counts 93 = .ok (.iload 4, 2) := by decide +kernel
theorem dX11_counts_95 : decode cX11_counts 95 = .ok (.ireturn, 1) := by decide +kernel
theorem dX11_sheet_0 : decode cX11_sheet 0 = .ok (.aload_n 0, 1) := by decide +kernel
theorem dX11_sheet_1 : decode cX11_sheet 1 = .ok (.iload_n 1, 1) := by decide +kernel
theorem dX11_sheet_2 : decode cX11_sheet 2 = .ok (.invokevirtual 159, 3) := by decide +kernel
theorem dX11_sheet_5 : decode cX11_sheet 5 = .ok (.astore 4, 2) := by decide +kernel
theorem dX11_sheet_7 : decode cX11_sheet 7 = .ok (.aload 4, 2) := by decide +kernel
theorem dX11_sheet_9 : decode cX11_sheet 9 = .ok (.ifnull 16, 3) := by decide +kernel
theorem dX11_sheet_12 : decode cX11_sheet 12 = .ok (.iload_n 2, 1) := by decide +kernel
theorem dX11_sheet_13 : decode cX11_sheet 13 = .ok (.invokestatic 331, 3) := by decide +kernel
theorem dX11_sheet_16 : decode cX11_sheet 16 = .ok (.ifCond .eq 9, 3) := by decide +kernel
theorem dX11_sheet_19 : decode cX11_sheet 19 = .ok (.iload_n 3, 1) := by decide +kernel
theorem dX11_sheet_20 : decode cX11_sheet 20 = .ok (.bipush 64, 2) := by decide +kernel
theorem dX11_sheet_22 : decode cX11_sheet 22 = .ok (.if_icmp .le 6, 3) := by decide +kernel
theorem dX11_sheet_25 : decode cX11_sheet 25 = .ok (.bipush (-2), 2) := by decide +kernel
theorem dX11_sheet_27 : decode cX11_sheet 27 = .ok (.ireturn, 1) := by decide +kernel
theorem dX11_sheet_28 : decode cX11_sheet 28 = .ok (.iload_n 3, 1) := by decide +kernel
theorem dX11_sheet_29 : decode cX11_sheet 29 = .ok (.ifCond .ge 9, 3) := by decide +kernel
theorem dX11_sheet_32 : decode cX11_sheet 32 = .ok (.aload_n 0, 1) := by decide +kernel
theorem dX11_sheet_33 : decode cX11_sheet 33 = .ok (.iconst 5, 1) := by decide +kernel
theorem dX11_sheet_34 : decode cX11_sheet 34 = .ok (.invokevirtual 166, 3) := by decide +kernel
theorem dX11_sheet_37 : decode cX11_sheet 37 = .ok (.ireturn, 1) := by decide +kernel
theorem dX11_sheet_38 : decode cX11_sheet 38 = .ok (.aload 4, 2) := by decide +kernel
theorem dX11_sheet_40 : decode cX11_sheet 40 = .ok (.iload_n 2, 1) := by decide +kernel
theorem dX11_sheet_41 : decode cX11_sheet 41 = .ok (.iload_n 3, 1) := by decide +kernel
theorem dX11_sheet_42 : decode cX11_sheet 42 = .ok (.invokevirtual 334, 3) := by decide +kernel
theorem dX11_sheet_45 : decode cX11_sheet 45 = .ok (.iload_n 3, 1) := by decide +kernel
theorem dX11_sheet_46 : decode cX11_sheet 46 = .ok (.ireturn, 1) := by decide +kernel
theorem dX11_lose_0 : decode cX11_lose 0 = .ok (.aload_n 0, 1) := by decide +kernel
theorem dX11_lose_1 : decode cX11_lose 1 = .ok (.iload_n 1, 1) := by decide +kernel
theorem dX11_lose_2 : decode cX11_lose 2 = .ok (.invokevirtual 159, 3) := by decide +kernel
theorem dX11_lose_5 : decode cX11_lose 5 = .ok (.astore_n 2, 1) := by decide +kernel
theorem dX11_lose_6 : decode cX11_lose 6 = .ok (.aload_n 2, 1) := by decide +kernel
theorem dX11_lose_7 : decode cX11_lose 7 = .ok (.ifnonnull 6, 3) := by decide +kernel
theorem dX11_lose_10 : decode cX11_lose 10 = .ok (.bipush (-2), 2) := by decide +kernel
theorem dX11_lose_12 : decode cX11_lose 12 = .ok (.ireturn, 1) := by decide +kernel
theorem dX11_lose_13 : decode cX11_lose 13 = .ok (.aload_n 2, 1) := by decide +kernel
theorem dX11_lose_14 : decode cX11_lose 14 = .ok (.invokevirtual 163, 3) := by decide +kernel
theorem dX11_lose_17 : decode cX11_lose 17 = .ok (.ifCond .eq 9, 3) := by decide +kernel
theorem dX11_lose_20 : decode cX11_lose 20 = .ok (.aload_n 0, 1) := by decide +kernel
theorem dX11_lose_21 : decode cX11_lose 21 = .ok (.iconst 1, 1) := by decide +kernel
theorem dX11_lose_22 : decode cX11_lose 22 = .ok (.invokevirtual 166, 3) := by decide +kernel
theorem dX11_lose_25 : decode cX11_lose 25 = .ok (.ireturn, 1) := by decide +kernel
theorem dX11_lose_26 : decode cX11_lose 26 = .ok (.aload_n 2, 1) := by decide +kernel
theorem dX11_lose_27 : decode cX11_lose 27 = .ok (.getfield 337, 3) := by decide +kernel
theorem dX11_lose_30 : decode cX11_lose 30 = .ok (.istore_n 3, 1) := by decide +kernel
theorem dX11_lose_31 : decode cX11_lose 31 = .ok (.aload_n 2, 1) := by decide +kernel
theorem dX11_lose_32 : decode cX11_lose 32 = .ok (.invokevirtual 338, 3) := by decide +kernel
theorem dX11_lose_35 : decode cX11_lose 35 = .ok (.iload_n 3, 1) := by decide +kernel
theorem dX11_lose_36 : decode cX11_lose 36 = .ok (.ireturn, 1) := by decide +kernel
theorem dX11_lay_0 : decode cX11_lay 0 = .ok (.aload_n 0, 1) := by decide +kernel
theorem dX11_lay_1 : decode cX11_lay 1 = .ok (.iload_n 1, 1) := by decide +kernel
theorem dX11_lay_2 : decode cX11_lay 2 = .ok (.invokevirtual 159, 3) := by decide +kernel
theorem dX11_lay_5 : decode cX11_lay 5 = .ok (.astore 5, 2) := by decide +kernel
theorem dX11_lay_7 : decode cX11_lay 7 = .ok (.aload 5, 2) := by decide +kernel
theorem dX11_lay_9 : decode cX11_lay 9 = .ok (.ifnull 10, 3) := by decide +kernel
theorem dX11_lay_12 : decode cX11_lay 12 = .ok (.iload_n 2, 1) := by decide +kernel
theorem dX11_lay_13 : decode cX11_lay 13 = .ok (.invokestatic 331, 3) := by decide +kernel
theorem dX11_lay_16 : decode cX11_lay 16 = .ok (.ifCond .ne 6, 3) := by decide +kernel
theorem dX11_lay_19 : decode cX11_lay 19 = .ok (.bipush (-2), 2) := by decide +kernel
theorem dX11_lay_21 : decode cX11_lay 21 = .ok (.ireturn, 1) := by decide +kernel
theorem dX11_lay_22 : decode cX11_lay 22 = .ok (.aload 5, 2) := by decide +kernel
theorem dX11_lay_24 : decode cX11_lay 24 = .ok (.iload_n 2, 1) := by decide +kernel
end
section
theorem dX11_lay_25 : decode cX11_lay 25 = .ok (.iload_n 3, 1) := by decide +kernel
theorem dX11_lay_26 : decode cX11_lay 26 = .ok (.invokevirtual 341, 3) := by decide +kernel
theorem dX11_lay_29 : decode cX11_lay 29 = .ok (.istore 6, 2) := by decide +kernel
theorem dX11_lay_31 : decode cX11_lay 31 = .ok (.iload 6, 2) := by decide +kernel
theorem dX11_lay_33 : decode cX11_lay 33 = .ok (.ifCond .eq 10, 3) := by decide +kernel
theorem dX11_lay_36 : decode cX11_lay 36 = .ok (.aload_n 0, 1) := by decide +kernel
theorem dX11_lay_37 : decode cX11_lay 37 = .ok (.iload 6, 2) := by decide +kernel
theorem dX11_lay_39 : decode cX11_lay 39 = .ok (.invokevirtual 166, 3) := by decide +kernel
theorem dX11_lay_42 : decode cX11_lay 42 = .ok (.ireturn, 1) := by decide +kernel
theorem dX11_lay_43 : decode cX11_lay 43 = .ok (.aload 5, 2) := by decide +kernel
theorem dX11_lay_45 : decode cX11_lay 45 = .ok (.iload_n 3, 1) := by decide +kernel
theorem dX11_lay_46 : decode cX11_lay 46 = .ok (.iload 4, 2) := by decide +kernel
theorem dX11_lay_48 : decode cX11_lay 48 = .ok (.invokevirtual 344, 3) := by decide +kernel
theorem dX11_lay_51 : decode cX11_lay 51 = .ok (.iconst 1, 1) := by decide +kernel
theorem dX11_lay_52 : decode cX11_lay 52 = .ok (.ireturn, 1) := by decide +kernel
theorem dX11_get_0 : decode cX11_get 0 = .ok (.aload_n 0, 1) := by decide +kernel
theorem dX11_get_1 : decode cX11_get 1 = .ok (.iload_n 1, 1) := by decide +kernel
theorem dX11_get_2 : decode cX11_get 2 = .ok (.invokevirtual 159, 3) := by decide +kernel
theorem dX11_get_5 : decode cX11_get 5 = .ok (.astore 4, 2) := by decide +kernel
theorem dX11_get_7 : decode cX11_get 7 = .ok (.aload 4, 2) := by decide +kernel
theorem dX11_get_9 : decode cX11_get 9 = .ok (.ifnull 10, 3) := by decide +kernel
theorem dX11_get_12 : decode cX11_get 12 = .ok (.iload_n 2, 1) := by decide +kernel
theorem dX11_get_13 : decode cX11_get 13 = .ok (.invokestatic 331, 3) := by decide +kernel
theorem dX11_get_16 : decode cX11_get 16 = .ok (.ifCond .ne 7, 3) := by decide +kernel
theorem dX11_get_19 : decode cX11_get 19 = .ok (.ldc_w 347, 3) := by decide +kernel
theorem dX11_get_22 : decode cX11_get 22 = .ok (.ireturn, 1) := by decide +kernel
theorem dX11_get_23 : decode cX11_get 23 = .ok (.aload 4, 2) := by decide +kernel
theorem dX11_get_25 : decode cX11_get 25 = .ok (.iload_n 2, 1) := by decide +kernel
theorem dX11_get_26 : decode cX11_get 26 = .ok (.iload_n 3, 1) := by decide +kernel
theorem dX11_get_27 : decode cX11_get 27 = .ok (.invokevirtual 341, 3) := by decide +kernel
theorem dX11_get_30 : decode cX11_get 30 = .ok (.istore 5, 2) := by decide +kernel
theorem dX11_get_32 : decode cX11_get 32 = .ok (.iload 5, 2) := by decide +kernel
theorem dX11_get_34 : decode cX11_get 34 = .ok (.ifCond .eq 13, 3) := by decide +kernel
theorem dX11_get_37 : decode cX11_get 37 = .ok (.aload_n 0, 1) := by decide +kernel
theorem dX11_get_38 : decode cX11_get 38 = .ok (.iload 5, 2) := by decide +kernel
theorem dX11_get_40 : decode cX11_get 40 = .ok (.putfield 348, 3) := by decide +kernel
theorem dX11_get_43 : decode cX11_get 43 = .ok (.ldc_w 347, 3) := by decide +kernel
theorem dX11_get_46 : decode cX11_get 46 = .ok (.ireturn, 1) := by decide +kernel
theorem dX11_get_47 : decode cX11_get 47 = .ok (.aload 4, 2) := by decide +kernel
theorem dX11_get_49 : decode cX11_get 49 = .ok (.iload_n 3, 1) := by decide +kernel
theorem dX11_get_50 : decode cX11_get 50 = .ok (.invokevirtual 173, 3) := by decide +kernel
theorem dX11_get_53 : decode cX11_get 53 = .ok (.ireturn, 1) := by decide +kernel
theorem dX11_copy_0 : decode cX11_copy 0 = .ok (.aload_n 0, 1) := by decide +kernel
theorem dX11_copy_1 : decode cX11_copy 1 = .ok (.iload_n 1, 1) := by decide +kernel
theorem dX11_copy_2 : decode cX11_copy 2 = .ok (.invokevirtual 159, 3) := by decide +kernel
theorem dX11_copy_5 : decode cX11_copy 5 = .ok (.astore 6, 2) := by decide +kernel
theorem dX11_copy_7 : decode cX11_copy 7 = .ok (.aload_n 0, 1) := by decide +kernel
theorem dX11_copy_8 : decode cX11_copy 8 = .ok (.iload_n 3, 1) := by decide +kernel
theorem dX11_copy_9 : decode cX11_copy 9 = .ok (.invokevirtual 159, 3) := by decide +kernel
theorem dX11_copy_12 : decode cX11_copy 12 = .ok (.astore 7, 2) := by decide +kernel
theorem dX11_copy_14 : decode cX11_copy 14 = .ok (.aload 6, 2) := by decide +kernel
theorem dX11_copy_16 : decode cX11_copy 16 = .ok (.ifnull 8, 3) := by decide +kernel
theorem dX11_copy_19 : decode cX11_copy 19 = .ok (.aload 7, 2) := by decide +kernel
theorem dX11_copy_21 : decode cX11_copy 21 = .ok (.ifnonnull 6, 3) := by decide +kernel
theorem dX11_copy_24 : decode cX11_copy 24 = .ok (.bipush (-2), 2) := by decide +kernel
theorem dX11_copy_26 : decode cX11_copy 26 = .ok (.ireturn, 1) := by decide +kernel
theorem dX11_copy_27 : decode cX11_copy 27 = .ok (.aload 6, 2) := by decide +kernel
theorem dX11_copy_29 : decode cX11_copy 29 = .ok (.invokevirtual 163, 3) := by decide +kernel
theorem dX11_copy_32 : decode cX11_copy 32 = .ok (.ifCond .ne 11, 3) := by decide +kernel
theorem dX11_copy_35 : decode cX11_copy 35 = .ok (.aload 7, 2) := by decide +kernel
theorem dX11_copy_37 : decode cX11_copy 37 = .ok (.invokevirtual 163, 3) := by decide +kernel
theorem dX11_copy_40 : decode cX11_copy 40 = .ok (.ifCond .eq 9, 3) := by decide +kernel
theorem dX11_copy_43 : decode cX11_copy 43 = .ok (.aload_n 0, 1) := by decide +kernel
theorem dX11_copy_44 : decode cX11_copy 44 = .ok (.iconst 1, 1) := by decide +kernel
theorem dX11_copy_45 : decode cX11_copy 45 = .ok (.invokevirtual 166, 3) := by decide +kernel
theorem dX11_copy_48 : decode cX11_copy 48 = .ok (.ireturn, 1) := by decide +kernel
theorem dX11_copy_49 : decode cX11_copy 49 = .ok (.aload 6, 2) := by decide +kernel
theorem dX11_copy_51 : decode cX11_copy 51 = .ok (.getfield 351, 3) := by decide +kernel
theorem dX11_copy_54 : decode cX11_copy 54 = .ok (.aload 7, 2) := by decide +kernel
theorem dX11_copy_56 : decode cX11_copy 56 = .ok (.getfield 351, 3) := by decide +kernel
theorem dX11_copy_59 : decode cX11_copy 59 = .ok (.if_icmp .eq 9, 3) := by decide +kernel
theorem dX11_copy_62 : decode cX11_copy 62 = .ok (.aload_n 0, 1) := by decide +kernel
theorem dX11_copy_63 : decode cX11_copy 63 = .ok (.iconst 4, 1) := by decide +kernel
theorem dX11_copy_64 : decode cX11_copy 64 = .ok (.invokevirtual 166, 3) := by decide +kernel
theorem dX11_copy_67 : decode cX11_copy 67 = .ok (.ireturn, 1) := by decide +kernel
theorem dX11_copy_68 : decode cX11_copy 68 = .ok (.aload 6, 2) := by decide +kernel
theorem dX11_copy_70 : decode cX11_copy 70 = .ok (.iload_n 2, 1) := by decide +kernel
theorem dX11_copy_71 : decode cX11_copy 71 = .ok (.iload 5, 2) := by decide +kernel
theorem dX11_copy_73 : decode cX11_copy 73 = .ok (.invokevirtual 354, 3) := by decide +kernel
theorem dX11_copy_76 : decode cX11_copy 76 = .ok (.ifCond .eq 15, 3) := by decide +kernel
theorem dX11_copy_79 : decode cX11_copy 79 = .ok (.aload 7, 2) := by decide +kernel
theorem dX11_copy_81 : decode cX11_copy 81 = .ok (.iload 4, 2) := by decide +kernel
theorem dX11_copy_83 : decode cX11_copy 83 = .ok (.iload 5, 2) := by decide +kernel
theorem dX11_copy_85 : decode cX11_copy 85 = .ok (.invokevirtual 354, 3) := by decide +kernel
theorem dX11_copy_88 : decode cX11_copy 88 = .ok (.ifCond .ne 9, 3) := by decide +kernel
theorem dX11_copy_91 : decode cX11_copy 91 = .ok (.aload_n 0, 1) := by decide +kernel
theorem dX11_copy_92 : decode cX11_copy 92 = .ok (.iconst 2, 1) := by decide +kernel
theorem dX11_copy_93 : decode cX11_copy 93 = .ok (.invokevirtual 166, 3) := by decide +kernel
theorem dX11_copy_96 : decode cX11_copy 96 = .ok (.ireturn, 1) := by decide +kernel
theorem dX11_copy_97 : decode cX11_copy 97 = .ok (.aload 6, 2) := by decide +kernel
theorem dX11_copy_99 : decode cX11_copy 99 = .ok (.getfield 357, 3) := by decide +kernel
theorem dX11_copy_102 : decode cX11_copy 102 = .ok (.iload_n 2, 1) := by decide +kernel
theorem dX11_copy_103 : decode cX11_copy 103 = .ok (.aload 7, 2) := by decide +kernel
theorem dX11_copy_105 : decode cX11_copy 105 = .ok (.getfield 357, 3) := by decide +kernel
theorem dX11_copy_108 : decode cX11_copy 108 = .ok (.iload 4, 2) := by decide +kernel
theorem dX11_copy_110 : decode cX11_copy 110 = .ok (.iload 5, 2) := by decide +kernel
theorem dX11_copy_112 : decode cX11_copy 112 = .ok (.invokestatic 360, 3) := by decide +kernel
theorem dX11_copy_115 : decode cX11_copy 115 = .ok (.iconst 1, 1) := by decide +kernel
theorem dX11_copy_116 : decode cX11_copy 116 = .ok (.ireturn, 1) := by decide +kernel
theorem dX11_write_0 : decode cX11_write 0 = .ok (.aload_n 0, 1) := by decide +kernel
theorem dX11_write_1 : decode cX11_write 1 = .ok (.iload_n 2, 1) := by decide +kernel
theorem dX11_write_2 : decode cX11_write 2 = .ok (.invokevirtual 159, 3) := by decide +kernel
theorem dX11_write_5 : decode cX11_write 5 = .ok (.astore_n 3, 1) := by decide +kernel
theorem dX11_write_6 : decode cX11_write 6 = .ok (.aload_n 0, 1) := by decide +kernel
theorem dX11_write_7 : decode cX11_write 7 = .ok (.getfield 27, 3) := by decide +kernel
theorem dX11_write_10 : decode cX11_write 10 = .ok (.iload_n 1, 1) := by decide +kernel
theorem dX11_write_11 : decode cX11_write 11 = .ok (.invokevirtual 176, 3) := by decide +kernel
theorem dX11_write_14 : decode cX11_write 14 = .ok (.ifCond .eq 7, 3) := by decide +kernel
theorem dX11_write_17 : decode cX11_write 17 = .ok (.aload_n 3, 1) := by decide +kernel
theorem dX11_write_18 : decode cX11_write 18 = .ok (.ifnonnull 6, 3) := by decide +kernel
theorem dX11_write_21 : decode cX11_write 21 = .ok (.bipush (-2), 2) := by decide +kernel
theorem dX11_write_23 : decode cX11_write 23 = .ok (.ireturn, 1) := by decide +kernel
theorem dX11_write_24 : decode cX11_write 24 = .ok (.aload_n 3, 1) := by decide +kernel
theorem dX11_write_25 : decode cX11_write 25 = .ok (.invokevirtual 163, 3) := by decide +kernel
theorem dX11_write_28 : decode cX11_write 28 = .ok (.ifCond .eq 9, 3) := by decide +kernel
theorem dX11_write_31 : decode cX11_write 31 = .ok (.aload_n 0, 1) := by decide +kernel
theorem dX11_write_32 : decode cX11_write 32 = .ok (.iconst 1, 1) := by decide +kernel
theorem dX11_write_33 : decode cX11_write 33 = .ok (.invokevirtual 166, 3) := by decide +kernel
theorem dX11_write_36 : decode cX11_write 36 = .ok (.ireturn, 1) := by decide +kernel
theorem dX11_write_37 : decode cX11_write 37 = .ok (.aload_n 0, 1) := by decide +kernel
theorem dX11_write_38 : decode cX11_write 38 = .ok (.getfield 36, 3) := by decide +kernel
theorem dX11_write_41 : decode cX11_write 41 = .ok (.iload_n 1, 1) := by decide +kernel
theorem dX11_write_42 : decode cX11_write 42 = .ok (.invokevirtual 189, 3) := by decide +kernel
theorem dX11_write_45 : decode cX11_write 45 = .ok (.iconst 0, 1) := by decide +kernel
theorem dX11_write_46 : decode cX11_write 46 = .ok (.istore 4, 2) := by decide +kernel
theorem dX11_write_48 : decode cX11_write 48 = .ok (.iload 4, 2) := by decide +kernel
theorem dX11_write_50 : decode cX11_write 50 = .ok (.aload_n 3, 1) := by decide +kernel
theorem dX11_write_51 : decode cX11_write 51 = .ok (.getfield 337, 3) := by decide +kernel
theorem dX11_write_54 : decode cX11_write 54 = .ok (.if_icmp .ge 24, 3) := by decide +kernel
theorem dX11_write_57 : decode cX11_write 57 = .ok (.aload_n 3, 1) := by decide +kernel
theorem dX11_write_58 : decode cX11_write 58 = .ok (.iload 4, 2) := by decide +kernel
theorem dX11_write_60 : decode cX11_write 60 = .ok (.aload_n 0, 1) := by decide +kernel
theorem dX11_write_61 : decode cX11_write 61 = .ok (.getfield 36, 3) := by decide +kernel
theorem dX11_write_64 : decode cX11_write 64 = .ok (.iload 4, 2) := by decide +kernel
theorem dX11_write_66 : decode cX11_write 66 = .ok (.invokevirtual 192, 3) := by decide +kernel
theorem dX11_write_69 : decode cX11_write 69 = .ok (.invokevirtual 344, 3) := by decide +kernel
theorem dX11_write_72 : decode cX11_write 72 = .ok (.iinc 4 1, 3) := by decide +kernel
theorem dX11_write_75 : decode cX11_write 75 = .ok (.goto (-27), 3) := by decide +kernel
theorem dX11_write_78 : decode cX11_write 78 = .ok (.aload_n 3, 1) := by decide +kernel
theorem dX11_write_79 : decode cX11_write 79 = .ok (.getfield 337, 3) := by decide +kernel
theorem dX11_write_82 : decode cX11_write 82 = .ok (.ireturn, 1) := by decide +kernel
theorem dX11_count_0 : decode cX11_count 0 = .ok (.iload_n 1, 1) := by decide +kernel
theorem dX11_count_1 : decode cX11_count 1 = .ok (.tableswitch 120 0 8 #[51, 59, 67, 75, 83, 91, 99, 107, 115], 51) := by decide +kernel
theorem dX11_count_52 : decode cX11_count 52 = .ok (.aload_n 0, 1) := by decide +kernel
theorem dX11_count_53 : decode cX11_count 53 = .ok (.getfield 27, 3) := by decide +kernel
theorem dX11_count_56 : decode cX11_count 56 = .ok (.getfield 366, 3) := by decide +kernel
theorem dX11_count_59 : decode cX11_count 59 = .ok (.ireturn, 1) := by decide +kernel
theorem dX11_count_60 : decode cX11_count 60 = .ok (.aload_n 0, 1) := by decide +kernel
theorem dX11_count_61 : decode cX11_count 61 = .ok (.getfield 50, 3) := by decide +kernel
theorem dX11_count_64 : decode cX11_count 64 = .ok (.getfield 254, 3) := by decide +kernel
theorem dX11_count_67 : decode cX11_count 67 = .ok (.ireturn, 1) := by decide +kernel
theorem dX11_count_68 : decode cX11_count 68 = .ok (.aload_n 0, 1) := by decide +kernel
theorem dX11_count_69 : decode cX11_count 69 = .ok (.getfield 57, 3) := by decide +kernel
theorem dX11_count_72 : decode cX11_count 72 = .ok (.getfield 185, 3) := by decide +kernel
theorem dX11_count_75 : decode cX11_count 75 = .ok (.ireturn, 1) := by decide +kernel
theorem dX11_count_76 : decode cX11_count 76 = .ok (.aload_n 0, 1) := by decide +kernel
theorem dX11_count_77 : decode cX11_count 77 = .ok (.getfield 57, 3) := by decide +kernel
theorem dX11_count_80 : decode cX11_count 80 = .ok (.getfield 182, 3) := by decide +kernel
theorem dX11_count_83 : decode cX11_count 83 = .ok (.ireturn, 1) := by decide +kernel
theorem dX11_count_84 : decode cX11_count 84 = .ok (.aload_n 0, 1) := by decide +kernel
theorem dX11_count_85 : decode cX11_count 85 = .ok (.getfield 14, 3) := by decide +kernel
theorem dX11_count_88 : decode cX11_count 88 = .ok (.getfield 116, 3) := by decide +kernel
theorem dX11_count_91 : decode cX11_count 91 = .ok (.ireturn, 1) := by decide +kernel
theorem dX11_count_92 : decode cX11_count 92 = .ok (.aload_n 0, 1) := by decide +kernel
theorem dX11_count_93 : decode cX11_count 93 = .ok (.getfield 18, 3) := by decide +kernel
theorem dX11_count_96 : decode cX11_count 96 = .ok (.getfield 116, 3) := by decide +kernel
theorem dX11_count_99 : decode cX11_count 99 = .ok (.ireturn, 1) := by decide +kernel
theorem dX11_count_100 : decode cX11_count 100 = .ok (.aload_n 0, 1) := by decide +kernel
theorem dX11_count_101 : decode cX11_count 101 = .ok (.getfield 21, 3) := by decide +kernel
theorem dX11_count_104 : decode cX11_count 104 = .ok (.getfield 116, 3) := by decide +kernel
theorem dX11_count_107 : decode cX11_count 107 = .ok (.ireturn, 1) := by decide +kernel
theorem dX11_count_108 : decode cX11_count 108 = .ok (.aload_n 0, 1) := by decide +kernel
theorem dX11_count_109 : decode cX11_count 109 = .ok (.getfield 80, 3) := by decide +kernel
theorem dX11_count_112 : decode cX11_count 112 = .ok (.getfield 297, 3) := by decide +kernel
theorem dX11_count_115 : decode cX11_count 115 = .ok (.ireturn, 1) := by decide +kernel
theorem dX11_count_116 : decode cX11_count 116 = .ok (.aload_n 0, 1) := by decide +kernel
theorem dX11_count_117 : decode cX11_count 117 = .ok (.getfield 348, 3) := by decide +kernel
theorem dX11_count_120 : decode cX11_count 120 = .ok (.ireturn, 1) := by decide +kernel
theorem dX11_count_121 : decode cX11_count 121 = .ok (.bipush (-2), 2) := by decide +kernel
theorem dX11_count_123 : decode cX11_count 123 = .ok (.ireturn, 1) := by decide +kernel
theorem dX11_digest_0 : decode cX11_digest 0 = .ok (.ldc2_w 369, 3) := by decide +kernel
theorem dX11_digest_3 : decode cX11_digest 3 = .ok (.lstore_n 1, 1) := by decide +kernel
theorem dX11_digest_4 : decode cX11_digest 4 = .ok (.iconst 0, 1) := by decide +kernel
theorem dX11_digest_5 : decode cX11_digest 5 = .ok (.istore_n 3, 1) := by decide +kernel
theorem dX11_digest_6 : decode cX11_digest 6 = .ok (.iload_n 3, 1) := by decide +kernel
theorem dX11_digest_7 : decode cX11_digest 7 = .ok (.bipush 8, 2) := by decide +kernel
theorem dX11_digest_9 : decode cX11_digest 9 = .ok (.if_icmp .ge 22, 3) := by decide +kernel
theorem dX11_digest_12 : decode cX11_digest 12 = .ok (.ldc2_w 371, 3) := by decide +kernel
theorem dX11_digest_15 : decode cX11_digest 15 = .ok (.lload_n 1, 1) := by decide +kernel
theorem dX11_digest_16 : decode cX11_digest 16 = .ok (.lmul, 1) := by decide +kernel
theorem dX11_digest_17 : decode cX11_digest 17 = .ok (.aload_n 0, 1) := by decide +kernel
theorem dX11_digest_18 : decode cX11_digest 18 = .ok (.iload_n 3, 1) := by decide +kernel
theorem dX11_digest_19 : decode cX11_digest 19 = .ok (.invokevirtual 373, 3) := by decide +kernel
theorem dX11_digest_22 : decode cX11_digest 22 = .ok (.i2l, 1) := by decide +kernel
theorem dX11_digest_23 : decode cX11_digest 23 = .ok (.ladd, 1) := by decide +kernel
theorem dX11_digest_24 : decode cX11_digest 24 = .ok (.lstore_n 1, 1) := by decide +kernel
theorem dX11_digest_25 : decode cX11_digest 25 = .ok (.iinc 3 1, 3) := by decide +kernel
theorem dX11_digest_28 : decode cX11_digest 28 = .ok (.goto (-22), 3) := by decide +kernel
theorem dX11_digest_31 : decode cX11_digest 31 = .ok (.iconst 0, 1) := by decide +kernel
theorem dX11_digest_32 : decode cX11_digest 32 = .ok (.istore_n 3, 1) := by decide +kernel
theorem dX11_digest_33 : decode cX11_digest 33 = .ok (.iload_n 3, 1) := by decide +kernel
theorem dX11_digest_34 : decode cX11_digest 34 = .ok (.iconst 3, 1) := by decide +kernel
theorem dX11_digest_35 : decode cX11_digest 35 = .ok (.if_icmp .ge 22, 3) := by decide +kernel
theorem dX11_digest_38 : decode cX11_digest 38 = .ok (.ldc2_w 371, 3) := by decide +kernel
theorem dX11_digest_41 : decode cX11_digest 41 = .ok (.lload_n 1, 1) := by decide +kernel
theorem dX11_digest_42 : decode cX11_digest 42 = .ok (.lmul, 1) := by decide +kernel
theorem dX11_digest_43 : decode cX11_digest 43 = .ok (.aload_n 0, 1) := by decide +kernel
theorem dX11_digest_44 : decode cX11_digest 44 = .ok (.iload_n 3, 1) := by decide +kernel
theorem dX11_digest_45 : decode cX11_digest 45 = .ok (.invokevirtual 376, 3) := by decide +kernel
theorem dX11_digest_48 : decode cX11_digest 48 = .ok (.i2l, 1) := by decide +kernel
theorem dX11_digest_49 : decode cX11_digest 49 = .ok (.ladd, 1) := by decide +kernel
theorem dX11_digest_50 : decode cX11_digest 50 = .ok (.lstore_n 1, 1) := by decide +kernel
theorem dX11_digest_51 : decode cX11_digest 51 = .ok (.iinc 3 1, 3) := by decide +kernel
theorem dX11_digest_54 : decode cX11_digest 54 = .ok (.goto (-21), 3) := by decide +kernel
theorem dX11_digest_57 : decode cX11_digest 57 = .ok (.ldc2_w 371, 3) := by decide +kernel
theorem dX11_digest_60 : decode cX11_digest 60 = .ok (.lload_n 1, 1) := by decide +kernel
theorem dX11_digest_61 : decode cX11_digest 61 = .ok (.lmul, 1) := by decide +kernel
theorem dX11_digest_62 : decode cX11_digest 62 = .ok (.aload_n 0, 1) := by decide +kernel
theorem dX11_digest_63 : decode cX11_digest 63 = .ok (.invokevirtual 379, 3) := by decide +kernel
theorem dX11_digest_66 : decode cX11_digest 66 = .ok (.i2l, 1) := by decide +kernel
theorem dX11_digest_67 : decode cX11_digest 67 = .ok (.ladd, 1) := by decide +kernel
theorem dX11_digest_68 : decode cX11_digest 68 = .ok (.lstore_n 1, 1) := by decide +kernel
theorem dX11_digest_69 : decode cX11_digest 69 = .ok (.ldc2_w 371, 3) := by decide +kernel
theorem dX11_digest_72 : decode cX11_digest 72 = .ok (.lload_n 1, 1) := by decide +kernel
theorem dX11_digest_73 : decode cX11_digest 73 = .ok (.lmul, 1) := by decide +kernel
theorem dX11_digest_74 : decode cX11_digest 74 = .ok (.aload_n 0, 1) := by decide +kernel
theorem dX11_digest_75 : decode cX11_digest 75 = .ok (.aload_n 0, 1) := by decide +kernel
theorem dX11_digest_76 : decode cX11_digest 76 = .ok (.getfield 57, 3) := by decide +kernel
theorem dX11_digest_79 : decode cX11_digest 79 = .ok (.getfield 182, 3) := by decide +kernel
theorem dX11_digest_82 : decode cX11_digest 82 = .ok (.invokevirtual 382, 3) := by decide +kernel
theorem dX11_digest_85 : decode cX11_digest 85 = .ok (.i2l, 1) := by decide +kernel
theorem dX11_digest_86 : decode cX11_digest 86 = .ok (.ladd, 1) := by decide +kernel
theorem dX11_digest_87 : decode cX11_digest 87 = .ok (.lstore_n 1, 1) := by decide +kernel
theorem dX11_digest_88 : decode cX11_digest 88 = .ok (.ldc2_w 371, 3) := by decide +kernel
theorem dX11_digest_91 : decode cX11_digest 91 = .ok (.lload_n 1, 1) := by decide +kernel
theorem dX11_digest_92 : decode cX11_digest 92 = .ok (.lmul, 1) := by decide +kernel
theorem dX11_digest_93 : decode cX11_digest 93 = .ok (.aload_n 0, 1) := by decide +kernel
theorem dX11_digest_94 : decode cX11_digest 94 = .ok (.invokevirtual 385, 3) := by decide +kernel
theorem dX11_digest_97 : decode cX11_digest 97 = .ok (.i2l, 1) := by decide +kernel
theorem dX11_digest_98 : decode cX11_digest 98 = .ok (.ladd, 1) := by decide +kernel
theorem dX11_digest_99 : decode cX11_digest 99 = .ok (.lstore_n 1, 1) := by decide +kernel
theorem dX11_digest_100 : decode cX11_digest 100 = .ok (.ldc2_w 371, 3) := by decide +kernel
theorem dX11_digest_103 : decode cX11_digest 103 = .ok (.lload_n 1, 1) := by decide +kernel
theorem dX11_digest_104 : decode cX11_digest 104 = .ok (.lmul, 1) := by decide +kernel
theorem dX11_digest_105 : decode cX11_digest 105 = .ok (.aload_n 0, 1) := by decide +kernel
theorem dX11_digest_106 : decode cX11_digest 106 = .ok (.invokevirtual 388, 3) := by decide +kernel
theorem dX11_digest_109 : decode cX11_digest 109 = .ok (.i2l, 1) := by decide +kernel
theorem dX11_digest_110 : decode cX11_digest 110 = .ok (.ladd, 1) := by decide +kernel
theorem dX11_digest_111 : decode cX11_digest 111 = .ok (.lstore_n 1, 1) := by decide +kernel
theorem dX11_digest_112 : decode cX11_digest 112 = .ok (.ldc2_w 371, 3) := by decide +kernel
theorem dX11_digest_115 : decode cX11_digest 115 = .ok (.lload_n 1, 1) := by decide +kernel
theorem dX11_digest_116 : decode cX11_digest 116 = .ok (.lmul, 1) := by decide +kernel
theorem dX11_digest_117 : decode cX11_digest 117 = .ok (.aload_n 0, 1) := by decide +kernel
theorem dX11_digest_118 : decode cX11_digest 118 = .ok (.iconst 0, 1) := by decide +kernel
theorem dX11_digest_119 : decode cX11_digest 119 = .ok (.invokevirtual 391, 3) := by decide +kernel
theorem dX11_digest_122 : decode cX11_digest 122 = .ok (.ladd, 1) := by decide +kernel
theorem dX11_digest_123 : decode cX11_digest 123 = .ok (.lstore_n 1, 1) := by decide +kernel
theorem dX11_digest_124 : decode cX11_digest 124 = .ok (.ldc2_w 371, 3) := by decide +kernel
theorem dX11_digest_127 : decode cX11_digest 127 = .ok (.lload_n 1, 1) := by decide +kernel
theorem dX11_digest_128 : decode cX11_digest 128 = .ok (.lmul, 1) := by decide +kernel
theorem dX11_digest_129 : decode cX11_digest 129 = .ok (.aload_n 0, 1) := by decide +kernel
theorem dX11_digest_130 : decode cX11_digest 130 = .ok (.iconst 1, 1) := by decide +kernel
theorem dX11_digest_131 : decode cX11_digest 131 = .ok (.invokevirtual 391, 3) := by decide +kernel
theorem dX11_digest_134 : decode cX11_digest 134 = .ok (.ladd, 1) := by decide +kernel
theorem dX11_digest_135 : decode cX11_digest 135 = .ok (.lstore_n 1, 1) := by decide +kernel
theorem dX11_digest_136 : decode cX11_digest 136 = .ok (.aload_n 0, 1) := by decide +kernel
theorem dX11_digest_137 : decode cX11_digest 137 = .ok (.lload_n 1, 1) := by decide +kernel
theorem dX11_digest_138 : decode cX11_digest 138 = .ok (.invokevirtual 394, 3) := by decide +kernel
theorem dX11_digest_141 : decode cX11_digest 141 = .ok (.lstore_n 1, 1) := by decide +kernel
theorem dX11_digest_142 : decode cX11_digest 142 = .ok (.aload_n 0, 1) := by decide +kernel
theorem dX11_digest_143 : decode cX11_digest 143 = .ok (.lload_n 1, 1) := by decide +kernel
theorem dX11_digest_144 : decode cX11_digest 144 = .ok (.invokevirtual 398, 3) := by decide +kernel
theorem dX11_digest_147 : decode cX11_digest 147 = .ok (.lstore_n 1, 1) := by decide +kernel
theorem dX11_digest_148 : decode cX11_digest 148 = .ok (.aload_n 0, 1) := by decide +kernel
theorem dX11_digest_149 : decode cX11_digest 149 = .ok (.lload_n 1, 1) := by decide +kernel
theorem dX11_digest_150 : decode cX11_digest 150 = .ok (.invokevirtual 401, 3) := by decide +kernel
theorem dX11_digest_153 : decode cX11_digest 153 = .ok (.lstore_n 1, 1) := by decide +kernel
theorem dX11_digest_154 : decode cX11_digest 154 = .ok (.aload_n 0, 1) := by decide +kernel
theorem dX11_digest_155 : decode cX11_digest 155 = .ok (.lload_n 1, 1) := by decide +kernel
theorem dX11_digest_156 : decode cX11_digest 156 = .ok (.invokevirtual 404, 3) := by decide +kernel
theorem dX11_digest_159 : decode cX11_digest 159 = .ok (.lreturn, 1) := by decide +kernel
theorem dX11_withPersons_0 : decode cX11_withPersons 0 = .ok (.lload_n 1, 1) := by decide +kernel
theorem dX11_withPersons_1 : decode cX11_withPersons 1 = .ok (.lstore_n 3, 1) := by decide +kernel
theorem dX11_withPersons_2 : decode cX11_withPersons 2 = .ok (.iconst 0, 1) := by decide +kernel
theorem dX11_withPersons_3 : decode cX11_withPersons 3 = .ok (.istore 5, 2) := by decide +kernel
theorem dX11_withPersons_5 : decode cX11_withPersons 5 = .ok (.iload 5, 2) := by decide +kernel
theorem dX11_withPersons_7 : decode cX11_withPersons 7 = .ok (.iconst 5, 1) := by decide +kernel
theorem dX11_withPersons_8 : decode cX11_withPersons 8 = .ok (.if_icmp .ge 53, 3) := by decide +kernel
theorem dX11_withPersons_11 : decode cX11_withPersons 11 = .ok (.ldc2_w 371, 3) := by decide +kernel
theorem dX11_withPersons_14 : decode cX11_withPersons 14 = .ok (.lload_n 3, 1) := by decide +kernel
theorem dX11_withPersons_15 : decode cX11_withPersons 15 = .ok (.lmul, 1) := by decide +kernel
theorem dX11_withPersons_16 : decode cX11_withPersons 16 = .ok (.aload_n 0, 1) := by decide +kernel
theorem dX11_withPersons_17 : decode cX11_withPersons 17 = .ok (.iload 5, 2) := by decide +kernel
theorem dX11_withPersons_19 : decode cX11_withPersons 19 = .ok (.invokevirtual 407, 3) := by decide +kernel
theorem dX11_withPersons_22 : decode cX11_withPersons 22 = .ok (.i2l, 1) := by decide +kernel
theorem dX11_withPersons_23 : decode cX11_withPersons 23 = .ok (.ladd, 1) := by decide +kernel
theorem dX11_withPersons_24 : decode cX11_withPersons 24 = .ok (.lstore_n 3, 1) := by decide +kernel
theorem dX11_withPersons_25 : decode cX11_withPersons 25 = .ok (.bipush (-2), 2) := by decide +kernel
theorem dX11_withPersons_27 : decode cX11_withPersons 27 = .ok (.istore 6, 2) := by decide +kernel
theorem dX11_withPersons_29 : decode cX11_withPersons 29 = .ok (.iload 6, 2) := by decide +kernel
theorem dX11_withPersons_31 : decode cX11_withPersons 31 = .ok (.ifCond .gt 24, 3) := by decide +kernel
theorem dX11_withPersons_34 : decode cX11_withPersons 34 = .ok (.ldc2_w 371, 3) := by decide +kernel
theorem dX11_withPersons_37 : decode cX11_withPersons 37 = .ok (.lload_n 3, 1) := by decide +kernel
theorem dX11_withPersons_38 : decode cX11_withPersons 38 = .ok (.lmul, 1) := by decide +kernel
theorem dX11_withPersons_39 : decode cX11_withPersons 39 = .ok (.aload_n 0, 1) := by decide +kernel
theorem dX11_withPersons_40 : decode cX11_withPersons 40 = .ok (.iload 5, 2) := by decide +kernel
theorem dX11_withPersons_42 : decode cX11_withPersons 42 = .ok (.iload 6, 2) := by decide +kernel
theorem dX11_withPersons_44 : decode cX11_withPersons 44 = .ok (.invokevirtual 410, 3) := by decide +kernel
theorem dX11_withPersons_47 : decode cX11_withPersons 47 = .ok (.ladd, 1) := by decide +kernel
theorem dX11_withPersons_48 : decode cX11_withPersons 48 = .ok (.lstore_n 3, 1) := by decide +kernel
theorem dX11_withPersons_49 : decode cX11_withPersons 49 = .ok (.iinc 6 1, 3) := by decide +kernel
theorem dX11_withPersons_52 : decode cX11_withPersons 52 = .ok (.goto (-23), 3) := by decide +kernel
theorem dX11_withPersons_55 : decode cX11_withPersons 55 = .ok (.iinc 5 1, 3) := by decide +kernel
theorem dX11_withPersons_58 : decode cX11_withPersons 58 = .ok (.goto (-53), 3) := by decide +kernel
theorem dX11_withPersons_61 : decode cX11_withPersons 61 = .ok (.lload_n 3, 1) := by decide +kernel
theorem dX11_withPersons_62 : decode cX11_withPersons 62 = .ok (.lreturn, 1) := by decide +kernel
theorem dX11_withWays_0 : decode cX11_withWays 0 = .ok (.ldc2_w 371, 3) := by decide +kernel
theorem dX11_withWays_3 : decode cX11_withWays 3 = .ok (.lload_n 1, 1) := by decide +kernel
theorem dX11_withWays_4 : decode cX11_withWays 4 = .ok (.lmul, 1) := by decide +kernel
theorem dX11_withWays_5 : decode cX11_withWays 5 = .ok (.aload_n 0, 1) := by decide +kernel
theorem dX11_withWays_6 : decode cX11_withWays 6 = .ok (.iconst 0, 1) := by decide +kernel
theorem dX11_withWays_7 : decode cX11_withWays 7 = .ok (.bipush 9, 2) := by decide +kernel
theorem dX11_withWays_9 : decode cX11_withWays 9 = .ok (.invokevirtual 414, 3) := by decide +kernel
theorem dX11_withWays_12 : decode cX11_withWays 12 = .ok (.i2l, 1) := by decide +kernel
theorem dX11_withWays_13 : decode cX11_withWays 13 = .ok (.ladd, 1) := by decide +kernel
theorem dX11_withWays_14 : decode cX11_withWays 14 = .ok (.lstore_n 3, 1) := by decide +kernel
theorem dX11_withWays_15 : decode cX11_withWays 15 = .ok (.bipush (-2), 2) := by decide +kernel
theorem dX11_withWays_17 : decode cX11_withWays 17 = .ok (.istore 5, 2) := by decide +kernel
theorem dX11_withWays_19 : decode cX11_withWays 19 = .ok (.iload 5, 2) := by decide +kernel
theorem dX11_withWays_21 : decode cX11_withWays 21 = .ok (.iconst 1, 1) := by decide +kernel
theorem dX11_withWays_22 : decode cX11_withWays 22 = .ok (.if_icmp .gt 26, 3) := by decide +kernel
theorem dX11_withWays_25 : decode cX11_withWays 25 = .ok (.ldc2_w 371, 3) := by decide +kernel
theorem dX11_withWays_28 : decode cX11_withWays 28 = .ok (.lload_n 3, 1) := by decide +kernel
theorem dX11_withWays_29 : decode cX11_withWays 29 = .ok (.lmul, 1) := by decide +kernel
theorem dX11_withWays_30 : decode cX11_withWays 30 = .ok (.aload_n 0, 1) := by decide +kernel
theorem dX11_withWays_31 : decode cX11_withWays 31 = .ok (.iconst 0, 1) := by decide +kernel
theorem dX11_withWays_32 : decode cX11_withWays 32 = .ok (.bipush 9, 2) := by decide +kernel
theorem dX11_withWays_34 : decode cX11_withWays 34 = .ok (.iload 5, 2) := by decide +kernel
theorem dX11_withWays_36 : decode cX11_withWays 36 = .ok (.invokevirtual 417, 3) := by decide +kernel
theorem dX11_withWays_39 : decode cX11_withWays 39 = .ok (.i2l, 1) := by decide +kernel
theorem dX11_withWays_40 : decode cX11_withWays 40 = .ok (.ladd, 1) := by decide +kernel
theorem dX11_withWays_41 : decode cX11_withWays 41 = .ok (.lstore_n 3, 1) := by decide +kernel
theorem dX11_withWays_42 : decode cX11_withWays 42 = .ok (.iinc 5 1, 3) := by decide +kernel
theorem dX11_withWays_45 : decode cX11_withWays 45 = .ok (.goto (-26), 3) := by decide +kernel
theorem dX11_withWays_48 : decode cX11_withWays 48 = .ok (.iconst (-1), 1) := by decide +kernel
theorem dX11_withWays_49 : decode cX11_withWays 49 = .ok (.istore 5, 2) := by decide +kernel
theorem dX11_withWays_51 : decode cX11_withWays 51 = .ok (.iload 5, 2) := by decide +kernel
theorem dX11_withWays_53 : decode cX11_withWays 53 = .ok (.iconst 5, 1) := by decide +kernel
theorem dX11_withWays_54 : decode cX11_withWays 54 = .ok (.if_icmp .ge 25, 3) := by decide +kernel
theorem dX11_withWays_57 : decode cX11_withWays 57 = .ok (.ldc2_w 371, 3) := by decide +kernel
theorem dX11_withWays_60 : decode cX11_withWays 60 = .ok (.lload_n 3, 1) := by decide +kernel
theorem dX11_withWays_61 : decode cX11_withWays 61 = .ok (.lmul, 1) := by decide +kernel
theorem dX11_withWays_62 : decode cX11_withWays 62 = .ok (.aload_n 0, 1) := by decide +kernel
theorem dX11_withWays_63 : decode cX11_withWays 63 = .ok (.bipush 31, 2) := by decide +kernel
theorem dX11_withWays_65 : decode cX11_withWays 65 = .ok (.iload 5, 2) := by decide +kernel
theorem dX11_withWays_67 : decode cX11_withWays 67 = .ok (.invokevirtual 421, 3) := by decide +kernel
theorem dX11_withWays_70 : decode cX11_withWays 70 = .ok (.i2l, 1) := by decide +kernel
theorem dX11_withWays_71 : decode cX11_withWays 71 = .ok (.ladd, 1) := by decide +kernel
theorem dX11_withWays_72 : decode cX11_withWays 72 = .ok (.lstore_n 3, 1) := by decide +kernel
theorem dX11_withWays_73 : decode cX11_withWays 73 = .ok (.iinc 5 1, 3) := by decide +kernel
theorem dX11_withWays_76 : decode cX11_withWays 76 = .ok (.goto (-25), 3) := by decide +kernel
theorem dX11_withWays_79 : decode cX11_withWays 79 = .ok (.ldc2_w 371, 3) := by decide +kernel
theorem dX11_withWays_82 : decode cX11_withWays 82 = .ok (.lload_n 3, 1) := by decide +kernel
theorem dX11_withWays_83 : decode cX11_withWays 83 = .ok (.lmul, 1) := by decide +kernel
theorem dX11_withWays_84 : decode cX11_withWays 84 = .ok (.aload_n 0, 1) := by decide +kernel
theorem dX11_withWays_85 : decode cX11_withWays 85 = .ok (.iconst 0, 1) := by decide +kernel
theorem dX11_withWays_86 : decode cX11_withWays 86 = .ok (.iconst 0, 1) := by decide +kernel
theorem dX11_withWays_87 : decode cX11_withWays 87 = .ok (.iconst 2, 1) := by decide +kernel
theorem dX11_withWays_88 : decode cX11_withWays 88 = .ok (.iconst 0, 1) := by decide +kernel
theorem dX11_withWays_89 : decode cX11_withWays 89 = .ok (.invokevirtual 424, 3) := by decide +kernel
theorem dX11_withWays_92 : decode cX11_withWays 92 = .ok (.ladd, 1) := by decide +kernel
theorem dX11_withWays_93 : decode cX11_withWays 93 = .ok (.lreturn, 1) := by decide +kernel
theorem dX11_withTearing_0 : decode cX11_withTearing 0 = .ok (.lload_n 1, 1) := by decide +kernel
theorem dX11_withTearing_1 : decode cX11_withTearing 1 = .ok (.lstore_n 3, 1) := by decide +kernel
theorem dX11_withTearing_2 : decode cX11_withTearing 2 = .ok (.iconst 0, 1) := by decide +kernel
theorem dX11_withTearing_3 : decode cX11_withTearing 3 = .ok (.istore 5, 2) := by decide +kernel
theorem dX11_withTearing_5 : decode cX11_withTearing 5 = .ok (.iload 5, 2) := by decide +kernel
theorem dX11_withTearing_7 : decode cX11_withTearing 7 = .ok (.iconst 3, 1) := by decide +kernel
theorem dX11_withTearing_8 : decode cX11_withTearing 8 = .ok (.if_icmp .gt 25, 3) := by decide +kernel
theorem dX11_withTearing_11 : decode cX11_withTearing 11 = .ok (.ldc2_w 371, 3) := by decide +kernel
theorem dX11_withTearing_14 : decode cX11_withTearing 14 = .ok (.lload_n 3, 1) := by decide +kernel
theorem dX11_withTearing_15 : decode cX11_withTearing 15 = .ok (.lmul, 1) := by decide +kernel
theorem dX11_withTearing_16 : decode cX11_withTearing 16 = .ok (.aload_n 0, 1) := by decide +kernel
theorem dX11_withTearing_17 : decode cX11_withTearing 17 = .ok (.bipush 7, 2) := by decide +kernel
theorem dX11_withTearing_19 : decode cX11_withTearing 19 = .ok (.iload 5, 2) := by decide +kernel
theorem dX11_withTearing_21 : decode cX11_withTearing 21 = .ok (.invokevirtual 428, 3) := by decide +kernel
theorem dX11_withTearing_24 : decode cX11_withTearing 24 = .ok (.i2l, 1) := by decide +kernel
theorem dX11_withTearing_25 : decode cX11_withTearing 25 = .ok (.ladd, 1) := by decide +kernel
theorem dX11_withTearing_26 : decode cX11_withTearing 26 = .ok (.lstore_n 3, 1) := by decide +kernel
theorem dX11_withTearing_27 : decode cX11_withTearing 27 = .ok (.iinc 5 1, 3) := by decide +kernel
theorem dX11_withTearing_30 : decode cX11_withTearing 30 = .ok (.goto (-25), 3) := by decide +kernel
theorem dX11_withTearing_33 : decode cX11_withTearing 33 = .ok (.ldc2_w 371, 3) := by decide +kernel
theorem dX11_withTearing_36 : decode cX11_withTearing 36 = .ok (.lload_n 3, 1) := by decide +kernel
theorem dX11_withTearing_37 : decode cX11_withTearing 37 = .ok (.lmul, 1) := by decide +kernel
theorem dX11_withTearing_38 : decode cX11_withTearing 38 = .ok (.aload_n 0, 1) := by decide +kernel
theorem dX11_withTearing_39 : decode cX11_withTearing 39 = .ok (.bipush 7, 2) := by decide +kernel
theorem dX11_withTearing_41 : decode cX11_withTearing 41 = .ok (.bipush 9, 2) := by decide +kernel
theorem dX11_withTearing_43 : decode cX11_withTearing 43 = .ok (.invokevirtual 431, 3) := by decide +kernel
theorem dX11_withTearing_46 : decode cX11_withTearing 46 = .ok (.i2l, 1) := by decide +kernel
theorem dX11_withTearing_47 : decode cX11_withTearing 47 = .ok (.ladd, 1) := by decide +kernel
theorem dX11_withTearing_48 : decode cX11_withTearing 48 = .ok (.lstore_n 3, 1) := by decide +kernel
theorem dX11_withTearing_49 : decode cX11_withTearing 49 = .ok (.ldc2_w 371, 3) := by decide +kernel
theorem dX11_withTearing_52 : decode cX11_withTearing 52 = .ok (.lload_n 3, 1) := by decide +kernel
theorem dX11_withTearing_53 : decode cX11_withTearing 53 = .ok (.lmul, 1) := by decide +kernel
theorem dX11_withTearing_54 : decode cX11_withTearing 54 = .ok (.aload_n 0, 1) := by decide +kernel
theorem dX11_withTearing_55 : decode cX11_withTearing 55 = .ok (.iconst 0, 1) := by decide +kernel
theorem dX11_withTearing_56 : decode cX11_withTearing 56 = .ok (.iconst 3, 1) := by decide +kernel
theorem dX11_withTearing_57 : decode cX11_withTearing 57 = .ok (.iconst 1, 1) := by decide +kernel
theorem dX11_withTearing_58 : decode cX11_withTearing 58 = .ok (.iconst 0, 1) := by decide +kernel
theorem dX11_withTearing_59 : decode cX11_withTearing 59 = .ok (.invokevirtual 434, 3) := by decide +kernel
theorem dX11_withTearing_62 : decode cX11_withTearing 62 = .ok (.ladd, 1) := by decide +kernel
theorem dX11_withTearing_63 : decode cX11_withTearing 63 = .ok (.lstore_n 3, 1) := by decide +kernel
theorem dX11_withTearing_64 : decode cX11_withTearing 64 = .ok (.ldc2_w 371, 3) := by decide +kernel
theorem dX11_withTearing_67 : decode cX11_withTearing 67 = .ok (.lload_n 3, 1) := by decide +kernel
theorem dX11_withTearing_68 : decode cX11_withTearing 68 = .ok (.lmul, 1) := by decide +kernel
theorem dX11_withTearing_69 : decode cX11_withTearing 69 = .ok (.aload_n 0, 1) := by decide +kernel
theorem dX11_withTearing_70 : decode cX11_withTearing 70 = .ok (.iconst 0, 1) := by decide +kernel
theorem dX11_withTearing_71 : decode cX11_withTearing 71 = .ok (.iconst 3, 1) := by decide +kernel
theorem dX11_withTearing_72 : decode cX11_withTearing 72 = .ok (.iconst 1, 1) := by decide +kernel
theorem dX11_withTearing_73 : decode cX11_withTearing 73 = .ok (.iconst 1, 1) := by decide +kernel
theorem dX11_withTearing_74 : decode cX11_withTearing 74 = .ok (.invokevirtual 434, 3) := by decide +kernel
theorem dX11_withTearing_77 : decode cX11_withTearing 77 = .ok (.ladd, 1) := by decide +kernel
theorem dX11_withTearing_78 : decode cX11_withTearing 78 = .ok (.lstore_n 3, 1) := by decide +kernel
theorem dX11_withTearing_79 : decode cX11_withTearing 79 = .ok (.ldc2_w 371, 3) := by decide +kernel
theorem dX11_withTearing_82 : decode cX11_withTearing 82 = .ok (.lload_n 3, 1) := by decide +kernel
theorem dX11_withTearing_83 : decode cX11_withTearing 83 = .ok (.lmul, 1) := by decide +kernel
theorem dX11_withTearing_84 : decode cX11_withTearing 84 = .ok (.aload_n 0, 1) := by decide +kernel
theorem dX11_withTearing_85 : decode cX11_withTearing 85 = .ok (.iconst 0, 1) := by decide +kernel
theorem dX11_withTearing_86 : decode cX11_withTearing 86 = .ok (.iconst 4, 1) := by decide +kernel
theorem dX11_withTearing_87 : decode cX11_withTearing 87 = .ok (.invokevirtual 437, 3) := by decide +kernel
theorem dX11_withTearing_90 : decode cX11_withTearing 90 = .ok (.i2l, 1) := by decide +kernel
theorem dX11_withTearing_91 : decode cX11_withTearing 91 = .ok (.ladd, 1) := by decide +kernel
theorem dX11_withTearing_92 : decode cX11_withTearing 92 = .ok (.lreturn, 1) := by decide +kernel
theorem dX11_withSeeking_0 : decode cX11_withSeeking 0 = .ok (.lload_n 1, 1) := by decide +kernel
theorem dX11_withSeeking_1 : decode cX11_withSeeking 1 = .ok (.lstore_n 3, 1) := by decide +kernel
theorem dX11_withSeeking_2 : decode cX11_withSeeking 2 = .ok (.iconst 0, 1) := by decide +kernel
theorem dX11_withSeeking_3 : decode cX11_withSeeking 3 = .ok (.istore 5, 2) := by decide +kernel
theorem dX11_withSeeking_5 : decode cX11_withSeeking 5 = .ok (.iload 5, 2) := by decide +kernel
theorem dX11_withSeeking_7 : decode cX11_withSeeking 7 = .ok (.iconst 2, 1) := by decide +kernel
theorem dX11_withSeeking_8 : decode cX11_withSeeking 8 = .ok (.if_icmp .gt 24, 3) := by decide +kernel
theorem dX11_withSeeking_11 : decode cX11_withSeeking 11 = .ok (.ldc2_w 371, 3) := by decide +kernel
theorem dX11_withSeeking_14 : decode cX11_withSeeking 14 = .ok (.lload_n 3, 1) := by decide +kernel
theorem dX11_withSeeking_15 : decode cX11_withSeeking 15 = .ok (.lmul, 1) := by decide +kernel
theorem dX11_withSeeking_16 : decode cX11_withSeeking 16 = .ok (.aload_n 0, 1) := by decide +kernel
theorem dX11_withSeeking_17 : decode cX11_withSeeking 17 = .ok (.iconst 0, 1) := by decide +kernel
theorem dX11_withSeeking_18 : decode cX11_withSeeking 18 = .ok (.iconst 1, 1) := by decide +kernel
theorem dX11_withSeeking_19 : decode cX11_withSeeking 19 = .ok (.iload 5, 2) := by decide +kernel
theorem dX11_withSeeking_21 : decode cX11_withSeeking 21 = .ok (.invokevirtual 440, 3) := by decide +kernel
theorem dX11_withSeeking_24 : decode cX11_withSeeking 24 = .ok (.ladd, 1) := by decide +kernel
theorem dX11_withSeeking_25 : decode cX11_withSeeking 25 = .ok (.lstore_n 3, 1) := by decide +kernel
theorem dX11_withSeeking_26 : decode cX11_withSeeking 26 = .ok (.iinc 5 1, 3) := by decide +kernel
theorem dX11_withSeeking_29 : decode cX11_withSeeking 29 = .ok (.goto (-24), 3) := by decide +kernel
theorem dX11_withSeeking_32 : decode cX11_withSeeking 32 = .ok (.ldc2_w 371, 3) := by decide +kernel
theorem dX11_withSeeking_35 : decode cX11_withSeeking 35 = .ok (.lload_n 3, 1) := by decide +kernel
theorem dX11_withSeeking_36 : decode cX11_withSeeking 36 = .ok (.lmul, 1) := by decide +kernel
theorem dX11_withSeeking_37 : decode cX11_withSeeking 37 = .ok (.aload_n 0, 1) := by decide +kernel
theorem dX11_withSeeking_38 : decode cX11_withSeeking 38 = .ok (.bipush 7, 2) := by decide +kernel
theorem dX11_withSeeking_40 : decode cX11_withSeeking 40 = .ok (.iconst 0, 1) := by decide +kernel
theorem dX11_withSeeking_41 : decode cX11_withSeeking 41 = .ok (.invokevirtual 444, 3) := by decide +kernel
theorem dX11_withSeeking_44 : decode cX11_withSeeking 44 = .ok (.i2l, 1) := by decide +kernel
theorem dX11_withSeeking_45 : decode cX11_withSeeking 45 = .ok (.ladd, 1) := by decide +kernel
theorem dX11_withSeeking_46 : decode cX11_withSeeking 46 = .ok (.lstore_n 3, 1) := by decide +kernel
theorem dX11_withSeeking_47 : decode cX11_withSeeking 47 = .ok (.ldc2_w 371, 3) := by decide +kernel
theorem dX11_withSeeking_50 : decode cX11_withSeeking 50 = .ok (.lload_n 3, 1) := by decide +kernel
theorem dX11_withSeeking_51 : decode cX11_withSeeking 51 = .ok (.lmul, 1) := by decide +kernel
theorem dX11_withSeeking_52 : decode cX11_withSeeking 52 = .ok (.aload_n 0, 1) := by decide +kernel
theorem dX11_withSeeking_53 : decode cX11_withSeeking 53 = .ok (.bipush 7, 2) := by decide +kernel
theorem dX11_withSeeking_55 : decode cX11_withSeeking 55 = .ok (.iconst 1, 1) := by decide +kernel
theorem dX11_withSeeking_56 : decode cX11_withSeeking 56 = .ok (.invokevirtual 444, 3) := by decide +kernel
theorem dX11_withSeeking_59 : decode cX11_withSeeking 59 = .ok (.i2l, 1) := by decide +kernel
theorem dX11_withSeeking_60 : decode cX11_withSeeking 60 = .ok (.ladd, 1) := by decide +kernel
theorem dX11_withSeeking_61 : decode cX11_withSeeking 61 = .ok (.lstore_n 3, 1) := by decide +kernel
theorem dX11_withSeeking_62 : decode cX11_withSeeking 62 = .ok (.ldc2_w 371, 3) := by decide +kernel
theorem dX11_withSeeking_65 : decode cX11_withSeeking 65 = .ok (.lload_n 3, 1) := by decide +kernel
theorem dX11_withSeeking_66 : decode cX11_withSeeking 66 = .ok (.lmul, 1) := by decide +kernel
theorem dX11_withSeeking_67 : decode cX11_withSeeking 67 = .ok (.aload_n 0, 1) := by decide +kernel
theorem dX11_withSeeking_68 : decode cX11_withSeeking 68 = .ok (.bipush 60, 2) := by decide +kernel
theorem dX11_withSeeking_70 : decode cX11_withSeeking 70 = .ok (.iconst 3, 1) := by decide +kernel
theorem dX11_withSeeking_71 : decode cX11_withSeeking 71 = .ok (.iconst 2, 1) := by decide +kernel
theorem dX11_withSeeking_72 : decode cX11_withSeeking 72 = .ok (.invokevirtual 447, 3) := by decide +kernel
theorem dX11_withSeeking_75 : decode cX11_withSeeking 75 = .ok (.i2l, 1) := by decide +kernel
theorem dX11_withSeeking_76 : decode cX11_withSeeking 76 = .ok (.ladd, 1) := by decide +kernel
theorem dX11_withSeeking_77 : decode cX11_withSeeking 77 = .ok (.lreturn, 1) := by decide +kernel
theorem dX11_textOf_0 : decode cX11_textOf 0 = .ok (.iload_n 1, 1) := by decide +kernel
theorem dX11_textOf_1 : decode cX11_textOf 1 = .ok (.tableswitch 42 0 2 #[27, 32, 37], 27) := by decide +kernel
theorem dX11_textOf_28 : decode cX11_textOf 28 = .ok (.aload_n 0, 1) := by decide +kernel
theorem dX11_textOf_29 : decode cX11_textOf 29 = .ok (.getfield 14, 3) := by decide +kernel
theorem dX11_textOf_32 : decode cX11_textOf 32 = .ok (.areturn, 1) := by decide +kernel
theorem dX11_textOf_33 : decode cX11_textOf 33 = .ok (.aload_n 0, 1) := by decide +kernel
theorem dX11_textOf_34 : decode cX11_textOf 34 = .ok (.getfield 18, 3) := by decide +kernel
theorem dX11_textOf_37 : decode cX11_textOf 37 = .ok (.areturn, 1) := by decide +kernel
theorem dX11_textOf_38 : decode cX11_textOf 38 = .ok (.aload_n 0, 1) := by decide +kernel
theorem dX11_textOf_39 : decode cX11_textOf 39 = .ok (.getfield 21, 3) := by decide +kernel
theorem dX11_textOf_42 : decode cX11_textOf 42 = .ok (.areturn, 1) := by decide +kernel
theorem dX11_textOf_43 : decode cX11_textOf 43 = .ok (.aconst_null, 1) := by decide +kernel
theorem dX11_textOf_44 : decode cX11_textOf 44 = .ok (.areturn, 1) := by decide +kernel
theorem dX11_reread_0 : decode cX11_reread 0 = .ok (.iload_n 1, 1) := by decide +kernel
theorem dX11_reread_1 : decode cX11_reread 1 = .ok (.ifCond .ne 35, 3) := by decide +kernel
theorem dX11_reread_4 : decode cX11_reread 4 = .ok (.aload_n 0, 1) := by decide +kernel
theorem dX11_reread_5 : decode cX11_reread 5 = .ok (.getfield 14, 3) := by decide +kernel
theorem dX11_reread_8 : decode cX11_reread 8 = .ok (.aload_n 0, 1) := by decide +kernel
theorem dX11_reread_9 : decode cX11_reread 9 = .ok (.getfield 27, 3) := by decide +kernel
theorem dX11_reread_12 : decode cX11_reread 12 = .ok (.aload_n 0, 1) := by decide +kernel
theorem dX11_reread_13 : decode cX11_reread 13 = .ok (.getfield 14, 3) := by decide +kernel
theorem dX11_reread_16 : decode cX11_reread 16 = .ok (.invokevirtual 450, 3) := by decide +kernel
theorem dX11_reread_19 : decode cX11_reread 19 = .ok (.putfield 120, 3) := by decide +kernel
theorem dX11_reread_22 : decode cX11_reread 22 = .ok (.aload_n 0, 1) := by decide +kernel
theorem dX11_reread_23 : decode cX11_reread 23 = .ok (.getfield 57, 3) := by decide +kernel
theorem dX11_reread_26 : decode cX11_reread 26 = .ok (.aload_n 0, 1) := by decide +kernel
theorem dX11_reread_27 : decode cX11_reread 27 = .ok (.getfield 27, 3) := by decide +kernel
theorem dX11_reread_30 : decode cX11_reread 30 = .ok (.invokevirtual 126, 3) := by decide +kernel
theorem dX11_reread_33 : decode cX11_reread 33 = .ok (.goto 58, 3) := by decide +kernel
theorem dX11_reread_36 : decode cX11_reread 36 = .ok (.iload_n 1, 1) := by decide +kernel
theorem dX11_reread_37 : decode cX11_reread 37 = .ok (.iconst 1, 1) := by decide +kernel
theorem dX11_reread_38 : decode cX11_reread 38 = .ok (.if_icmp .ne 24, 3) := by decide +kernel
theorem dX11_reread_41 : decode cX11_reread 41 = .ok (.aload_n 0, 1) := by decide +kernel
theorem dX11_reread_42 : decode cX11_reread 42 = .ok (.getfield 18, 3) := by decide +kernel
theorem dX11_reread_45 : decode cX11_reread 45 = .ok (.aload_n 0, 1) := by decide +kernel
theorem dX11_reread_46 : decode cX11_reread 46 = .ok (.getfield 50, 3) := by decide +kernel
theorem dX11_reread_49 : decode cX11_reread 49 = .ok (.aload_n 0, 1) := by decide +kernel
theorem dX11_reread_50 : decode cX11_reread 50 = .ok (.getfield 18, 3) := by decide +kernel
theorem dX11_reread_53 : decode cX11_reread 53 = .ok (.invokevirtual 454, 3) := by decide +kernel
theorem dX11_reread_56 : decode cX11_reread 56 = .ok (.putfield 120, 3) := by decide +kernel
theorem dX11_reread_59 : decode cX11_reread 59 = .ok (.goto 32, 3) := by decide +kernel
theorem dX11_reread_62 : decode cX11_reread 62 = .ok (.aload_n 0, 1) := by decide +kernel
theorem dX11_reread_63 : decode cX11_reread 63 = .ok (.getfield 21, 3) := by decide +kernel
theorem dX11_reread_66 : decode cX11_reread 66 = .ok (.aload_n 0, 1) := by decide +kernel
theorem dX11_reread_67 : decode cX11_reread 67 = .ok (.getfield 57, 3) := by decide +kernel
theorem dX11_reread_70 : decode cX11_reread 70 = .ok (.aload_n 0, 1) := by decide +kernel
theorem dX11_reread_71 : decode cX11_reread 71 = .ok (.getfield 21, 3) := by decide +kernel
theorem dX11_reread_74 : decode cX11_reread 74 = .ok (.invokevirtual 455, 3) := by decide +kernel
theorem dX11_reread_77 : decode cX11_reread 77 = .ok (.putfield 120, 3) := by decide +kernel
theorem dX11_reread_80 : decode cX11_reread 80 = .ok (.aload_n 0, 1) := by decide +kernel
theorem dX11_reread_81 : decode cX11_reread 81 = .ok (.getfield 57, 3) := by decide +kernel
theorem dX11_reread_84 : decode cX11_reread 84 = .ok (.aload_n 0, 1) := by decide +kernel
theorem dX11_reread_85 : decode cX11_reread 85 = .ok (.getfield 27, 3) := by decide +kernel
theorem dX11_reread_88 : decode cX11_reread 88 = .ok (.invokevirtual 126, 3) := by decide +kernel
theorem dX11_reread_91 : decode cX11_reread 91 = .ok (.return_, 1) := by decide +kernel
theorem dX11_sheetOf_0 : decode cX11_sheetOf 0 = .ok (.iload_n 1, 1) := by decide +kernel
theorem dX11_sheetOf_1 : decode cX11_sheetOf 1 = .ok (.ifCond .lt 17, 3) := by decide +kernel
theorem dX11_sheetOf_4 : decode cX11_sheetOf 4 = .ok (.iload_n 1, 1) := by decide +kernel
theorem dX11_sheetOf_5 : decode cX11_sheetOf 5 = .ok (.iconst 4, 1) := by decide +kernel
theorem dX11_sheetOf_6 : decode cX11_sheetOf 6 = .ok (.if_icmp .ge 12, 3) := by decide +kernel
theorem dX11_sheetOf_9 : decode cX11_sheetOf 9 = .ok (.aload_n 0, 1) := by decide +kernel
theorem dX11_sheetOf_10 : decode cX11_sheetOf 10 = .ok (.getfield 93, 3) := by decide +kernel
theorem dX11_sheetOf_13 : decode cX11_sheetOf 13 = .ok (.iload_n 1, 1) := by decide +kernel
theorem dX11_sheetOf_14 : decode cX11_sheetOf 14 = .ok (.aaload, 1) := by decide +kernel
theorem dX11_sheetOf_15 : decode cX11_sheetOf 15 = .ok (.goto 4, 3) := by decide +kernel
theorem dX11_sheetOf_18 : decode cX11_sheetOf 18 = .ok (.aconst_null, 1) := by decide +kernel
theorem dX11_sheetOf_19 : decode cX11_sheetOf 19 = .ok (.areturn, 1) := by decide +kernel
theorem dX11_found_0 : decode cX11_found 0 = .ok (.aload_n 0, 1) := by decide +kernel
theorem dX11_found_1 : decode cX11_found 1 = .ok (.iload_n 1, 1) := by decide +kernel
theorem dX11_found_2 : decode cX11_found 2 = .ok (.putfield 348, 3) := by decide +kernel
theorem dX11_found_5 : decode cX11_found 5 = .ok (.bipush (-10), 2) := by decide +kernel
theorem dX11_found_7 : decode cX11_found 7 = .ok (.iload_n 1, 1) := by decide +kernel
theorem dX11_found_8 : decode cX11_found 8 = .ok (.isub, 1) := by decide +kernel
theorem dX11_found_9 : decode cX11_found 9 = .ok (.ireturn, 1) := by decide +kernel
theorem dX11_densityOfStep_0 : decode cX11_densityOfStep 0 = .ok (.aload_n 0, 1) := by decide +kernel
theorem dX11_densityOfStep_1 : decode cX11_densityOfStep 1 = .ok (.getfield 27, 3) := by decide +kernel
theorem dX11_densityOfStep_4 : decode cX11_densityOfStep 4 = .ok (.aload_n 0, 1) := by decide +kernel
theorem dX11_densityOfStep_5 : decode cX11_densityOfStep 5 = .ok (.getfield 57, 3) := by decide +kernel
theorem dX11_densityOfStep_8 : decode cX11_densityOfStep 8 = .ok (.iload_n 1, 1) := by decide +kernel
theorem dX11_densityOfStep_9 : decode cX11_densityOfStep 9 = .ok (.iconst 1, 1) := by decide +kernel
theorem dX11_densityOfStep_10 : decode cX11_densityOfStep 10 = .ok (.iadd, 1) := by decide +kernel
theorem dX11_densityOfStep_11 : decode cX11_densityOfStep 11 = .ok (.invokevirtual 186, 3) := by decide +kernel
theorem dX11_densityOfStep_14 : decode cX11_densityOfStep 14 = .ok (.invokevirtual 179, 3) := by decide +kernel
theorem dX11_densityOfStep_17 : decode cX11_densityOfStep 17 = .ok (.ireturn, 1) := by decide +kernel
theorem dX11_goThroughFair_0 : decode cX11_goThroughFair 0 = .ok (.aload_n 0, 1) := by decide +kernel
theorem dX11_goThroughFair_1 : decode cX11_goThroughFair 1 = .ok (.getfield 64, 3) := by decide +kernel
theorem dX11_goThroughFair_4 : decode cX11_goThroughFair 4 = .ok (.invokevirtual 456, 3) := by decide +kernel
theorem dX11_goThroughFair_7 : decode cX11_goThroughFair 7 = .ok (.iconst 0, 1) := by decide +kernel
theorem dX11_goThroughFair_8 : decode cX11_goThroughFair 8 = .ok (.istore_n 1, 1) := by decide +kernel
theorem dX11_goThroughFair_9 : decode cX11_goThroughFair 9 = .ok (.iload_n 1, 1) := by decide +kernel
theorem dX11_goThroughFair_10 : decode cX11_goThroughFair 10 = .ok (.aload_n 0, 1) := by decide +kernel
theorem dX11_goThroughFair_11 : decode cX11_goThroughFair 11 = .ok (.getfield 57, 3) := by decide +kernel
theorem dX11_goThroughFair_14 : decode cX11_goThroughFair 14 = .ok (.getfield 182, 3) := by decide +kernel
theorem dX11_goThroughFair_17 : decode cX11_goThroughFair 17 = .ok (.if_icmp .ge 26, 3) := by decide +kernel
theorem dX11_goThroughFair_20 : decode cX11_goThroughFair 20 = .ok (.aload_n 0, 1) := by decide +kernel
theorem dX11_goThroughFair_21 : decode cX11_goThroughFair 21 = .ok (.getfield 64, 3) := by decide +kernel
theorem dX11_goThroughFair_24 : decode cX11_goThroughFair 24 = .ok (.iload_n 1, 1) := by decide +kernel
theorem dX11_goThroughFair_25 : decode cX11_goThroughFair 25 = .ok (.aload_n 0, 1) := by decide +kernel
theorem dX11_goThroughFair_26 : decode cX11_goThroughFair 26 = .ok (.iload_n 1, 1) := by decide +kernel
theorem dX11_goThroughFair_27 : decode cX11_goThroughFair 27 = .ok (.invokevirtual 214, 3) := by decide +kernel
theorem dX11_goThroughFair_30 : decode cX11_goThroughFair 30 = .ok (.aload_n 0, 1) := by decide +kernel
theorem dX11_goThroughFair_31 : decode cX11_goThroughFair 31 = .ok (.getfield 50, 3) := by decide +kernel
theorem dX11_goThroughFair_34 : decode cX11_goThroughFair 34 = .ok (.invokevirtual 459, 3) := by decide +kernel
theorem dX11_goThroughFair_37 : decode cX11_goThroughFair 37 = .ok (.iinc 1 1, 3) := by decide +kernel
theorem dX11_goThroughFair_40 : decode cX11_goThroughFair 40 = .ok (.goto (-31), 3) := by decide +kernel
theorem dX11_goThroughFair_43 : decode cX11_goThroughFair 43 = .ok (.return_, 1) := by decide +kernel
theorem dX11_loseFrom_0 : decode cX11_loseFrom 0 = .ok (.aload_n 0, 1) := by decide +kernel
theorem dX11_loseFrom_1 : decode cX11_loseFrom 1 = .ok (.getfield 73, 3) := by decide +kernel
theorem dX11_loseFrom_4 : decode cX11_loseFrom 4 = .ok (.iload_n 1, 1) := by decide +kernel
theorem dX11_loseFrom_5 : decode cX11_loseFrom 5 = .ok (.invokevirtual 463, 3) := by decide +kernel
theorem dX11_loseFrom_8 : decode cX11_loseFrom 8 = .ok (.aload_n 0, 1) := by decide +kernel
theorem dX11_loseFrom_9 : decode cX11_loseFrom 9 = .ok (.getfield 132, 3) := by decide +kernel
theorem dX11_loseFrom_12 : decode cX11_loseFrom 12 = .ok (.iconst 2, 1) := by decide +kernel
theorem dX11_loseFrom_13 : decode cX11_loseFrom 13 = .ok (.if_icmp .ne 14, 3) := by decide +kernel
theorem dX11_loseFrom_16 : decode cX11_loseFrom 16 = .ok (.aload_n 0, 1) := by decide +kernel
theorem dX11_loseFrom_17 : decode cX11_loseFrom 17 = .ok (.getfield 36, 3) := by decide +kernel
theorem dX11_loseFrom_20 : decode cX11_loseFrom 20 = .ok (.aload_n 0, 1) := by decide +kernel
theorem dX11_loseFrom_21 : decode cX11_loseFrom 21 = .ok (.getfield 129, 3) := by decide +kernel
theorem dX11_loseFrom_24 : decode cX11_loseFrom 24 = .ok (.invokevirtual 189, 3) := by decide +kernel
theorem dX11_loseFrom_27 : decode cX11_loseFrom 27 = .ok (.iconst 0, 1) := by decide +kernel
theorem dX11_loseFrom_28 : decode cX11_loseFrom 28 = .ok (.istore_n 3, 1) := by decide +kernel
theorem dX11_loseFrom_29 : decode cX11_loseFrom 29 = .ok (.iload_n 3, 1) := by decide +kernel
theorem dX11_loseFrom_30 : decode cX11_loseFrom 30 = .ok (.iload_n 2, 1) := by decide +kernel
theorem dX11_loseFrom_31 : decode cX11_loseFrom 31 = .ok (.if_icmp .ge 41, 3) := by decide +kernel
theorem dX11_loseFrom_34 : decode cX11_loseFrom 34 = .ok (.aload_n 0, 1) := by decide +kernel
theorem dX11_loseFrom_35 : decode cX11_loseFrom 35 = .ok (.getfield 132, 3) := by decide +kernel
theorem dX11_loseFrom_38 : decode cX11_loseFrom 38 = .ok (.ifCond .eq 34, 3) := by decide +kernel
theorem dX11_loseFrom_41 : decode cX11_loseFrom 41 = .ok (.aload_n 0, 1) := by decide +kernel
theorem dX11_loseFrom_42 : decode cX11_loseFrom 42 = .ok (.getfield 132, 3) := by decide +kernel
theorem dX11_loseFrom_45 : decode cX11_loseFrom 45 = .ok (.iconst 1, 1) := by decide +kernel
theorem dX11_loseFrom_46 : decode cX11_loseFrom 46 = .ok (.if_icmp .ne 13, 3) := by decide +kernel
theorem dX11_loseFrom_49 : decode cX11_loseFrom 49 = .ok (.aload_n 0, 1) := by decide +kernel
theorem dX11_loseFrom_50 : decode cX11_loseFrom 50 = .ok (.getfield 73, 3) := by decide +kernel
theorem dX11_loseFrom_53 : decode cX11_loseFrom 53 = .ok (.invokevirtual 466, 3) := by decide +kernel
theorem dX11_loseFrom_56 : decode cX11_loseFrom 56 = .ok (.goto 10, 3) := by decide +kernel
theorem dX11_loseFrom_59 : decode cX11_loseFrom 59 = .ok (.aload_n 0, 1) := by decide +kernel
theorem dX11_loseFrom_60 : decode cX11_loseFrom 60 = .ok (.getfield 73, 3) := by decide +kernel
theorem dX11_loseFrom_63 : decode cX11_loseFrom 63 = .ok (.invokevirtual 469, 3) := by decide +kernel
theorem dX11_loseFrom_66 : decode cX11_loseFrom 66 = .ok (.iinc 3 1, 3) := by decide +kernel
theorem dX11_loseFrom_69 : decode cX11_loseFrom 69 = .ok (.goto (-40), 3) := by decide +kernel
theorem dX11_loseFrom_72 : decode cX11_loseFrom 72 = .ok (.return_, 1) := by decide +kernel
theorem dX11_canSeek_0 : decode cX11_canSeek 0 = .ok (.aload_n 0, 1) := by decide +kernel
theorem dX11_canSeek_1 : decode cX11_canSeek 1 = .ok (.getfield 80, 3) := by decide +kernel
theorem dX11_canSeek_4 : decode cX11_canSeek 4 = .ok (.getfield 297, 3) := by decide +kernel
theorem dX11_canSeek_7 : decode cX11_canSeek 7 = .ok (.ifCond .ne 5, 3) := by decide +kernel
theorem dX11_canSeek_10 : decode cX11_canSeek 10 = .ok (.iconst 0, 1) := by decide +kernel
theorem dX11_canSeek_11 : decode cX11_canSeek 11 = .ok (.ireturn, 1) := by decide +kernel
theorem dX11_canSeek_12 : decode cX11_canSeek 12 = .ok (.aload_n 0, 1) := by decide +kernel
theorem dX11_canSeek_13 : decode cX11_canSeek 13 = .ok (.getfield 87, 3) := by decide +kernel
theorem dX11_canSeek_16 : decode cX11_canSeek 16 = .ok (.aload_n 0, 1) := by decide +kernel
theorem dX11_canSeek_17 : decode cX11_canSeek 17 = .ok (.getfield 80, 3) := by decide +kernel
theorem dX11_canSeek_20 : decode cX11_canSeek 20 = .ok (.invokevirtual 472, 3) := by decide +kernel
theorem dX11_canSeek_23 : decode cX11_canSeek 23 = .ok (.iconst 0, 1) := by decide +kernel
theorem dX11_canSeek_24 : decode cX11_canSeek 24 = .ok (.istore_n 3, 1) := by decide +kernel
theorem dX11_canSeek_25 : decode cX11_canSeek 25 = .ok (.iload_n 3, 1) := by decide +kernel
theorem dX11_canSeek_26 : decode cX11_canSeek 26 = .ok (.aload_n 0, 1) := by decide +kernel
theorem dX11_canSeek_27 : decode cX11_canSeek 27 = .ok (.getfield 80, 3) := by decide +kernel
theorem dX11_canSeek_30 : decode cX11_canSeek 30 = .ok (.getfield 297, 3) := by decide +kernel
theorem dX11_canSeek_33 : decode cX11_canSeek 33 = .ok (.if_icmp .ge 23, 3) := by decide +kernel
theorem dX11_canSeek_36 : decode cX11_canSeek 36 = .ok (.aload_n 0, 1) := by decide +kernel
theorem dX11_canSeek_37 : decode cX11_canSeek 37 = .ok (.iload_n 3, 1) := by decide +kernel
theorem dX11_canSeek_38 : decode cX11_canSeek 38 = .ok (.aload_n 0, 1) := by decide +kernel
theorem dX11_canSeek_39 : decode cX11_canSeek 39 = .ok (.getfield 80, 3) := by decide +kernel
theorem dX11_canSeek_42 : decode cX11_canSeek 42 = .ok (.iload_n 3, 1) := by decide +kernel
theorem dX11_canSeek_43 : decode cX11_canSeek 43 = .ok (.invokevirtual 476, 3) := by decide +kernel
theorem dX11_canSeek_46 : decode cX11_canSeek 46 = .ok (.invokevirtual 479, 3) := by decide +kernel
theorem dX11_canSeek_49 : decode cX11_canSeek 49 = .ok (.pop, 1) := by decide +kernel
theorem dX11_canSeek_50 : decode cX11_canSeek 50 = .ok (.iinc 3 1, 3) := by decide +kernel
theorem dX11_canSeek_53 : decode cX11_canSeek 53 = .ok (.goto (-28), 3) := by decide +kernel
theorem dX11_canSeek_56 : decode cX11_canSeek 56 = .ok (.aload_n 0, 1) := by decide +kernel
theorem dX11_canSeek_57 : decode cX11_canSeek 57 = .ok (.iconst 5, 1) := by decide +kernel
theorem dX11_canSeek_58 : decode cX11_canSeek 58 = .ok (.aload_n 0, 1) := by decide +kernel
theorem dX11_canSeek_59 : decode cX11_canSeek 59 = .ok (.getfield 50, 3) := by decide +kernel
theorem dX11_canSeek_62 : decode cX11_canSeek 62 = .ok (.iload_n 1, 1) := by decide +kernel
theorem dX11_canSeek_63 : decode cX11_canSeek 63 = .ok (.invokevirtual 322, 3) := by decide +kernel
theorem dX11_canSeek_66 : decode cX11_canSeek 66 = .ok (.invokevirtual 479, 3) := by decide +kernel
theorem dX11_canSeek_69 : decode cX11_canSeek 69 = .ok (.ifCond .eq 24, 3) := by decide +kernel
theorem dX11_canSeek_72 : decode cX11_canSeek 72 = .ok (.aload_n 0, 1) := by decide +kernel
theorem dX11_canSeek_73 : decode cX11_canSeek 73 = .ok (.bipush 6, 2) := by decide +kernel
theorem dX11_canSeek_75 : decode cX11_canSeek 75 = .ok (.aload_n 0, 1) := by decide +kernel
theorem dX11_canSeek_76 : decode cX11_canSeek 76 = .ok (.getfield 50, 3) := by decide +kernel
theorem dX11_canSeek_79 : decode cX11_canSeek 79 = .ok (.iload_n 2, 1) := by decide +kernel
theorem dX11_canSeek_80 : decode cX11_canSeek 80 = .ok (.invokevirtual 322, 3) := by decide +kernel
theorem dX11_canSeek_83 : decode cX11_canSeek 83 = .ok (.invokevirtual 479, 3) := by decide +kernel
theorem dX11_canSeek_86 : decode cX11_canSeek 86 = .ok (.ifCond .eq 7, 3) := by decide +kernel
theorem dX11_canSeek_89 : decode cX11_canSeek 89 = .ok (.iconst 1, 1) := by decide +kernel
theorem dX11_canSeek_90 : decode cX11_canSeek 90 = .ok (.goto 4, 3) := by decide +kernel
theorem dX11_canSeek_93 : decode cX11_canSeek 93 = .ok (.iconst 0, 1) := by decide +kernel
theorem dX11_canSeek_94 : decode cX11_canSeek 94 = .ok (.ireturn, 1) := by decide +kernel
theorem dX11_layLegs_0 : decode cX11_layLegs 0 = .ok (.iconst 1, 1) := by decide +kernel
theorem dX11_layLegs_1 : decode cX11_layLegs 1 = .ok (.istore_n 3, 1) := by decide +kernel
theorem dX11_layLegs_2 : decode cX11_layLegs 2 = .ok (.aload_n 0, 1) := by decide +kernel
theorem dX11_layLegs_3 : decode cX11_layLegs 3 = .ok (.getfield 36, 3) := by decide +kernel
theorem dX11_layLegs_6 : decode cX11_layLegs 6 = .ok (.iload_n 2, 1) := by decide +kernel
theorem dX11_layLegs_7 : decode cX11_layLegs 7 = .ok (.invokevirtual 189, 3) := by decide +kernel
theorem dX11_layLegs_10 : decode cX11_layLegs 10 = .ok (.iconst 0, 1) := by decide +kernel
theorem dX11_layLegs_11 : decode cX11_layLegs 11 = .ok (.istore 4, 2) := by decide +kernel
theorem dX11_layLegs_13 : decode cX11_layLegs 13 = .ok (.iload 4, 2) := by decide +kernel
theorem dX11_layLegs_15 : decode cX11_layLegs 15 = .ok (.aload_n 0, 1) := by decide +kernel
theorem dX11_layLegs_16 : decode cX11_layLegs 16 = .ok (.getfield 80, 3) := by decide +kernel
theorem dX11_layLegs_19 : decode cX11_layLegs 19 = .ok (.getfield 297, 3) := by decide +kernel
theorem dX11_layLegs_22 : decode cX11_layLegs 22 = .ok (.if_icmp .ge 55, 3) := by decide +kernel
theorem dX11_layLegs_25 : decode cX11_layLegs 25 = .ok (.aload_n 0, 1) := by decide +kernel
theorem dX11_layLegs_26 : decode cX11_layLegs 26 = .ok (.getfield 36, 3) := by decide +kernel
theorem dX11_layLegs_29 : decode cX11_layLegs 29 = .ok (.aload_n 0, 1) := by decide +kernel
theorem dX11_layLegs_30 : decode cX11_layLegs 30 = .ok (.getfield 80, 3) := by decide +kernel
theorem dX11_layLegs_33 : decode cX11_layLegs 33 = .ok (.iload 4, 2) := by decide +kernel
theorem dX11_layLegs_35 : decode cX11_layLegs 35 = .ok (.invokevirtual 476, 3) := by decide +kernel
theorem dX11_layLegs_38 : decode cX11_layLegs 38 = .ok (.invokevirtual 192, 3) := by decide +kernel
theorem dX11_layLegs_41 : decode cX11_layLegs 41 = .ok (.istore 5, 2) := by decide +kernel
theorem dX11_layLegs_43 : decode cX11_layLegs 43 = .ok (.aload_n 0, 1) := by decide +kernel
theorem dX11_layLegs_44 : decode cX11_layLegs 44 = .ok (.getfield 87, 3) := by decide +kernel
theorem dX11_layLegs_47 : decode cX11_layLegs 47 = .ok (.iload_n 1, 1) := by decide +kernel
theorem dX11_layLegs_48 : decode cX11_layLegs 48 = .ok (.iload 4, 2) := by decide +kernel
theorem dX11_layLegs_50 : decode cX11_layLegs 50 = .ok (.iload 5, 2) := by decide +kernel
theorem dX11_layLegs_52 : decode cX11_layLegs 52 = .ok (.invokevirtual 482, 3) := by decide +kernel
theorem dX11_layLegs_55 : decode cX11_layLegs 55 = .ok (.iload_n 3, 1) := by decide +kernel
theorem dX11_layLegs_56 : decode cX11_layLegs 56 = .ok (.ifCond .eq 13, 3) := by decide +kernel
theorem dX11_layLegs_59 : decode cX11_layLegs 59 = .ok (.iload 5, 2) := by decide +kernel
theorem dX11_layLegs_61 : decode cX11_layLegs 61 = .ok (.iconst (-1), 1) := by decide +kernel
theorem dX11_layLegs_62 : decode cX11_layLegs 62 = .ok (.if_icmp .eq 7, 3) := by decide +kernel
theorem dX11_layLegs_65 : decode cX11_layLegs 65 = .ok (.iconst 1, 1) := by decide +kernel
theorem dX11_layLegs_66 : decode cX11_layLegs 66 = .ok (.goto 4, 3) := by decide +kernel
theorem dX11_layLegs_69 : decode cX11_layLegs 69 = .ok (.iconst 0, 1) := by decide +kernel
theorem dX11_layLegs_70 : decode cX11_layLegs 70 = .ok (.istore_n 3, 1) := by decide +kernel
theorem dX11_layLegs_71 : decode cX11_layLegs 71 = .ok (.iinc 4 1, 3) := by decide +kernel
theorem dX11_layLegs_74 : decode cX11_layLegs 74 = .ok (.goto (-61), 3) := by decide +kernel
theorem dX11_layLegs_77 : decode cX11_layLegs 77 = .ok (.iload_n 3, 1) := by decide +kernel
theorem dX11_layLegs_78 : decode cX11_layLegs 78 = .ok (.ireturn, 1) := by decide +kernel
theorem dX11_comeFrom_0 : decode cX11_comeFrom 0 = .ok (.aload_n 0, 1) := by decide +kernel
theorem dX11_comeFrom_1 : decode cX11_comeFrom 1 = .ok (.getfield 36, 3) := by decide +kernel
theorem dX11_comeFrom_4 : decode cX11_comeFrom 4 = .ok (.iload_n 1, 1) := by decide +kernel
theorem dX11_comeFrom_5 : decode cX11_comeFrom 5 = .ok (.invokevirtual 189, 3) := by decide +kernel
theorem dX11_comeFrom_8 : decode cX11_comeFrom 8 = .ok (.iconst 0, 1) := by decide +kernel
theorem dX11_comeFrom_9 : decode cX11_comeFrom 9 = .ok (.istore_n 2, 1) := by decide +kernel
theorem dX11_comeFrom_10 : decode cX11_comeFrom 10 = .ok (.iload_n 2, 1) := by decide +kernel
theorem dX11_comeFrom_11 : decode cX11_comeFrom 11 = .ok (.bipush 64, 2) := by decide +kernel
theorem dX11_comeFrom_13 : decode cX11_comeFrom 13 = .ok (.if_icmp .ge 65, 3) := by decide +kernel
theorem dX11_comeFrom_16 : decode cX11_comeFrom 16 = .ok (.aload_n 0, 1) := by decide +kernel
theorem dX11_comeFrom_17 : decode cX11_comeFrom 17 = .ok (.getfield 36, 3) := by decide +kernel
theorem dX11_comeFrom_20 : decode cX11_comeFrom 20 = .ok (.iload_n 2, 1) := by decide +kernel
theorem dX11_comeFrom_21 : decode cX11_comeFrom 21 = .ok (.invokevirtual 192, 3) := by decide +kernel
theorem dX11_comeFrom_24 : decode cX11_comeFrom 24 = .ok (.istore_n 3, 1) := by decide +kernel
theorem dX11_comeFrom_25 : decode cX11_comeFrom 25 = .ok (.iload_n 3, 1) := by decide +kernel
theorem dX11_comeFrom_26 : decode cX11_comeFrom 26 = .ok (.iconst (-1), 1) := by decide +kernel
theorem dX11_comeFrom_27 : decode cX11_comeFrom 27 = .ok (.if_icmp .eq 13, 3) := by decide +kernel
theorem dX11_comeFrom_30 : decode cX11_comeFrom 30 = .ok (.aload_n 0, 1) := by decide +kernel
theorem dX11_comeFrom_31 : decode cX11_comeFrom 31 = .ok (.getfield 98, 3) := by decide +kernel
theorem dX11_comeFrom_34 : decode cX11_comeFrom 34 = .ok (.iload_n 2, 1) := by decide +kernel
theorem dX11_comeFrom_35 : decode cX11_comeFrom 35 = .ok (.iaload, 1) := by decide +kernel
theorem dX11_comeFrom_36 : decode cX11_comeFrom 36 = .ok (.iconst (-1), 1) := by decide +kernel
theorem dX11_comeFrom_37 : decode cX11_comeFrom 37 = .ok (.if_icmp .ne 7, 3) := by decide +kernel
theorem dX11_comeFrom_40 : decode cX11_comeFrom 40 = .ok (.iconst 1, 1) := by decide +kernel
theorem dX11_comeFrom_41 : decode cX11_comeFrom 41 = .ok (.goto 4, 3) := by decide +kernel
theorem dX11_comeFrom_44 : decode cX11_comeFrom 44 = .ok (.iconst 0, 1) := by decide +kernel
theorem dX11_comeFrom_45 : decode cX11_comeFrom 45 = .ok (.istore 4, 2) := by decide +kernel
theorem dX11_comeFrom_47 : decode cX11_comeFrom 47 = .ok (.aload_n 0, 1) := by decide +kernel
theorem dX11_comeFrom_48 : decode cX11_comeFrom 48 = .ok (.getfield 98, 3) := by decide +kernel
theorem dX11_comeFrom_51 : decode cX11_comeFrom 51 = .ok (.iload_n 2, 1) := by decide +kernel
theorem dX11_comeFrom_52 : decode cX11_comeFrom 52 = .ok (.iload 4, 2) := by decide +kernel
theorem dX11_comeFrom_54 : decode cX11_comeFrom 54 = .ok (.ifCond .eq 7, 3) := by decide +kernel
theorem dX11_comeFrom_57 : decode cX11_comeFrom 57 = .ok (.iconst (-1), 1) := by decide +kernel
theorem dX11_comeFrom_58 : decode cX11_comeFrom 58 = .ok (.goto 13, 3) := by decide +kernel
theorem dX11_comeFrom_61 : decode cX11_comeFrom 61 = .ok (.aload_n 0, 1) := by decide +kernel
theorem dX11_comeFrom_62 : decode cX11_comeFrom 62 = .ok (.getfield 98, 3) := by decide +kernel
theorem dX11_comeFrom_65 : decode cX11_comeFrom 65 = .ok (.iload_n 2, 1) := by decide +kernel
theorem dX11_comeFrom_66 : decode cX11_comeFrom 66 = .ok (.iaload, 1) := by decide +kernel
theorem dX11_comeFrom_67 : decode cX11_comeFrom 67 = .ok (.iload_n 3, 1) := by decide +kernel
theorem dX11_comeFrom_68 : decode cX11_comeFrom 68 = .ok (.invokestatic 485, 3) := by decide +kernel
theorem dX11_comeFrom_71 : decode cX11_comeFrom 71 = .ok (.iastore, 1) := by decide +kernel
theorem dX11_comeFrom_72 : decode cX11_comeFrom 72 = .ok (.iinc 2 1, 3) := by decide +kernel
theorem dX11_comeFrom_75 : decode cX11_comeFrom 75 = .ok (.goto (-65), 3) := by decide +kernel
theorem dX11_comeFrom_78 : decode cX11_comeFrom 78 = .ok (.return_, 1) := by decide +kernel
theorem dX11_leastFar_0 : decode cX11_leastFar 0 = .ok (.iconst (-1), 1) := by decide +kernel
theorem dX11_leastFar_1 : decode cX11_leastFar 1 = .ok (.istore_n 1, 1) := by decide +kernel
theorem dX11_leastFar_2 : decode cX11_leastFar 2 = .ok (.iconst 0, 1) := by decide +kernel
theorem dX11_leastFar_3 : decode cX11_leastFar 3 = .ok (.istore_n 2, 1) := by decide +kernel
theorem dX11_leastFar_4 : decode cX11_leastFar 4 = .ok (.iload_n 2, 1) := by decide +kernel
theorem dX11_leastFar_5 : decode cX11_leastFar 5 = .ok (.bipush 64, 2) := by decide +kernel
theorem dX11_leastFar_7 : decode cX11_leastFar 7 = .ok (.if_icmp .ge 41, 3) := by decide +kernel
theorem dX11_leastFar_10 : decode cX11_leastFar 10 = .ok (.aload_n 0, 1) := by decide +kernel
theorem dX11_leastFar_11 : decode cX11_leastFar 11 = .ok (.getfield 98, 3) := by decide +kernel
theorem dX11_leastFar_14 : decode cX11_leastFar 14 = .ok (.iload_n 2, 1) := by decide +kernel
theorem dX11_leastFar_15 : decode cX11_leastFar 15 = .ok (.iaload, 1) := by decide +kernel
theorem dX11_leastFar_16 : decode cX11_leastFar 16 = .ok (.iconst (-1), 1) := by decide +kernel
theorem dX11_leastFar_17 : decode cX11_leastFar 17 = .ok (.if_icmp .eq 25, 3) := by decide +kernel
theorem dX11_leastFar_20 : decode cX11_leastFar 20 = .ok (.iload_n 1, 1) := by decide +kernel
theorem dX11_leastFar_21 : decode cX11_leastFar 21 = .ok (.iconst (-1), 1) := by decide +kernel
theorem dX11_leastFar_22 : decode cX11_leastFar 22 = .ok (.if_icmp .eq 18, 3) := by decide +kernel
theorem dX11_leastFar_25 : decode cX11_leastFar 25 = .ok (.aload_n 0, 1) := by decide +kernel
theorem dX11_leastFar_26 : decode cX11_leastFar 26 = .ok (.getfield 98, 3) := by decide +kernel
theorem dX11_leastFar_29 : decode cX11_leastFar 29 = .ok (.iload_n 2, 1) := by decide +kernel
theorem dX11_leastFar_30 : decode cX11_leastFar 30 = .ok (.iaload, 1) := by decide +kernel
theorem dX11_leastFar_31 : decode cX11_leastFar 31 = .ok (.aload_n 0, 1) := by decide +kernel
theorem dX11_leastFar_32 : decode cX11_leastFar 32 = .ok (.getfield 98, 3) := by decide +kernel
theorem dX11_leastFar_35 : decode cX11_leastFar 35 = .ok (.iload_n 1, 1) := by decide +kernel
theorem dX11_leastFar_36 : decode cX11_leastFar 36 = .ok (.iaload, 1) := by decide +kernel
theorem dX11_leastFar_37 : decode cX11_leastFar 37 = .ok (.if_icmp .ge 5, 3) := by decide +kernel
theorem dX11_leastFar_40 : decode cX11_leastFar 40 = .ok (.iload_n 2, 1) := by decide +kernel
theorem dX11_leastFar_41 : decode cX11_leastFar 41 = .ok (.istore_n 1, 1) := by decide +kernel
theorem dX11_leastFar_42 : decode cX11_leastFar 42 = .ok (.iinc 2 1, 3) := by decide +kernel
theorem dX11_leastFar_45 : decode cX11_leastFar 45 = .ok (.goto (-41), 3) := by decide +kernel
theorem dX11_leastFar_48 : decode cX11_leastFar 48 = .ok (.iload_n 1, 1) := by decide +kernel
theorem dX11_leastFar_49 : decode cX11_leastFar 49 = .ok (.ireturn, 1) := by decide +kernel
theorem dX11_isSixteenths_0 : decode cX11_isSixteenths 0 = .ok (.iload_n 0, 1) := by decide +kernel
theorem dX11_isSixteenths_1 : decode cX11_isSixteenths 1 = .ok (.ifCond .lt 13, 3) := by decide +kernel
theorem dX11_isSixteenths_4 : decode cX11_isSixteenths 4 = .ok (.iload_n 0, 1) := by decide +kernel
theorem dX11_isSixteenths_5 : decode cX11_isSixteenths 5 = .ok (.bipush 16, 2) := by decide +kernel
theorem dX11_isSixteenths_7 : decode cX11_isSixteenths 7 = .ok (.if_icmp .gt 7, 3) := by decide +kernel
theorem dX11_isSixteenths_10 : decode cX11_isSixteenths 10 = .ok (.iconst 1, 1) := by decide +kernel
theorem dX11_isSixteenths_11 : decode cX11_isSixteenths 11 = .ok (.goto 4, 3) := by decide +kernel
theorem dX11_isSixteenths_14 : decode cX11_isSixteenths 14 = .ok (.iconst 0, 1) := by decide +kernel
theorem dX11_isSixteenths_15 : decode cX11_isSixteenths 15 = .ok (.ireturn, 1) := by decide +kernel
theorem dX11_isPart_0 : decode cX11_isPart 0 = .ok (.iload_n 0, 1) := by decide +kernel
theorem dX11_isPart_1 : decode cX11_isPart 1 = .ok (.ifCond .eq 8, 3) := by decide +kernel
theorem dX11_isPart_4 : decode cX11_isPart 4 = .ok (.iload_n 0, 1) := by decide +kernel
theorem dX11_isPart_5 : decode cX11_isPart 5 = .ok (.iconst 1, 1) := by decide +kernel
theorem dX11_isPart_6 : decode cX11_isPart 6 = .ok (.if_icmp .ne 7, 3) := by decide +kernel
theorem dX11_isPart_9 : decode cX11_isPart 9 = .ok (.iconst 1, 1) := by decide +kernel
theorem dX11_isPart_10 : decode cX11_isPart 10 = .ok (.goto 4, 3) := by decide +kernel
theorem dX11_isPart_13 : decode cX11_isPart 13 = .ok (.iconst 0, 1) := by decide +kernel
theorem dX11_isPart_14 : decode cX11_isPart 14 = .ok (.ireturn, 1) := by decide +kernel
theorem dX11_areMinutes_0 : decode cX11_areMinutes 0 = .ok (.iload_n 0, 1) := by decide +kernel
theorem dX11_areMinutes_1 : decode cX11_areMinutes 1 = .ok (.ifCond .lt 12, 3) := by decide +kernel
theorem dX11_areMinutes_4 : decode cX11_areMinutes 4 = .ok (.iload_n 0, 1) := by decide +kernel
theorem dX11_areMinutes_5 : decode cX11_areMinutes 5 = .ok (.iconst 5, 1) := by decide +kernel
theorem dX11_areMinutes_6 : decode cX11_areMinutes 6 = .ok (.if_icmp .gt 7, 3) := by decide +kernel
theorem dX11_areMinutes_9 : decode cX11_areMinutes 9 = .ok (.iconst 1, 1) := by decide +kernel
theorem dX11_areMinutes_10 : decode cX11_areMinutes 10 = .ok (.goto 4, 3) := by decide +kernel
theorem dX11_areMinutes_13 : decode cX11_areMinutes 13 = .ok (.iconst 0, 1) := by decide +kernel
theorem dX11_areMinutes_14 : decode cX11_areMinutes 14 = .ok (.ireturn, 1) := by decide +kernel
theorem dX11_isForm_0 : decode cX11_isForm 0 = .ok (.iload_n 0, 1) := by decide +kernel
theorem dX11_isForm_1 : decode cX11_isForm 1 = .ok (.ifCond .lt 12, 3) := by decide +kernel
theorem dX11_isForm_4 : decode cX11_isForm 4 = .ok (.iload_n 0, 1) := by decide +kernel
theorem dX11_isForm_5 : decode cX11_isForm 5 = .ok (.iconst 3, 1) := by decide +kernel
theorem dX11_isForm_6 : decode cX11_isForm 6 = .ok (.if_icmp .ge 7, 3) := by decide +kernel
theorem dX11_isForm_9 : decode cX11_isForm 9 = .ok (.iconst 1, 1) := by decide +kernel
theorem dX11_isForm_10 : decode cX11_isForm 10 = .ok (.goto 4, 3) := by decide +kernel
theorem dX11_isForm_13 : decode cX11_isForm 13 = .ok (.iconst 0, 1) := by decide +kernel
theorem dX11_isForm_14 : decode cX11_isForm 14 = .ok (.ireturn, 1) := by decide +kernel
theorem dX11_refused_0 : decode cX11_refused 0 = .ok (.ldc2_w 490, 3) := by decide +kernel
theorem dX11_refused_3 : decode cX11_refused 3 = .ok (.iload_n 0, 1) := by decide +kernel
theorem dX11_refused_4 : decode cX11_refused 4 = .ok (.i2l, 1) := by decide +kernel
theorem dX11_refused_5 : decode cX11_refused 5 = .ok (.lsub, 1) := by decide +kernel
theorem dX11_refused_6 : decode cX11_refused 6 = .ok (.lreturn, 1) := by decide +kernel
theorem dX11_lowest_0 : decode cX11_lowest 0 = .ok (.lload_n 0, 1) := by decide +kernel
theorem dX11_lowest_1 : decode cX11_lowest 1 = .ok (.lstore 5, 2) := by decide +kernel
theorem dX11_lowest_3 : decode cX11_lowest 3 = .ok (.lload_n 2, 1) := by decide +kernel
theorem dX11_lowest_4 : decode cX11_lowest 4 = .ok (.lstore 7, 2) := by decide +kernel
theorem dX11_lowest_6 : decode cX11_lowest 6 = .ok (.iconst 0, 1) := by decide +kernel
theorem dX11_lowest_7 : decode cX11_lowest 7 = .ok (.istore 9, 2) := by decide +kernel
theorem dX11_lowest_9 : decode cX11_lowest 9 = .ok (.iload 9, 2) := by decide +kernel
theorem dX11_lowest_11 : decode cX11_lowest 11 = .ok (.sipush 128, 3) := by decide +kernel
theorem dX11_lowest_14 : decode cX11_lowest 14 = .ok (.if_icmp .ge 31, 3) := by decide +kernel
theorem dX11_lowest_17 : decode cX11_lowest 17 = .ok (.lload 7, 2) := by decide +kernel
theorem dX11_lowest_19 : decode cX11_lowest 19 = .ok (.lconst 0, 1) := by decide +kernel
theorem dX11_lowest_20 : decode cX11_lowest 20 = .ok (.lcmp, 1) := by decide +kernel
theorem dX11_lowest_21 : decode cX11_lowest 21 = .ok (.ifCond .eq 24, 3) := by decide +kernel
theorem dX11_lowest_24 : decode cX11_lowest 24 = .ok (.lload 5, 2) := by decide +kernel
theorem dX11_lowest_26 : decode cX11_lowest 26 = .ok (.lload 7, 2) := by decide +kernel
theorem dX11_lowest_28 : decode cX11_lowest 28 = .ok (.lrem, 1) := by decide +kernel
theorem dX11_lowest_29 : decode cX11_lowest 29 = .ok (.lstore 10, 2) := by decide +kernel
theorem dX11_lowest_31 : decode cX11_lowest 31 = .ok (.lload 7, 2) := by decide +kernel
theorem dX11_lowest_33 : decode cX11_lowest 33 = .ok (.lstore 5, 2) := by decide +kernel
theorem dX11_lowest_35 : decode cX11_lowest 35 = .ok (.lload 10, 2) := by decide +kernel
theorem dX11_lowest_37 : decode cX11_lowest 37 = .ok (.lstore 7, 2) := by decide +kernel
theorem dX11_lowest_39 : decode cX11_lowest 39 = .ok (.iinc 9 1, 3) := by decide +kernel
theorem dX11_lowest_42 : decode cX11_lowest 42 = .ok (.goto (-33), 3) := by decide +kernel
theorem dX11_lowest_45 : decode cX11_lowest 45 = .ok (.iload 4, 2) := by decide +kernel
theorem dX11_lowest_47 : decode cX11_lowest 47 = .ok (.ifCond .ne 7, 3) := by decide +kernel
theorem dX11_lowest_50 : decode cX11_lowest 50 = .ok (.lload_n 0, 1) := by decide +kernel
theorem dX11_lowest_51 : decode cX11_lowest 51 = .ok (.goto 4, 3) := by decide +kernel
theorem dX11_lowest_54 : decode cX11_lowest 54 = .ok (.lload_n 2, 1) := by decide +kernel
theorem dX11_lowest_55 : decode cX11_lowest 55 = .ok (.lstore 9, 2) := by decide +kernel
theorem dX11_lowest_57 : decode cX11_lowest 57 = .ok (.lload 5, 2) := by decide +kernel
theorem dX11_lowest_59 : decode cX11_lowest 59 = .ok (.lconst 0, 1) := by decide +kernel
theorem dX11_lowest_60 : decode cX11_lowest 60 = .ok (.lcmp, 1) := by decide +kernel
theorem dX11_lowest_61 : decode cX11_lowest 61 = .ok (.ifCond .ne 8, 3) := by decide +kernel
theorem dX11_lowest_64 : decode cX11_lowest 64 = .ok (.lload 9, 2) := by decide +kernel
theorem dX11_lowest_66 : decode cX11_lowest 66 = .ok (.goto 8, 3) := by decide +kernel
theorem dX11_lowest_69 : decode cX11_lowest 69 = .ok (.lload 9, 2) := by decide +kernel
theorem dX11_lowest_71 : decode cX11_lowest 71 = .ok (.lload 5, 2) := by decide +kernel
theorem dX11_lowest_73 : decode cX11_lowest 73 = .ok (.ldiv, 1) := by decide +kernel
theorem dX11_lowest_74 : decode cX11_lowest 74 = .ok (.lreturn, 1) := by decide +kernel
theorem dX12_init_0 : decode cX12_init 0 = .ok (.aload_n 0, 1) := by decide +kernel
theorem dX12_init_1 : decode cX12_init 1 = .ok (.invokespecial 1, 3) := by decide +kernel
theorem dX12_init_4 : decode cX12_init 4 = .ok (.aload_n 0, 1) := by decide +kernel
theorem dX12_init_5 : decode cX12_init 5 = .ok (.iconst 4, 1) := by decide +kernel
theorem dX12_init_6 : decode cX12_init 6 = .ok (.newarray .int, 2) := by decide +kernel
theorem dX12_init_8 : decode cX12_init 8 = .ok (.putfield 7, 3) := by decide +kernel
theorem dX12_init_11 : decode cX12_init 11 = .ok (.aload_n 0, 1) := by decide +kernel
theorem dX12_init_12 : decode cX12_init 12 = .ok (.iconst 4, 1) := by decide +kernel
theorem dX12_init_13 : decode cX12_init 13 = .ok (.newarray .int, 2) := by decide +kernel
theorem dX12_init_15 : decode cX12_init 15 = .ok (.putfield 13, 3) := by decide +kernel
theorem dX12_init_18 : decode cX12_init 18 = .ok (.aload_n 0, 1) := by decide +kernel
theorem dX12_init_19 : decode cX12_init 19 = .ok (.sipush 256, 3) := by decide +kernel
theorem dX12_init_22 : decode cX12_init 22 = .ok (.newarray .int, 2) := by decide +kernel
theorem dX12_init_24 : decode cX12_init 24 = .ok (.putfield 16, 3) := by decide +kernel
theorem dX12_init_27 : decode cX12_init 27 = .ok (.aload_n 0, 1) := by decide +kernel
theorem dX12_init_28 : decode cX12_init 28 = .ok (.bipush 64, 2) := by decide +kernel
theorem dX12_init_30 : decode cX12_init 30 = .ok (.newarray .int, 2) := by decide +kernel
theorem dX12_init_32 : decode cX12_init 32 = .ok (.putfield 19, 3) := by decide +kernel
theorem dX12_init_35 : decode cX12_init 35 = .ok (.aload_n 0, 1) := by decide +kernel
theorem dX12_init_36 : decode cX12_init 36 = .ok (.sipush 240, 3) := by decide +kernel
theorem dX12_init_39 : decode cX12_init 39 = .ok (.newarray .int, 2) := by decide +kernel
theorem dX12_init_41 : decode cX12_init 41 = .ok (.putfield 22, 3) := by decide +kernel
theorem dX12_init_44 : decode cX12_init 44 = .ok (.aload_n 0, 1) := by decide +kernel
theorem dX12_init_45 : decode cX12_init 45 = .ok (.iconst 3, 1) := by decide +kernel
theorem dX12_init_46 : decode cX12_init 46 = .ok (.newarray .int, 2) := by decide +kernel
theorem dX12_init_48 : decode cX12_init 48 = .ok (.putfield 25, 3) := by decide +kernel
theorem dX12_init_51 : decode cX12_init 51 = .ok (.aload_n 0, 1) := by decide +kernel
theorem dX12_init_52 : decode cX12_init 52 = .ok (.bipush 64, 2) := by decide +kernel
theorem dX12_init_54 : decode cX12_init 54 = .ok (.newarray .int, 2) := by decide +kernel
theorem dX12_init_56 : decode cX12_init 56 = .ok (.putfield 28, 3) := by decide +kernel
theorem dX12_init_59 : decode cX12_init 59 = .ok (.aload_n 0, 1) := by decide +kernel
theorem dX12_init_60 : decode cX12_init 60 = .ok (.iconst 5, 1) := by decide +kernel
theorem dX12_init_61 : decode cX12_init 61 = .ok (.newarray .int, 2) := by decide +kernel
theorem dX12_init_63 : decode cX12_init 63 = .ok (.putfield 31, 3) := by decide +kernel
theorem dX12_init_66 : decode cX12_init 66 = .ok (.aload_n 0, 1) := by decide +kernel
theorem dX12_init_67 : decode cX12_init 67 = .ok (.bipush 40, 2) := by decide +kernel
theorem dX12_init_69 : decode cX12_init 69 = .ok (.newarray .int, 2) := by decide +kernel
theorem dX12_init_71 : decode cX12_init 71 = .ok (.putfield 34, 3) := by decide +kernel
theorem dX12_init_74 : decode cX12_init 74 = .ok (.aload_n 0, 1) := by decide +kernel
theorem dX12_init_75 : decode cX12_init 75 = .ok (.iconst 3, 1) := by decide +kernel
theorem dX12_init_76 : decode cX12_init 76 = .ok (.newarray .int, 2) := by decide +kernel
theorem dX12_init_78 : decode cX12_init 78 = .ok (.putfield 37, 3) := by decide +kernel
theorem dX12_init_81 : decode cX12_init 81 = .ok (.aload_n 0, 1) := by decide +kernel
theorem dX12_init_82 : decode cX12_init 82 = .ok (.bipush 25, 2) := by decide +kernel
theorem dX12_init_84 : decode cX12_init 84 = .ok (.newarray .int, 2) := by decide +kernel
theorem dX12_init_86 : decode cX12_init 86 = .ok (.putfield 40, 3) := by decide +kernel
theorem dX12_init_89 : decode cX12_init 89 = .ok (.aload_n 0, 1) := by decide +kernel
theorem dX12_init_90 : decode cX12_init 90 = .ok (.iconst 5, 1) := by decide +kernel
theorem dX12_init_91 : decode cX12_init 91 = .ok (.newarray .int, 2) := by decide +kernel
theorem dX12_init_93 : decode cX12_init 93 = .ok (.putfield 43, 3) := by decide +kernel
theorem dX12_init_96 : decode cX12_init 96 = .ok (.aload_n 0, 1) := by decide +kernel
theorem dX12_init_97 : decode cX12_init 97 = .ok (.iconst 5, 1) := by decide +kernel
theorem dX12_init_98 : decode cX12_init 98 = .ok (.newarray .int, 2) := by decide +kernel
theorem dX12_init_100 : decode cX12_init 100 = .ok (.putfield 46, 3) := by decide +kernel
theorem dX12_init_103 : decode cX12_init 103 = .ok (.aload_n 0, 1) := by decide +kernel
theorem dX12_init_104 : decode cX12_init 104 = .ok (.bipush 41, 2) := by decide +kernel
theorem dX12_init_106 : decode cX12_init 106 = .ok (.newarray .int, 2) := by decide +kernel
theorem dX12_init_108 : decode cX12_init 108 = .ok (.putfield 49, 3) := by decide +kernel
theorem dX12_init_111 : decode cX12_init 111 = .ok (.aload_n 0, 1) := by decide +kernel
theorem dX12_init_112 : decode cX12_init 112 = .ok (.bipush 64, 2) := by decide +kernel
theorem dX12_init_114 : decode cX12_init 114 = .ok (.newarray .int, 2) := by decide +kernel
theorem dX12_init_116 : decode cX12_init 116 = .ok (.putfield 52, 3) := by decide +kernel
theorem dX12_init_119 : decode cX12_init 119 = .ok (.aload_n 0, 1) := by decide +kernel
theorem dX12_init_120 : decode cX12_init 120 = .ok (.iconst 5, 1) := by decide +kernel
theorem dX12_init_121 : decode cX12_init 121 = .ok (.newarray .int, 2) := by decide +kernel
theorem dX12_init_123 : decode cX12_init 123 = .ok (.putfield 55, 3) := by decide +kernel
theorem dX12_init_126 : decode cX12_init 126 = .ok (.aload_n 0, 1) := by decide +kernel
theorem dX12_init_127 : decode cX12_init 127 = .ok (.iconst 5, 1) := by decide +kernel
theorem dX12_init_128 : decode cX12_init 128 = .ok (.newarray .int, 2) := by decide +kernel
theorem dX12_init_130 : decode cX12_init 130 = .ok (.putfield 58, 3) := by decide +kernel
theorem dX12_init_133 : decode cX12_init 133 = .ok (.aload_n 0, 1) := by decide +kernel
theorem dX12_init_134 : decode cX12_init 134 = .ok (.bipush 64, 2) := by decide +kernel
theorem dX12_init_136 : decode cX12_init 136 = .ok (.newarray .long, 2) := by decide +kernel
theorem dX12_init_138 : decode cX12_init 138 = .ok (.putfield 61, 3) := by decide +kernel
theorem dX12_init_141 : decode cX12_init 141 = .ok (.aload_n 0, 1) := by decide +kernel
theorem dX12_init_142 : decode cX12_init 142 = .ok (.bipush 64, 2) := by decide +kernel
theorem dX12_init_144 : decode cX12_init 144 = .ok (.newarray .long, 2) := by decide +kernel
theorem dX12_init_146 : decode cX12_init 146 = .ok (.putfield 65, 3) := by decide +kernel
theorem dX12_init_149 : decode cX12_init 149 = .ok (.aload_n 0, 1) := by decide +kernel
theorem dX12_init_150 : decode cX12_init 150 = .ok (.bipush 10, 2) := by decide +kernel
theorem dX12_init_152 : decode cX12_init 152 = .ok (.newarray .int, 2) := by decide +kernel
theorem dX12_init_154 : decode cX12_init 154 = .ok (.putfield 68, 3) := by decide +kernel
theorem dX12_init_157 : decode cX12_init 157 = .ok (.aload_n 0, 1) := by decide +kernel
theorem dX12_init_158 : decode cX12_init 158 = .ok (.bipush 30, 2) := by decide +kernel
theorem dX12_init_160 : decode cX12_init 160 = .ok (.newarray .int, 2) := by decide +kernel
theorem dX12_init_162 : decode cX12_init 162 = .ok (.putfield 71, 3) := by decide +kernel
theorem dX12_init_165 : decode cX12_init 165 = .ok (.aload_n 0, 1) := by decide +kernel
theorem dX12_init_166 : decode cX12_init 166 = .ok (.bipush 6, 2) := by decide +kernel
theorem dX12_init_168 : decode cX12_init 168 = .ok (.newarray .int, 2) := by decide +kernel
theorem dX12_init_170 : decode cX12_init 170 = .ok (.putfield 74, 3) := by decide +kernel
theorem dX12_init_173 : decode cX12_init 173 = .ok (.aload_n 0, 1) := by decide +kernel
theorem dX12_init_174 : decode cX12_init 174 = .ok (.bipush 32, 2) := by decide +kernel
theorem dX12_init_176 : decode cX12_init 176 = .ok (.newarray .int, 2) := by decide +kernel
theorem dX12_init_178 : decode cX12_init 178 = .ok (.putfield 77, 3) := by decide +kernel
theorem dX12_init_181 : decode cX12_init 181 = .ok (.iconst 0, 1) := by decide +kernel
theorem dX12_init_182 : decode cX12_init 182 = .ok (.istore_n 1, 1) := by decide +kernel
theorem dX12_init_183 : decode cX12_init 183 = .ok (.iload_n 1, 1) := by decide +kernel
theorem dX12_init_184 : decode cX12_init 184 = .ok (.iconst 4, 1) := by decide +kernel
theorem dX12_init_185 : decode cX12_init 185 = .ok (.if_icmp .ge 16, 3) := by decide +kernel
theorem dX12_init_188 : decode cX12_init 188 = .ok (.aload_n 0, 1) := by decide +kernel
theorem dX12_init_189 : decode cX12_init 189 = .ok (.getfield 7, 3) := by decide +kernel
theorem dX12_init_192 : decode cX12_init 192 = .ok (.iload_n 1, 1) := by decide +kernel
theorem dX12_init_193 : decode cX12_init 193 = .ok (.iconst (-1), 1) := by decide +kernel
theorem dX12_init_194 : decode cX12_init 194 = .ok (.iastore, 1) := by decide +kernel
theorem dX12_init_195 : decode cX12_init 195 = .ok (.iinc 1 1, 3) := by decide +kernel
theorem dX12_init_198 : decode cX12_init 198 = .ok (.goto (-15), 3) := by decide +kernel
theorem dX12_init_201 : decode cX12_init 201 = .ok (.iconst 0, 1) := by decide +kernel
theorem dX12_init_202 : decode cX12_init 202 = .ok (.istore_n 1, 1) := by decide +kernel
theorem dX12_init_203 : decode cX12_init 203 = .ok (.iload_n 1, 1) := by decide +kernel
theorem dX12_init_204 : decode cX12_init 204 = .ok (.bipush 25, 2) := by decide +kernel
theorem dX12_init_206 : decode cX12_init 206 = .ok (.if_icmp .ge 17, 3) := by decide +kernel
theorem dX12_init_209 : decode cX12_init 209 = .ok (.aload_n 0, 1) := by decide +kernel
theorem dX12_init_210 : decode cX12_init 210 = .ok (.getfield 40, 3) := by decide +kernel
theorem dX12_init_213 : decode cX12_init 213 = .ok (.iload_n 1, 1) := by decide +kernel
theorem dX12_init_214 : decode cX12_init 214 = .ok (.bipush 8, 2) := by decide +kernel
theorem dX12_init_216 : decode cX12_init 216 = .ok (.iastore, 1) := by decide +kernel
theorem dX12_init_217 : decode cX12_init 217 = .ok (.iinc 1 1, 3) := by decide +kernel
theorem dX12_init_220 : decode cX12_init 220 = .ok (.goto (-17), 3) := by decide +kernel
theorem dX12_init_223 : decode cX12_init 223 = .ok (.iconst 0, 1) := by decide +kernel
theorem dX12_init_224 : decode cX12_init 224 = .ok (.istore_n 1, 1) := by decide +kernel
theorem dX12_init_225 : decode cX12_init 225 = .ok (.iload_n 1, 1) := by decide +kernel
theorem dX12_init_226 : decode cX12_init 226 = .ok (.iconst 5, 1) := by decide +kernel
theorem dX12_init_227 : decode cX12_init 227 = .ok (.if_icmp .ge 17, 3) := by decide +kernel
theorem dX12_init_230 : decode cX12_init 230 = .ok (.aload_n 0, 1) := by decide +kernel
theorem dX12_init_231 : decode cX12_init 231 = .ok (.getfield 43, 3) := by decide +kernel
theorem dX12_init_234 : decode cX12_init 234 = .ok (.iload_n 1, 1) := by decide +kernel
theorem dX12_init_235 : decode cX12_init 235 = .ok (.bipush 8, 2) := by decide +kernel
theorem dX12_init_237 : decode cX12_init 237 = .ok (.iastore, 1) := by decide +kernel
theorem dX12_init_238 : decode cX12_init 238 = .ok (.iinc 1 1, 3) := by decide +kernel
theorem dX12_init_241 : decode cX12_init 241 = .ok (.goto (-16), 3) := by decide +kernel
theorem dX12_init_244 : decode cX12_init 244 = .ok (.return_, 1) := by decide +kernel
theorem dX12_in_0 : decode cX12_in 0 = .ok (.lload_n 0, 1) := by decide +kernel
theorem dX12_in_1 : decode cX12_in 1 = .ok (.lload_n 2, 1) := by decide +kernel
theorem dX12_in_2 : decode cX12_in 2 = .ok (.lcmp, 1) := by decide +kernel
theorem dX12_in_3 : decode cX12_in 3 = .ok (.ifCond .lt 14, 3) := by decide +kernel
theorem dX12_in_6 : decode cX12_in 6 = .ok (.lload_n 0, 1) := by decide +kernel
theorem dX12_in_7 : decode cX12_in 7 = .ok (.lload 4, 2) := by decide +kernel
theorem dX12_in_9 : decode cX12_in 9 = .ok (.lcmp, 1) := by decide +kernel
theorem dX12_in_10 : decode cX12_in 10 = .ok (.ifCond .gt 7, 3) := by decide +kernel
theorem dX12_in_13 : decode cX12_in 13 = .ok (.iconst 1, 1) := by decide +kernel
theorem dX12_in_14 : decode cX12_in 14 = .ok (.goto 4, 3) := by decide +kernel
theorem dX12_in_17 : decode cX12_in 17 = .ok (.iconst 0, 1) := by decide +kernel
theorem dX12_in_18 : decode cX12_in 18 = .ok (.ireturn, 1) := by decide +kernel
theorem dX12_no_0 : decode cX12_no 0 = .ok (.ldc2_w 80, 3) := by decide +kernel
theorem dX12_no_3 : decode cX12_no 3 = .ok (.iload_n 0, 1) := by decide +kernel
theorem dX12_no_4 : decode cX12_no 4 = .ok (.i2l, 1) := by decide +kernel
theorem dX12_no_5 : decode cX12_no 5 = .ok (.lsub, 1) := by decide +kernel
theorem dX12_no_6 : decode cX12_no 6 = .ok (.lreturn, 1) := by decide +kernel
theorem dX12_isTwo_0 : decode cX12_isTwo 0 = .ok (.iload_n 0, 1) := by decide +kernel
theorem dX12_isTwo_1 : decode cX12_isTwo 1 = .ok (.i2l, 1) := by decide +kernel
theorem dX12_isTwo_2 : decode cX12_isTwo 2 = .ok (.lconst 0, 1) := by decide +kernel
theorem dX12_isTwo_3 : decode cX12_isTwo 3 = .ok (.lconst 1, 1) := by decide +kernel
theorem dX12_isTwo_4 : decode cX12_isTwo 4 = .ok (.invokestatic 82, 3) := by decide +kernel
theorem dX12_isTwo_7 : decode cX12_isTwo 7 = .ok (.ireturn, 1) := by decide +kernel
theorem dX12_isIn_0 : decode cX12_isIn 0 = .ok (.iload_n 0, 1) := by decide +kernel
theorem dX12_isIn_1 : decode cX12_isIn 1 = .ok (.iload_n 1, 1) := by decide +kernel
theorem dX12_isIn_2 : decode cX12_isIn 2 = .ok (.ishr, 1) := by decide +kernel
theorem dX12_isIn_3 : decode cX12_isIn 3 = .ok (.iconst 1, 1) := by decide +kernel
theorem dX12_isIn_4 : decode cX12_isIn 4 = .ok (.iand, 1) := by decide +kernel
theorem dX12_isIn_5 : decode cX12_isIn 5 = .ok (.iconst 1, 1) := by decide +kernel
theorem dX12_isIn_6 : decode cX12_isIn 6 = .ok (.if_icmp .ne 7, 3) := by decide +kernel
theorem dX12_isIn_9 : decode cX12_isIn 9 = .ok (.iconst 1, 1) := by decide +kernel
theorem dX12_isIn_10 : decode cX12_isIn 10 = .ok (.goto 4, 3) := by decide +kernel
theorem dX12_isIn_13 : decode cX12_isIn 13 = .ok (.iconst 0, 1) := by decide +kernel
theorem dX12_isIn_14 : decode cX12_isIn 14 = .ok (.ireturn, 1) := by decide +kernel
theorem dX12_ones_0 : decode cX12_ones 0 = .ok (.iconst 0, 1) := by decide +kernel
theorem dX12_ones_1 : decode cX12_ones 1 = .ok (.istore_n 1, 1) := by decide +kernel
theorem dX12_ones_2 : decode cX12_ones 2 = .ok (.iload_n 0, 1) := by decide +kernel
theorem dX12_ones_3 : decode cX12_ones 3 = .ok (.istore_n 2, 1) := by decide +kernel
theorem dX12_ones_4 : decode cX12_ones 4 = .ok (.iload_n 2, 1) := by decide +kernel
theorem dX12_ones_5 : decode cX12_ones 5 = .ok (.ifCond .eq 15, 3) := by decide +kernel
theorem dX12_ones_8 : decode cX12_ones 8 = .ok (.iinc 1 1, 3) := by decide +kernel
theorem dX12_ones_11 : decode cX12_ones 11 = .ok (.iload_n 2, 1) := by decide +kernel
theorem dX12_ones_12 : decode cX12_ones 12 = .ok (.iload_n 2, 1) := by decide +kernel
theorem dX12_ones_13 : decode cX12_ones 13 = .ok (.iconst 1, 1) := by decide +kernel
theorem dX12_ones_14 : decode cX12_ones 14 = .ok (.isub, 1) := by decide +kernel
theorem dX12_ones_15 : decode cX12_ones 15 = .ok (.iand, 1) := by decide +kernel
theorem dX12_ones_16 : decode cX12_ones 16 = .ok (.istore_n 2, 1) := by decide +kernel
theorem dX12_ones_17 : decode cX12_ones 17 = .ok (.goto (-13), 3) := by decide +kernel
theorem dX12_ones_20 : decode cX12_ones 20 = .ok (.iload_n 1, 1) := by decide +kernel
theorem dX12_ones_21 : decode cX12_ones 21 = .ok (.ireturn, 1) := by decide +kernel
theorem dX12_met_0 : decode cX12_met 0 = .ok (.aload_n 0, 1) := by decide +kernel
theorem dX12_met_1 : decode cX12_met 1 = .ok (.iload_n 1, 1) := by decide +kernel
theorem dX12_met_2 : decode cX12_met 2 = .ok (.putfield 86, 3) := by decide +kernel
theorem dX12_met_5 : decode cX12_met 5 = .ok (.bipush (-10), 2) := by decide +kernel
theorem dX12_met_7 : decode cX12_met 7 = .ok (.iload_n 1, 1) := by decide +kernel
theorem dX12_met_8 : decode cX12_met 8 = .ok (.isub, 1) := by decide +kernel
theorem dX12_met_9 : decode cX12_met 9 = .ok (.ireturn, 1) := by decide +kernel
theorem dX12_isSheet_0 : decode cX12_isSheet 0 = .ok (.iload_n 0, 1) := by decide +kernel
theorem dX12_isSheet_1 : decode cX12_isSheet 1 = .ok (.i2l, 1) := by decide +kernel
theorem dX12_isSheet_2 : decode cX12_isSheet 2 = .ok (.lconst 0, 1) := by decide +kernel
theorem dX12_isSheet_3 : decode cX12_isSheet 3 = .ok (.ldc2_w 90, 3) := by decide +kernel
theorem dX12_isSheet_6 : decode cX12_isSheet 6 = .ok (.invokestatic 82, 3) := by decide +kernel
theorem dX12_isSheet_9 : decode cX12_isSheet 9 = .ok (.ireturn, 1) := by decide +kernel
theorem dX12_sheet_0 : decode cX12_sheet 0 = .ok (.iload_n 1, 1) := by decide +kernel
theorem dX12_sheet_1 : decode cX12_sheet 1 = .ok (.invokestatic 92, 3) := by decide +kernel
theorem dX12_sheet_4 : decode cX12_sheet 4 = .ok (.ifCond .eq 21, 3) := by decide +kernel
theorem dX12_sheet_7 : decode cX12_sheet 7 = .ok (.iload_n 2, 1) := by decide +kernel
theorem dX12_sheet_8 : decode cX12_sheet 8 = .ok (.i2l, 1) := by decide +kernel
theorem dX12_sheet_9 : decode cX12_sheet 9 = .ok (.lconst 0, 1) := by decide +kernel
theorem dX12_sheet_10 : decode cX12_sheet 10 = .ok (.ldc2_w 96, 3) := by decide +kernel
theorem dX12_sheet_13 : decode cX12_sheet 13 = .ok (.invokestatic 82, 3) := by decide +kernel
theorem dX12_sheet_16 : decode cX12_sheet 16 = .ok (.ifCond .eq 9, 3) := by decide +kernel
theorem dX12_sheet_19 : decode cX12_sheet 19 = .ok (.iload_n 3, 1) := by decide +kernel
theorem dX12_sheet_20 : decode cX12_sheet 20 = .ok (.bipush 64, 2) := by decide +kernel
theorem dX12_sheet_22 : decode cX12_sheet 22 = .ok (.if_icmp .le 6, 3) := by decide +kernel
theorem dX12_sheet_25 : decode cX12_sheet 25 = .ok (.bipush (-2), 2) := by decide +kernel
theorem dX12_sheet_27 : decode cX12_sheet 27 = .ok (.ireturn, 1) := by decide +kernel
theorem dX12_sheet_28 : decode cX12_sheet 28 = .ok (.iload_n 3, 1) := by decide +kernel
theorem dX12_sheet_29 : decode cX12_sheet 29 = .ok (.ifCond .ge 9, 3) := by decide +kernel
theorem dX12_sheet_32 : decode cX12_sheet 32 = .ok (.aload_n 0, 1) := by decide +kernel
theorem dX12_sheet_33 : decode cX12_sheet 33 = .ok (.iconst 5, 1) := by decide +kernel
theorem dX12_sheet_34 : decode cX12_sheet 34 = .ok (.invokevirtual 98, 3) := by decide +kernel
theorem dX12_sheet_37 : decode cX12_sheet 37 = .ok (.ireturn, 1) := by decide +kernel
theorem dX12_sheet_38 : decode cX12_sheet 38 = .ok (.aload_n 0, 1) := by decide +kernel
theorem dX12_sheet_39 : decode cX12_sheet 39 = .ok (.getfield 7, 3) := by decide +kernel
theorem dX12_sheet_42 : decode cX12_sheet 42 = .ok (.iload_n 1, 1) := by decide +kernel
theorem dX12_sheet_43 : decode cX12_sheet 43 = .ok (.iload_n 2, 1) := by decide +kernel
theorem dX12_sheet_44 : decode cX12_sheet 44 = .ok (.iastore, 1) := by decide +kernel
theorem dX12_sheet_45 : decode cX12_sheet 45 = .ok (.aload_n 0, 1) := by decide +kernel
theorem dX12_sheet_46 : decode cX12_sheet 46 = .ok (.getfield 13, 3) := by decide +kernel
theorem dX12_sheet_49 : decode cX12_sheet 49 = .ok (.iload_n 1, 1) := by decide +kernel
theorem dX12_sheet_50 : decode cX12_sheet 50 = .ok (.iload_n 3, 1) := by decide +kernel
theorem dX12_sheet_51 : decode cX12_sheet 51 = .ok (.iastore, 1) := by decide +kernel
theorem dX12_sheet_52 : decode cX12_sheet 52 = .ok (.iconst 0, 1) := by decide +kernel
theorem dX12_sheet_53 : decode cX12_sheet 53 = .ok (.istore 4, 2) := by decide +kernel
theorem dX12_sheet_55 : decode cX12_sheet 55 = .ok (.iload 4, 2) := by decide +kernel
theorem dX12_sheet_57 : decode cX12_sheet 57 = .ok (.iload_n 3, 1) := by decide +kernel
theorem dX12_sheet_58 : decode cX12_sheet 58 = .ok (.if_icmp .ge 22, 3) := by decide +kernel
theorem dX12_sheet_61 : decode cX12_sheet 61 = .ok (.aload_n 0, 1) := by decide +kernel
theorem dX12_sheet_62 : decode cX12_sheet 62 = .ok (.getfield 16, 3) := by decide +kernel
theorem dX12_sheet_65 : decode cX12_sheet 65 = .ok (.bipush 64, 2) := by decide +kernel
theorem dX12_sheet_67 : decode cX12_sheet 67 = .ok (.iload_n 1, 1) := by decide +kernel
theorem dX12_sheet_68 : decode cX12_sheet 68 = .ok (.imul, 1) := by decide +kernel
theorem dX12_sheet_69 : decode cX12_sheet 69 = .ok (.iload 4, 2) := by decide +kernel
theorem dX12_sheet_71 : decode cX12_sheet 71 = .ok (.iadd, 1) := by decide +kernel
theorem dX12_sheet_72 : decode cX12_sheet 72 = .ok (.iconst 0, 1) := by decide +kernel
theorem dX12_sheet_73 : decode cX12_sheet 73 = .ok (.iastore, 1) := by decide +kernel
theorem dX12_sheet_74 : decode cX12_sheet 74 = .ok (.iinc 4 1, 3) := by decide +kernel
theorem dX12_sheet_77 : decode cX12_sheet 77 = .ok (.goto (-22), 3) := by decide +kernel
theorem dX12_sheet_80 : decode cX12_sheet 80 = .ok (.iload_n 3, 1) := by decide +kernel
theorem dX12_sheet_81 : decode cX12_sheet 81 = .ok (.ireturn, 1) := by decide +kernel
theorem dX12_lose_0 : decode cX12_lose 0 = .ok (.iload_n 1, 1) := by decide +kernel
theorem dX12_lose_1 : decode cX12_lose 1 = .ok (.invokestatic 92, 3) := by decide +kernel
theorem dX12_lose_4 : decode cX12_lose 4 = .ok (.ifCond .ne 6, 3) := by decide +kernel
theorem dX12_lose_7 : decode cX12_lose 7 = .ok (.bipush (-2), 2) := by decide +kernel
theorem dX12_lose_9 : decode cX12_lose 9 = .ok (.ireturn, 1) := by decide +kernel
theorem dX12_lose_10 : decode cX12_lose 10 = .ok (.aload_n 0, 1) := by decide +kernel
theorem dX12_lose_11 : decode cX12_lose 11 = .ok (.getfield 7, 3) := by decide +kernel
theorem dX12_lose_14 : decode cX12_lose 14 = .ok (.iload_n 1, 1) := by decide +kernel
theorem dX12_lose_15 : decode cX12_lose 15 = .ok (.iaload, 1) := by decide +kernel
theorem dX12_lose_16 : decode cX12_lose 16 = .ok (.ifCond .ge 9, 3) := by decide +kernel
theorem dX12_lose_19 : decode cX12_lose 19 = .ok (.aload_n 0, 1) := by decide +kernel
theorem dX12_lose_20 : decode cX12_lose 20 = .ok (.iconst 1, 1) := by decide +kernel
theorem dX12_lose_21 : decode cX12_lose 21 = .ok (.invokevirtual 98, 3) := by decide +kernel
theorem dX12_lose_24 : decode cX12_lose 24 = .ok (.ireturn, 1) := by decide +kernel
theorem dX12_lose_25 : decode cX12_lose 25 = .ok (.aload_n 0, 1) := by decide +kernel
theorem dX12_lose_26 : decode cX12_lose 26 = .ok (.getfield 7, 3) := by decide +kernel
theorem dX12_lose_29 : decode cX12_lose 29 = .ok (.iload_n 1, 1) := by decide +kernel
theorem dX12_lose_30 : decode cX12_lose 30 = .ok (.iconst (-1), 1) := by decide +kernel
theorem dX12_lose_31 : decode cX12_lose 31 = .ok (.iastore, 1) := by decide +kernel
theorem dX12_lose_32 : decode cX12_lose 32 = .ok (.aload_n 0, 1) := by decide +kernel
theorem dX12_lose_33 : decode cX12_lose 33 = .ok (.getfield 13, 3) := by decide +kernel
theorem dX12_lose_36 : decode cX12_lose 36 = .ok (.iload_n 1, 1) := by decide +kernel
theorem dX12_lose_37 : decode cX12_lose 37 = .ok (.iaload, 1) := by decide +kernel
theorem dX12_lose_38 : decode cX12_lose 38 = .ok (.ireturn, 1) := by decide +kernel
theorem dX12_lacks_0 : decode cX12_lacks 0 = .ok (.aload_n 0, 1) := by decide +kernel
theorem dX12_lacks_1 : decode cX12_lacks 1 = .ok (.getfield 7, 3) := by decide +kernel
theorem dX12_lacks_4 : decode cX12_lacks 4 = .ok (.iload_n 1, 1) := by decide +kernel
theorem dX12_lacks_5 : decode cX12_lacks 5 = .ok (.iaload, 1) := by decide +kernel
theorem dX12_lacks_6 : decode cX12_lacks 6 = .ok (.ifCond .ge 9, 3) := by decide +kernel
theorem dX12_lacks_9 : decode cX12_lacks 9 = .ok (.aload_n 0, 1) := by decide +kernel
theorem dX12_lacks_10 : decode cX12_lacks 10 = .ok (.iconst 1, 1) := by decide +kernel
theorem dX12_lacks_11 : decode cX12_lacks 11 = .ok (.invokevirtual 98, 3) := by decide +kernel
theorem dX12_lacks_14 : decode cX12_lacks 14 = .ok (.ireturn, 1) := by decide +kernel
theorem dX12_lacks_15 : decode cX12_lacks 15 = .ok (.aload_n 0, 1) := by decide +kernel
theorem dX12_lacks_16 : decode cX12_lacks 16 = .ok (.getfield 7, 3) := by decide +kernel
theorem dX12_lacks_19 : decode cX12_lacks 19 = .ok (.iload_n 1, 1) := by decide +kernel
theorem dX12_lacks_20 : decode cX12_lacks 20 = .ok (.iaload, 1) := by decide +kernel
theorem dX12_lacks_21 : decode cX12_lacks 21 = .ok (.iload_n 2, 1) := by decide +kernel
theorem dX12_lacks_22 : decode cX12_lacks 22 = .ok (.if_icmp .eq 9, 3) := by decide +kernel
theorem dX12_lacks_25 : decode cX12_lacks 25 = .ok (.aload_n 0, 1) := by decide +kernel
theorem dX12_lacks_26 : decode cX12_lacks 26 = .ok (.iconst 3, 1) := by decide +kernel
theorem dX12_lacks_27 : decode cX12_lacks 27 = .ok (.invokevirtual 98, 3) := by decide +kernel
theorem dX12_lacks_30 : decode cX12_lacks 30 = .ok (.ireturn, 1) := by decide +kernel
theorem dX12_lacks_31 : decode cX12_lacks 31 = .ok (.iload_n 3, 1) := by decide +kernel
theorem dX12_lacks_32 : decode cX12_lacks 32 = .ok (.i2l, 1) := by decide +kernel
theorem dX12_lacks_33 : decode cX12_lacks 33 = .ok (.lconst 0, 1) := by decide +kernel
theorem dX12_lacks_34 : decode cX12_lacks 34 = .ok (.aload_n 0, 1) := by decide +kernel
theorem dX12_lacks_35 : decode cX12_lacks 35 = .ok (.getfield 13, 3) := by decide +kernel
theorem dX12_lacks_38 : decode cX12_lacks 38 = .ok (.iload_n 1, 1) := by decide +kernel
theorem dX12_lacks_39 : decode cX12_lacks 39 = .ok (.iaload, 1) := by decide +kernel
theorem dX12_lacks_40 : decode cX12_lacks 40 = .ok (.iconst 1, 1) := by decide +kernel
theorem dX12_lacks_41 : decode cX12_lacks 41 = .ok (.isub, 1) := by decide +kernel
theorem dX12_lacks_42 : decode cX12_lacks 42 = .ok (.i2l, 1) := by decide +kernel
theorem dX12_lacks_43 : decode cX12_lacks 43 = .ok (.invokestatic 82, 3) := by decide +kernel
theorem dX12_lacks_46 : decode cX12_lacks 46 = .ok (.ifCond .eq 7, 3) := by decide +kernel
theorem dX12_lacks_49 : decode cX12_lacks 49 = .ok (.iconst 0, 1) := by decide +kernel
theorem dX12_lacks_50 : decode cX12_lacks 50 = .ok (.goto 8, 3) := by decide +kernel
theorem dX12_lacks_53 : decode cX12_lacks 53 = .ok (.aload_n 0, 1) := by decide +kernel
theorem dX12_lacks_54 : decode cX12_lacks 54 = .ok (.iconst 2, 1) := by decide +kernel
theorem dX12_lacks_55 : decode cX12_lacks 55 = .ok (.invokevirtual 98, 3) := by decide +kernel
theorem dX12_lacks_58 : decode cX12_lacks 58 = .ok (.ireturn, 1) := by decide +kernel
theorem dX12_cut_0 : decode cX12_cut 0 = .ok (.iload_n 0, 1) := by decide +kernel
theorem dX12_cut_1 : decode cX12_cut 1 = .ok (.ifCond .ne 8, 3) := by decide +kernel
theorem dX12_cut_4 : decode cX12_cut 4 = .ok (.iload_n 1, 1) := by decide +kernel
theorem dX12_cut_5 : decode cX12_cut 5 = .ok (.i2b, 1) := by decide +kernel
theorem dX12_cut_6 : decode cX12_cut 6 = .ok (.goto 14, 3) := by decide +kernel
theorem dX12_cut_9 : decode cX12_cut 9 = .ok (.iload_n 0, 1) := by decide +kernel
theorem dX12_cut_10 : decode cX12_cut 10 = .ok (.iconst 1, 1) := by decide +kernel
theorem dX12_cut_11 : decode cX12_cut 11 = .ok (.if_icmp .ne 8, 3) := by decide +kernel
theorem dX12_cut_14 : decode cX12_cut 14 = .ok (.iload_n 1, 1) := by decide +kernel
theorem dX12_cut_15 : decode cX12_cut 15 = .ok (.i2s, 1) := by decide +kernel
theorem dX12_cut_16 : decode cX12_cut 16 = .ok (.goto 4, 3) := by decide +kernel
theorem dX12_cut_19 : decode cX12_cut 19 = .ok (.iload_n 1, 1) := by decide +kernel
theorem dX12_cut_20 : decode cX12_cut 20 = .ok (.ireturn, 1) := by decide +kernel
theorem dX12_lay_0 : decode cX12_lay 0 = .ok (.iload_n 1, 1) := by decide +kernel
theorem dX12_lay_1 : decode cX12_lay 1 = .ok (.invokestatic 92, 3) := by decide +kernel
theorem dX12_lay_4 : decode cX12_lay 4 = .ok (.ifCond .eq 15, 3) := by decide +kernel
theorem dX12_lay_7 : decode cX12_lay 7 = .ok (.iload_n 2, 1) := by decide +kernel
theorem dX12_lay_8 : decode cX12_lay 8 = .ok (.i2l, 1) := by decide +kernel
theorem dX12_lay_9 : decode cX12_lay 9 = .ok (.lconst 0, 1) := by decide +kernel
theorem dX12_lay_10 : decode cX12_lay 10 = .ok (.ldc2_w 96, 3) := by decide +kernel
theorem dX12_lay_13 : decode cX12_lay 13 = .ok (.invokestatic 82, 3) := by decide +kernel
theorem dX12_lay_16 : decode cX12_lay 16 = .ok (.ifCond .ne 6, 3) := by decide +kernel
theorem dX12_lay_19 : decode cX12_lay 19 = .ok (.bipush (-2), 2) := by decide +kernel
theorem dX12_lay_21 : decode cX12_lay 21 = .ok (.ireturn, 1) := by decide +kernel
theorem dX12_lay_22 : decode cX12_lay 22 = .ok (.aload_n 0, 1) := by decide +kernel
theorem dX12_lay_23 : decode cX12_lay 23 = .ok (.iload_n 1, 1) := by decide +kernel
theorem dX12_lay_24 : decode cX12_lay 24 = .ok (.iload_n 2, 1) := by decide +kernel
theorem dX12_lay_25 : decode cX12_lay 25 = .ok (.iload_n 3, 1) := by decide +kernel
theorem dX12_lay_26 : decode cX12_lay 26 = .ok (.invokevirtual 102, 3) := by decide +kernel
theorem dX12_lay_29 : decode cX12_lay 29 = .ok (.istore 5, 2) := by decide +kernel
theorem dX12_lay_31 : decode cX12_lay 31 = .ok (.iload 5, 2) := by decide +kernel
theorem dX12_lay_33 : decode cX12_lay 33 = .ok (.ifCond .eq 6, 3) := by decide +kernel
theorem dX12_lay_36 : decode cX12_lay 36 = .ok (.iload 5, 2) := by decide +kernel
theorem dX12_lay_38 : decode cX12_lay 38 = .ok (.ireturn, 1) := by decide +kernel
theorem dX12_lay_39 : decode cX12_lay 39 = .ok (.aload_n 0, 1) := by decide +kernel
theorem dX12_lay_40 : decode cX12_lay 40 = .ok (.getfield 16, 3) := by decide +kernel
theorem dX12_lay_43 : decode cX12_lay 43 = .ok (.bipush 64, 2) := by decide +kernel
theorem dX12_lay_45 : decode cX12_lay 45 = .ok (.iload_n 1, 1) := by decide +kernel
theorem dX12_lay_46 : decode cX12_lay 46 = .ok (.imul, 1) := by decide +kernel
theorem dX12_lay_47 : decode cX12_lay 47 = .ok (.iload_n 3, 1) := by decide +kernel
theorem dX12_lay_48 : decode cX12_lay 48 = .ok (.iadd, 1) := by decide +kernel
theorem dX12_lay_49 : decode cX12_lay 49 = .ok (.iload_n 2, 1) := by decide +kernel
theorem dX12_lay_50 : decode cX12_lay 50 = .ok (.iload 4, 2) := by decide +kernel
theorem dX12_lay_52 : decode cX12_lay 52 = .ok (.invokestatic 106, 3) := by decide +kernel
theorem dX12_lay_55 : decode cX12_lay 55 = .ok (.iastore, 1) := by decide +kernel
theorem dX12_lay_56 : decode cX12_lay 56 = .ok (.iconst 1, 1) := by decide +kernel
theorem dX12_lay_57 : decode cX12_lay 57 = .ok (.ireturn, 1) := by decide +kernel
theorem dX12_get_0 : decode cX12_get 0 = .ok (.iload_n 1, 1) := by decide +kernel
theorem dX12_get_1 : decode cX12_get 1 = .ok (.invokestatic 92, 3) := by decide +kernel
theorem dX12_get_4 : decode cX12_get 4 = .ok (.ifCond .eq 25, 3) := by decide +kernel
theorem dX12_get_7 : decode cX12_get 7 = .ok (.iload_n 2, 1) := by decide +kernel
theorem dX12_get_8 : decode cX12_get 8 = .ok (.i2l, 1) := by decide +kernel
theorem dX12_get_9 : decode cX12_get 9 = .ok (.lconst 0, 1) := by decide +kernel
theorem dX12_get_10 : decode cX12_get 10 = .ok (.ldc2_w 96, 3) := by decide +kernel
theorem dX12_get_13 : decode cX12_get 13 = .ok (.invokestatic 82, 3) := by decide +kernel
theorem dX12_get_16 : decode cX12_get 16 = .ok (.ifCond .eq 13, 3) := by decide +kernel
theorem dX12_get_19 : decode cX12_get 19 = .ok (.aload_n 0, 1) := by decide +kernel
theorem dX12_get_20 : decode cX12_get 20 = .ok (.iload_n 1, 1) := by decide +kernel
theorem dX12_get_21 : decode cX12_get 21 = .ok (.iload_n 2, 1) := by decide +kernel
theorem dX12_get_22 : decode cX12_get 22 = .ok (.iload_n 3, 1) := by decide +kernel
theorem dX12_get_23 : decode cX12_get 23 = .ok (.invokevirtual 102, 3) := by decide +kernel
theorem dX12_get_26 : decode cX12_get 26 = .ok (.ifCond .eq 6, 3) := by decide +kernel
theorem dX12_get_29 : decode cX12_get 29 = .ok (.ldc 110, 2) := by decide +kernel
theorem dX12_get_31 : decode cX12_get 31 = .ok (.ireturn, 1) := by decide +kernel
theorem dX12_get_32 : decode cX12_get 32 = .ok (.aload_n 0, 1) := by decide +kernel
theorem dX12_get_33 : decode cX12_get 33 = .ok (.getfield 16, 3) := by decide +kernel
theorem dX12_get_36 : decode cX12_get 36 = .ok (.bipush 64, 2) := by decide +kernel
theorem dX12_get_38 : decode cX12_get 38 = .ok (.iload_n 1, 1) := by decide +kernel
theorem dX12_get_39 : decode cX12_get 39 = .ok (.imul, 1) := by decide +kernel
theorem dX12_get_40 : decode cX12_get 40 = .ok (.iload_n 3, 1) := by decide +kernel
theorem dX12_get_41 : decode cX12_get 41 = .ok (.iadd, 1) := by decide +kernel
theorem dX12_get_42 : decode cX12_get 42 = .ok (.iaload, 1) := by decide +kernel
theorem dX12_get_43 : decode cX12_get 43 = .ok (.ireturn, 1) := by decide +kernel
theorem dX12_copy_0 : decode cX12_copy 0 = .ok (.iload_n 1, 1) := by decide +kernel
theorem dX12_copy_1 : decode cX12_copy 1 = .ok (.invokestatic 92, 3) := by decide +kernel
theorem dX12_copy_4 : decode cX12_copy 4 = .ok (.ifCond .eq 10, 3) := by decide +kernel
theorem dX12_copy_7 : decode cX12_copy 7 = .ok (.iload_n 3, 1) := by decide +kernel
theorem dX12_copy_8 : decode cX12_copy 8 = .ok (.invokestatic 92, 3) := by decide +kernel
theorem dX12_copy_11 : decode cX12_copy 11 = .ok (.ifCond .ne 6, 3) := by decide +kernel
theorem dX12_copy_14 : decode cX12_copy 14 = .ok (.bipush (-2), 2) := by decide +kernel
theorem dX12_copy_16 : decode cX12_copy 16 = .ok (.ireturn, 1) := by decide +kernel
theorem dX12_copy_17 : decode cX12_copy 17 = .ok (.aload_n 0, 1) := by decide +kernel
theorem dX12_copy_18 : decode cX12_copy 18 = .ok (.getfield 7, 3) := by decide +kernel
theorem dX12_copy_21 : decode cX12_copy 21 = .ok (.iload_n 1, 1) := by decide +kernel
theorem dX12_copy_22 : decode cX12_copy 22 = .ok (.iaload, 1) := by decide +kernel
theorem dX12_copy_23 : decode cX12_copy 23 = .ok (.ifCond .lt 12, 3) := by decide +kernel
theorem dX12_copy_26 : decode cX12_copy 26 = .ok (.aload_n 0, 1) := by decide +kernel
theorem dX12_copy_27 : decode cX12_copy 27 = .ok (.getfield 7, 3) := by decide +kernel
theorem dX12_copy_30 : decode cX12_copy 30 = .ok (.iload_n 3, 1) := by decide +kernel
theorem dX12_copy_31 : decode cX12_copy 31 = .ok (.iaload, 1) := by decide +kernel
theorem dX12_copy_32 : decode cX12_copy 32 = .ok (.ifCond .ge 9, 3) := by decide +kernel
theorem dX12_copy_35 : decode cX12_copy 35 = .ok (.aload_n 0, 1) := by decide +kernel
theorem dX12_copy_36 : decode cX12_copy 36 = .ok (.iconst 1, 1) := by decide +kernel
theorem dX12_copy_37 : decode cX12_copy 37 = .ok (.invokevirtual 98, 3) := by decide +kernel
theorem dX12_copy_40 : decode cX12_copy 40 = .ok (.ireturn, 1) := by decide +kernel
theorem dX12_copy_41 : decode cX12_copy 41 = .ok (.aload_n 0, 1) := by decide +kernel
theorem dX12_copy_42 : decode cX12_copy 42 = .ok (.getfield 7, 3) := by decide +kernel
theorem dX12_copy_45 : decode cX12_copy 45 = .ok (.iload_n 1, 1) := by decide +kernel
theorem dX12_copy_46 : decode cX12_copy 46 = .ok (.iaload, 1) := by decide +kernel
theorem dX12_copy_47 : decode cX12_copy 47 = .ok (.aload_n 0, 1) := by decide +kernel
theorem dX12_copy_48 : decode cX12_copy 48 = .ok (.getfield 7, 3) := by decide +kernel
theorem dX12_copy_51 : decode cX12_copy 51 = .ok (.iload_n 3, 1) := by decide +kernel
theorem dX12_copy_52 : decode cX12_copy 52 = .ok (.iaload, 1) := by decide +kernel
theorem dX12_copy_53 : decode cX12_copy 53 = .ok (.if_icmp .eq 9, 3) := by decide +kernel
theorem dX12_copy_56 : decode cX12_copy 56 = .ok (.aload_n 0, 1) := by decide +kernel
theorem dX12_copy_57 : decode cX12_copy 57 = .ok (.iconst 4, 1) := by decide +kernel
theorem dX12_copy_58 : decode cX12_copy 58 = .ok (.invokevirtual 98, 3) := by decide +kernel
theorem dX12_copy_61 : decode cX12_copy 61 = .ok (.ireturn, 1) := by decide +kernel
theorem dX12_copy_62 : decode cX12_copy 62 = .ok (.iload_n 2, 1) := by decide +kernel
theorem dX12_copy_63 : decode cX12_copy 63 = .ok (.ifCond .lt 48, 3) := by decide +kernel
theorem dX12_copy_66 : decode cX12_copy 66 = .ok (.iload 4, 2) := by decide +kernel
theorem dX12_copy_68 : decode cX12_copy 68 = .ok (.ifCond .lt 43, 3) := by decide +kernel
theorem dX12_copy_71 : decode cX12_copy 71 = .ok (.iload 5, 2) := by decide +kernel
theorem dX12_copy_73 : decode cX12_copy 73 = .ok (.ifCond .lt 38, 3) := by decide +kernel
theorem dX12_copy_76 : decode cX12_copy 76 = .ok (.iload_n 2, 1) := by decide +kernel
theorem dX12_copy_77 : decode cX12_copy 77 = .ok (.i2l, 1) := by decide +kernel
theorem dX12_copy_78 : decode cX12_copy 78 = .ok (.iload 5, 2) := by decide +kernel
theorem dX12_copy_80 : decode cX12_copy 80 = .ok (.i2l, 1) := by decide +kernel
theorem dX12_copy_81 : decode cX12_copy 81 = .ok (.ladd, 1) := by decide +kernel
theorem dX12_copy_82 : decode cX12_copy 82 = .ok (.aload_n 0, 1) := by decide +kernel
theorem dX12_copy_83 : decode cX12_copy 83 = .ok (.getfield 13, 3) := by decide +kernel
theorem dX12_copy_86 : decode cX12_copy 86 = .ok (.iload_n 1, 1) := by decide +kernel
theorem dX12_copy_87 : decode cX12_copy 87 = .ok (.iaload, 1) := by decide +kernel
theorem dX12_copy_88 : decode cX12_copy 88 = .ok (.i2l, 1) := by decide +kernel
theorem dX12_copy_89 : decode cX12_copy 89 = .ok (.lcmp, 1) := by decide +kernel
theorem dX12_copy_90 : decode cX12_copy 90 = .ok (.ifCond .gt 21, 3) := by decide +kernel
theorem dX12_copy_93 : decode cX12_copy 93 = .ok (.iload 4, 2) := by decide +kernel
theorem dX12_copy_95 : decode cX12_copy 95 = .ok (.i2l, 1) := by decide +kernel
theorem dX12_copy_96 : decode cX12_copy 96 = .ok (.iload 5, 2) := by decide +kernel
theorem dX12_copy_98 : decode cX12_copy 98 = .ok (.i2l, 1) := by decide +kernel
theorem dX12_copy_99 : decode cX12_copy 99 = .ok (.ladd, 1) := by decide +kernel
theorem dX12_copy_100 : decode cX12_copy 100 = .ok (.aload_n 0, 1) := by decide +kernel
theorem dX12_copy_101 : decode cX12_copy 101 = .ok (.getfield 13, 3) := by decide +kernel
theorem dX12_copy_104 : decode cX12_copy 104 = .ok (.iload_n 3, 1) := by decide +kernel
theorem dX12_copy_105 : decode cX12_copy 105 = .ok (.iaload, 1) := by decide +kernel
theorem dX12_copy_106 : decode cX12_copy 106 = .ok (.i2l, 1) := by decide +kernel
theorem dX12_copy_107 : decode cX12_copy 107 = .ok (.lcmp, 1) := by decide +kernel
theorem dX12_copy_108 : decode cX12_copy 108 = .ok (.ifCond .le 9, 3) := by decide +kernel
theorem dX12_copy_111 : decode cX12_copy 111 = .ok (.aload_n 0, 1) := by decide +kernel
theorem dX12_copy_112 : decode cX12_copy 112 = .ok (.iconst 2, 1) := by decide +kernel
theorem dX12_copy_113 : decode cX12_copy 113 = .ok (.invokevirtual 98, 3) := by decide +kernel
theorem dX12_copy_116 : decode cX12_copy 116 = .ok (.ireturn, 1) := by decide +kernel
theorem dX12_copy_117 : decode cX12_copy 117 = .ok (.iconst 0, 1) := by decide +kernel
theorem dX12_copy_118 : decode cX12_copy 118 = .ok (.istore 6, 2) := by decide +kernel
theorem dX12_copy_120 : decode cX12_copy 120 = .ok (.iload 6, 2) := by decide +kernel
theorem dX12_copy_122 : decode cX12_copy 122 = .ok (.iload 5, 2) := by decide +kernel
theorem dX12_copy_124 : decode cX12_copy 124 = .ok (.if_icmp .ge 30, 3) := by decide +kernel
theorem dX12_copy_127 : decode cX12_copy 127 = .ok (.aload_n 0, 1) := by decide +kernel
theorem dX12_copy_128 : decode cX12_copy 128 = .ok (.getfield 19, 3) := by decide +kernel
theorem dX12_copy_131 : decode cX12_copy 131 = .ok (.iload 6, 2) := by decide +kernel
theorem dX12_copy_133 : decode cX12_copy 133 = .ok (.aload_n 0, 1) := by decide +kernel
theorem dX12_copy_134 : decode cX12_copy 134 = .ok (.getfield 16, 3) := by decide +kernel
theorem dX12_copy_137 : decode cX12_copy 137 = .ok (.bipush 64, 2) := by decide +kernel
theorem dX12_copy_139 : decode cX12_copy 139 = .ok (.iload_n 1, 1) := by decide +kernel
theorem dX12_copy_140 : decode cX12_copy 140 = .ok (.imul, 1) := by decide +kernel
theorem dX12_copy_141 : decode cX12_copy 141 = .ok (.iload_n 2, 1) := by decide +kernel
theorem dX12_copy_142 : decode cX12_copy 142 = .ok (.iadd, 1) := by decide +kernel
theorem dX12_copy_143 : decode cX12_copy 143 = .ok (.iload 6, 2) := by decide +kernel
theorem dX12_copy_145 : decode cX12_copy 145 = .ok (.iadd, 1) := by decide +kernel
theorem dX12_copy_146 : decode cX12_copy 146 = .ok (.iaload, 1) := by decide +kernel
theorem dX12_copy_147 : decode cX12_copy 147 = .ok (.iastore, 1) := by decide +kernel
theorem dX12_copy_148 : decode cX12_copy 148 = .ok (.iinc 6 1, 3) := by decide +kernel
theorem dX12_copy_151 : decode cX12_copy 151 = .ok (.goto (-31), 3) := by decide +kernel
theorem dX12_copy_154 : decode cX12_copy 154 = .ok (.iconst 0, 1) := by decide +kernel
theorem dX12_copy_155 : decode cX12_copy 155 = .ok (.istore 6, 2) := by decide +kernel
theorem dX12_copy_157 : decode cX12_copy 157 = .ok (.iload 6, 2) := by decide +kernel
theorem dX12_copy_159 : decode cX12_copy 159 = .ok (.iload 5, 2) := by decide +kernel
theorem dX12_copy_161 : decode cX12_copy 161 = .ok (.if_icmp .ge 31, 3) := by decide +kernel
theorem dX12_copy_164 : decode cX12_copy 164 = .ok (.aload_n 0, 1) := by decide +kernel
theorem dX12_copy_165 : decode cX12_copy 165 = .ok (.getfield 16, 3) := by decide +kernel
theorem dX12_copy_168 : decode cX12_copy 168 = .ok (.bipush 64, 2) := by decide +kernel
theorem dX12_copy_170 : decode cX12_copy 170 = .ok (.iload_n 3, 1) := by decide +kernel
theorem dX12_copy_171 : decode cX12_copy 171 = .ok (.imul, 1) := by decide +kernel
theorem dX12_copy_172 : decode cX12_copy 172 = .ok (.iload 4, 2) := by decide +kernel
theorem dX12_copy_174 : decode cX12_copy 174 = .ok (.iadd, 1) := by decide +kernel
theorem dX12_copy_175 : decode cX12_copy 175 = .ok (.iload 6, 2) := by decide +kernel
theorem dX12_copy_177 : decode cX12_copy 177 = .ok (.iadd, 1) := by decide +kernel
theorem dX12_copy_178 : decode cX12_copy 178 = .ok (.aload_n 0, 1) := by decide +kernel
theorem dX12_copy_179 : decode cX12_copy 179 = .ok (.getfield 19, 3) := by decide +kernel
theorem dX12_copy_182 : decode cX12_copy 182 = .ok (.iload 6, 2) := by decide +kernel
theorem dX12_copy_184 : decode cX12_copy 184 = .ok (.iaload, 1) := by decide +kernel
theorem dX12_copy_185 : decode cX12_copy 185 = .ok (.iastore, 1) := by decide +kernel
theorem dX12_copy_186 : decode cX12_copy 186 = .ok (.iinc 6 1, 3) := by decide +kernel
theorem dX12_copy_189 : decode cX12_copy 189 = .ok (.goto (-32), 3) := by decide +kernel
theorem dX12_copy_192 : decode cX12_copy 192 = .ok (.iconst 1, 1) := by decide +kernel
theorem dX12_copy_193 : decode cX12_copy 193 = .ok (.ireturn, 1) := by decide +kernel
theorem dX12_room_0 : decode cX12_room 0 = .ok (.iload_n 0, 1) := by decide +kernel
theorem dX12_room_1 : decode cX12_room 1 = .ok (.ifCond .ne 8, 3) := by decide +kernel
theorem dX12_room_4 : decode cX12_room 4 = .ok (.bipush 71, 2) := by decide +kernel
theorem dX12_room_6 : decode cX12_room 6 = .ok (.goto 14, 3) := by decide +kernel
theorem dX12_room_9 : decode cX12_room 9 = .ok (.iload_n 0, 1) := by decide +kernel
theorem dX12_room_10 : decode cX12_room 10 = .ok (.iconst 1, 1) := by decide +kernel
theorem dX12_room_11 : decode cX12_room 11 = .ok (.if_icmp .ne 7, 3) := by decide +kernel
theorem dX12_room_14 : decode cX12_room 14 = .ok (.iconst 5, 1) := by decide +kernel
theorem dX12_room_15 : decode cX12_room 15 = .ok (.goto 5, 3) := by decide +kernel
theorem dX12_room_18 : decode cX12_room 18 = .ok (.bipush 40, 2) := by decide +kernel
theorem dX12_room_20 : decode cX12_room 20 = .ok (.ireturn, 1) := by decide +kernel
theorem dX12_type_0 : decode cX12_type 0 = .ok (.iload_n 1, 1) := by decide +kernel
theorem dX12_type_1 : decode cX12_type 1 = .ok (.i2l, 1) := by decide +kernel
theorem dX12_type_2 : decode cX12_type 2 = .ok (.lconst 0, 1) := by decide +kernel
theorem dX12_type_3 : decode cX12_type 3 = .ok (.ldc2_w 96, 3) := by decide +kernel
theorem dX12_type_6 : decode cX12_type 6 = .ok (.invokestatic 82, 3) := by decide +kernel
theorem dX12_type_9 : decode cX12_type 9 = .ok (.ifCond .eq 15, 3) := by decide +kernel
theorem dX12_type_12 : decode cX12_type 12 = .ok (.iload_n 2, 1) := by decide +kernel
theorem dX12_type_13 : decode cX12_type 13 = .ok (.i2l, 1) := by decide +kernel
theorem dX12_type_14 : decode cX12_type 14 = .ok (.lconst 0, 1) := by decide +kernel
theorem dX12_type_15 : decode cX12_type 15 = .ok (.ldc2_w 111, 3) := by decide +kernel
theorem dX12_type_18 : decode cX12_type 18 = .ok (.invokestatic 82, 3) := by decide +kernel
theorem dX12_type_21 : decode cX12_type 21 = .ok (.ifCond .ne 6, 3) := by decide +kernel
theorem dX12_type_24 : decode cX12_type 24 = .ok (.bipush (-2), 2) := by decide +kernel
theorem dX12_type_26 : decode cX12_type 26 = .ok (.ireturn, 1) := by decide +kernel
theorem dX12_type_27 : decode cX12_type 27 = .ok (.aload_n 0, 1) := by decide +kernel
theorem dX12_type_28 : decode cX12_type 28 = .ok (.getfield 25, 3) := by decide +kernel
theorem dX12_type_31 : decode cX12_type 31 = .ok (.iload_n 1, 1) := by decide +kernel
theorem dX12_type_32 : decode cX12_type 32 = .ok (.iaload, 1) := by decide +kernel
theorem dX12_type_33 : decode cX12_type 33 = .ok (.iload_n 1, 1) := by decide +kernel
theorem dX12_type_34 : decode cX12_type 34 = .ok (.invokestatic 113, 3) := by decide +kernel
theorem dX12_type_37 : decode cX12_type 37 = .ok (.if_icmp .ne 6, 3) := by decide +kernel
theorem dX12_type_40 : decode cX12_type 40 = .ok (.bipush (-4), 2) := by decide +kernel
theorem dX12_type_42 : decode cX12_type 42 = .ok (.ireturn, 1) := by decide +kernel
theorem dX12_type_43 : decode cX12_type 43 = .ok (.aload_n 0, 1) := by decide +kernel
theorem dX12_type_44 : decode cX12_type 44 = .ok (.getfield 22, 3) := by decide +kernel
theorem dX12_type_47 : decode cX12_type 47 = .ok (.bipush 80, 2) := by decide +kernel
theorem dX12_type_49 : decode cX12_type 49 = .ok (.iload_n 1, 1) := by decide +kernel
theorem dX12_type_50 : decode cX12_type 50 = .ok (.imul, 1) := by decide +kernel
theorem dX12_type_51 : decode cX12_type 51 = .ok (.aload_n 0, 1) := by decide +kernel
theorem dX12_type_52 : decode cX12_type 52 = .ok (.getfield 25, 3) := by decide +kernel
theorem dX12_type_55 : decode cX12_type 55 = .ok (.iload_n 1, 1) := by decide +kernel
theorem dX12_type_56 : decode cX12_type 56 = .ok (.iaload, 1) := by decide +kernel
theorem dX12_type_57 : decode cX12_type 57 = .ok (.iadd, 1) := by decide +kernel
theorem dX12_type_58 : decode cX12_type 58 = .ok (.iload_n 2, 1) := by decide +kernel
theorem dX12_type_59 : decode cX12_type 59 = .ok (.iastore, 1) := by decide +kernel
theorem dX12_type_60 : decode cX12_type 60 = .ok (.aload_n 0, 1) := by decide +kernel
theorem dX12_type_61 : decode cX12_type 61 = .ok (.getfield 25, 3) := by decide +kernel
theorem dX12_type_64 : decode cX12_type 64 = .ok (.iload_n 1, 1) := by decide +kernel
theorem dX12_type_65 : decode cX12_type 65 = .ok (.dup2, 1) := by decide +kernel
theorem dX12_type_66 : decode cX12_type 66 = .ok (.iaload, 1) := by decide +kernel
theorem dX12_type_67 : decode cX12_type 67 = .ok (.iconst 1, 1) := by decide +kernel
theorem dX12_type_68 : decode cX12_type 68 = .ok (.iadd, 1) := by decide +kernel
theorem dX12_type_69 : decode cX12_type 69 = .ok (.iastore, 1) := by decide +kernel
theorem dX12_type_70 : decode cX12_type 70 = .ok (.aload_n 0, 1) := by decide +kernel
theorem dX12_type_71 : decode cX12_type 71 = .ok (.getfield 25, 3) := by decide +kernel
theorem dX12_type_74 : decode cX12_type 74 = .ok (.iload_n 1, 1) := by decide +kernel
theorem dX12_type_75 : decode cX12_type 75 = .ok (.iaload, 1) := by decide +kernel
theorem dX12_type_76 : decode cX12_type 76 = .ok (.ireturn, 1) := by decide +kernel
theorem dX12_wipe_0 : decode cX12_wipe 0 = .ok (.iload_n 1, 1) := by decide +kernel
theorem dX12_wipe_1 : decode cX12_wipe 1 = .ok (.i2l, 1) := by decide +kernel
theorem dX12_wipe_2 : decode cX12_wipe 2 = .ok (.lconst 0, 1) := by decide +kernel
theorem dX12_wipe_3 : decode cX12_wipe 3 = .ok (.ldc2_w 96, 3) := by decide +kernel
theorem dX12_wipe_6 : decode cX12_wipe 6 = .ok (.invokestatic 82, 3) := by decide +kernel
theorem dX12_wipe_9 : decode cX12_wipe 9 = .ok (.ifCond .ne 6, 3) := by decide +kernel
theorem dX12_wipe_12 : decode cX12_wipe 12 = .ok (.bipush (-2), 2) := by decide +kernel
theorem dX12_wipe_14 : decode cX12_wipe 14 = .ok (.ireturn, 1) := by decide +kernel
theorem dX12_wipe_15 : decode cX12_wipe 15 = .ok (.aload_n 0, 1) := by decide +kernel
theorem dX12_wipe_16 : decode cX12_wipe 16 = .ok (.getfield 25, 3) := by decide +kernel
theorem dX12_wipe_19 : decode cX12_wipe 19 = .ok (.iload_n 1, 1) := by decide +kernel
theorem dX12_wipe_20 : decode cX12_wipe 20 = .ok (.iaload, 1) := by decide +kernel
theorem dX12_wipe_21 : decode cX12_wipe 21 = .ok (.istore_n 2, 1) := by decide +kernel
theorem dX12_wipe_22 : decode cX12_wipe 22 = .ok (.aload_n 0, 1) := by decide +kernel
theorem dX12_wipe_23 : decode cX12_wipe 23 = .ok (.getfield 25, 3) := by decide +kernel
theorem dX12_wipe_26 : decode cX12_wipe 26 = .ok (.iload_n 1, 1) := by decide +kernel
theorem dX12_wipe_27 : decode cX12_wipe 27 = .ok (.iconst 0, 1) := by decide +kernel
theorem dX12_wipe_28 : decode cX12_wipe 28 = .ok (.iastore, 1) := by decide +kernel
theorem dX12_wipe_29 : decode cX12_wipe 29 = .ok (.iload_n 2, 1) := by decide +kernel
theorem dX12_wipe_30 : decode cX12_wipe 30 = .ok (.ireturn, 1) := by decide +kernel
theorem dX12_undo_0 : decode cX12_undo 0 = .ok (.iload_n 1, 1) := by decide +kernel
theorem dX12_undo_1 : decode cX12_undo 1 = .ok (.i2l, 1) := by decide +kernel
theorem dX12_undo_2 : decode cX12_undo 2 = .ok (.lconst 0, 1) := by decide +kernel
theorem dX12_undo_3 : decode cX12_undo 3 = .ok (.ldc2_w 96, 3) := by decide +kernel
theorem dX12_undo_6 : decode cX12_undo 6 = .ok (.invokestatic 82, 3) := by decide +kernel
theorem dX12_undo_9 : decode cX12_undo 9 = .ok (.ifCond .ne 6, 3) := by decide +kernel
theorem dX12_undo_12 : decode cX12_undo 12 = .ok (.bipush (-2), 2) := by decide +kernel
theorem dX12_undo_14 : decode cX12_undo 14 = .ok (.ireturn, 1) := by decide +kernel
theorem dX12_undo_15 : decode cX12_undo 15 = .ok (.aload_n 0, 1) := by decide +kernel
theorem dX12_undo_16 : decode cX12_undo 16 = .ok (.getfield 25, 3) := by decide +kernel
theorem dX12_undo_19 : decode cX12_undo 19 = .ok (.iload_n 1, 1) := by decide +kernel
theorem dX12_undo_20 : decode cX12_undo 20 = .ok (.iaload, 1) := by decide +kernel
theorem dX12_undo_21 : decode cX12_undo 21 = .ok (.ifCond .ne 6, 3) := by decide +kernel
theorem dX12_undo_24 : decode cX12_undo 24 = .ok (.bipush (-3), 2) := by decide +kernel
theorem dX12_undo_26 : decode cX12_undo 26 = .ok (.ireturn, 1) := by decide +kernel
theorem dX12_undo_27 : decode cX12_undo 27 = .ok (.aload_n 0, 1) := by decide +kernel
theorem dX12_undo_28 : decode cX12_undo 28 = .ok (.getfield 25, 3) := by decide +kernel
theorem dX12_undo_31 : decode cX12_undo 31 = .ok (.iload_n 1, 1) := by decide +kernel
theorem dX12_undo_32 : decode cX12_undo 32 = .ok (.dup2, 1) := by decide +kernel
theorem dX12_undo_33 : decode cX12_undo 33 = .ok (.iaload, 1) := by decide +kernel
theorem dX12_undo_34 : decode cX12_undo 34 = .ok (.iconst 1, 1) := by decide +kernel
theorem dX12_undo_35 : decode cX12_undo 35 = .ok (.isub, 1) := by decide +kernel
theorem dX12_undo_36 : decode cX12_undo 36 = .ok (.iastore, 1) := by decide +kernel
theorem dX12_undo_37 : decode cX12_undo 37 = .ok (.aload_n 0, 1) := by decide +kernel
theorem dX12_undo_38 : decode cX12_undo 38 = .ok (.getfield 25, 3) := by decide +kernel
theorem dX12_undo_41 : decode cX12_undo 41 = .ok (.iload_n 1, 1) := by decide +kernel
theorem dX12_undo_42 : decode cX12_undo 42 = .ok (.iaload, 1) := by decide +kernel
theorem dX12_undo_43 : decode cX12_undo 43 = .ok (.ireturn, 1) := by decide +kernel
theorem dX12_here_0 : decode cX12_here 0 = .ok (.aload_n 0, 1) := by decide +kernel
theorem dX12_here_1 : decode cX12_here 1 = .ok (.getfield 116, 3) := by decide +kernel
theorem dX12_here_4 : decode cX12_here 4 = .ok (.aload_n 0, 1) := by decide +kernel
theorem dX12_here_5 : decode cX12_here 5 = .ok (.getfield 25, 3) := by decide +kernel
theorem dX12_here_8 : decode cX12_here 8 = .ok (.iload_n 1, 1) := by decide +kernel
theorem dX12_here_9 : decode cX12_here 9 = .ok (.iaload, 1) := by decide +kernel
theorem dX12_here_10 : decode cX12_here 10 = .ok (.if_icmp .ge 20, 3) := by decide +kernel
theorem dX12_here_13 : decode cX12_here 13 = .ok (.aload_n 0, 1) := by decide +kernel
theorem dX12_here_14 : decode cX12_here 14 = .ok (.getfield 22, 3) := by decide +kernel
theorem dX12_here_17 : decode cX12_here 17 = .ok (.bipush 80, 2) := by decide +kernel
theorem dX12_here_19 : decode cX12_here 19 = .ok (.iload_n 1, 1) := by decide +kernel
theorem dX12_here_20 : decode cX12_here 20 = .ok (.imul, 1) := by decide +kernel
theorem dX12_here_21 : decode cX12_here 21 = .ok (.aload_n 0, 1) := by decide +kernel
theorem dX12_here_22 : decode cX12_here 22 = .ok (.getfield 116, 3) := by decide +kernel
theorem dX12_here_25 : decode cX12_here 25 = .ok (.iadd, 1) := by decide +kernel
theorem dX12_here_26 : decode cX12_here 26 = .ok (.iaload, 1) := by decide +kernel
theorem dX12_here_27 : decode cX12_here 27 = .ok (.goto 4, 3) := by decide +kernel
theorem dX12_here_30 : decode cX12_here 30 = .ok (.iconst (-1), 1) := by decide +kernel
theorem dX12_here_31 : decode cX12_here 31 = .ok (.ireturn, 1) := by decide +kernel
theorem dX12_clears_0 : decode cX12_clears 0 = .ok (.iconst 0, 1) := by decide +kernel
theorem dX12_clears_1 : decode cX12_clears 1 = .ok (.istore_n 1, 1) := by decide +kernel
theorem dX12_clears_2 : decode cX12_clears 2 = .ok (.iload_n 1, 1) := by decide +kernel
theorem dX12_clears_3 : decode cX12_clears 3 = .ok (.bipush 64, 2) := by decide +kernel
theorem dX12_clears_5 : decode cX12_clears 5 = .ok (.if_icmp .ge 17, 3) := by decide +kernel
theorem dX12_clears_8 : decode cX12_clears 8 = .ok (.aload_n 0, 1) := by decide +kernel
theorem dX12_clears_9 : decode cX12_clears 9 = .ok (.getfield 28, 3) := by decide +kernel
theorem dX12_clears_12 : decode cX12_clears 12 = .ok (.iload_n 1, 1) := by decide +kernel
theorem dX12_clears_13 : decode cX12_clears 13 = .ok (.bipush 99, 2) := by decide +kernel
theorem dX12_clears_15 : decode cX12_clears 15 = .ok (.iastore, 1) := by decide +kernel
theorem dX12_clears_16 : decode cX12_clears 16 = .ok (.iinc 1 1, 3) := by decide +kernel
theorem dX12_clears_19 : decode cX12_clears 19 = .ok (.goto (-17), 3) := by decide +kernel
theorem dX12_clears_22 : decode cX12_clears 22 = .ok (.return_, 1) := by decide +kernel
theorem dX12_readsRow_0 : decode cX12_readsRow 0 = .ok (.iconst 0, 1) := by decide +kernel
theorem dX12_readsRow_1 : decode cX12_readsRow 1 = .ok (.istore_n 3, 1) := by decide +kernel
theorem dX12_readsRow_2 : decode cX12_readsRow 2 = .ok (.aload_n 0, 1) := by decide +kernel
theorem dX12_readsRow_3 : decode cX12_readsRow 3 = .ok (.getfield 116, 3) := by decide +kernel
theorem dX12_readsRow_6 : decode cX12_readsRow 6 = .ok (.aload_n 0, 1) := by decide +kernel
end
section
theorem dX12_readsRow_7 : decode cX12_readsRow 7 = .ok (.getfield 25, 3) := by decide +kernel
theorem dX12_readsRow_10 : decode cX12_readsRow 10 = .ok (.iconst 0, 1) := by decide +kernel
theorem dX12_readsRow_11 : decode cX12_readsRow 11 = .ok (.iaload, 1) := by decide +kernel
theorem dX12_readsRow_12 : decode cX12_readsRow 12 = .ok (.if_icmp .ge 106, 3) := by decide +kernel
theorem dX12_readsRow_15 : decode cX12_readsRow 15 = .ok (.aload_n 0, 1) := by decide +kernel
theorem dX12_readsRow_16 : decode cX12_readsRow 16 = .ok (.iconst 0, 1) := by decide +kernel
theorem dX12_readsRow_17 : decode cX12_readsRow 17 = .ok (.invokevirtual 119, 3) := by decide +kernel
theorem dX12_readsRow_20 : decode cX12_readsRow 20 = .ok (.bipush 59, 2) := by decide +kernel
theorem dX12_readsRow_22 : decode cX12_readsRow 22 = .ok (.if_icmp .eq 96, 3) := by decide +kernel
theorem dX12_readsRow_25 : decode cX12_readsRow 25 = .ok (.aload_n 0, 1) := by decide +kernel
theorem dX12_readsRow_26 : decode cX12_readsRow 26 = .ok (.iconst 0, 1) := by decide +kernel
theorem dX12_readsRow_27 : decode cX12_readsRow 27 = .ok (.invokevirtual 119, 3) := by decide +kernel
theorem dX12_readsRow_30 : decode cX12_readsRow 30 = .ok (.istore 4, 2) := by decide +kernel
theorem dX12_readsRow_32 : decode cX12_readsRow 32 = .ok (.iload_n 2, 1) := by decide +kernel
theorem dX12_readsRow_33 : decode cX12_readsRow 33 = .ok (.ifCond .ne 8, 3) := by decide +kernel
theorem dX12_readsRow_36 : decode cX12_readsRow 36 = .ok (.bipush 8, 2) := by decide +kernel
theorem dX12_readsRow_38 : decode cX12_readsRow 38 = .ok (.goto 4, 3) := by decide +kernel
theorem dX12_readsRow_41 : decode cX12_readsRow 41 = .ok (.iload_n 2, 1) := by decide +kernel
theorem dX12_readsRow_42 : decode cX12_readsRow 42 = .ok (.istore 5, 2) := by decide +kernel
theorem dX12_readsRow_44 : decode cX12_readsRow 44 = .ok (.iload_n 3, 1) := by decide +kernel
theorem dX12_readsRow_45 : decode cX12_readsRow 45 = .ok (.iload 5, 2) := by decide +kernel
theorem dX12_readsRow_47 : decode cX12_readsRow 47 = .ok (.if_icmp .eq 25, 3) := by decide +kernel
theorem dX12_readsRow_50 : decode cX12_readsRow 50 = .ok (.iload 4, 2) := by decide +kernel
theorem dX12_readsRow_52 : decode cX12_readsRow 52 = .ok (.bipush 35, 2) := by decide +kernel
theorem dX12_readsRow_54 : decode cX12_readsRow 54 = .ok (.if_icmp .eq 20, 3) := by decide +kernel
theorem dX12_readsRow_57 : decode cX12_readsRow 57 = .ok (.iload 4, 2) := by decide +kernel
theorem dX12_readsRow_59 : decode cX12_readsRow 59 = .ok (.i2l, 1) := by decide +kernel
theorem dX12_readsRow_60 : decode cX12_readsRow 60 = .ok (.ldc2_w 122, 3) := by decide +kernel
theorem dX12_readsRow_63 : decode cX12_readsRow 63 = .ok (.ldc2_w 124, 3) := by decide +kernel
theorem dX12_readsRow_66 : decode cX12_readsRow 66 = .ok (.invokestatic 82, 3) := by decide +kernel
theorem dX12_readsRow_69 : decode cX12_readsRow 69 = .ok (.ifCond .ne 5, 3) := by decide +kernel
theorem dX12_readsRow_72 : decode cX12_readsRow 72 = .ok (.iconst (-1), 1) := by decide +kernel
theorem dX12_readsRow_73 : decode cX12_readsRow 73 = .ok (.ireturn, 1) := by decide +kernel
theorem dX12_readsRow_74 : decode cX12_readsRow 74 = .ok (.aload_n 0, 1) := by decide +kernel
theorem dX12_readsRow_75 : decode cX12_readsRow 75 = .ok (.getfield 28, 3) := by decide +kernel
theorem dX12_readsRow_78 : decode cX12_readsRow 78 = .ok (.bipush 8, 2) := by decide +kernel
theorem dX12_readsRow_80 : decode cX12_readsRow 80 = .ok (.iload_n 1, 1) := by decide +kernel
theorem dX12_readsRow_81 : decode cX12_readsRow 81 = .ok (.imul, 1) := by decide +kernel
theorem dX12_readsRow_82 : decode cX12_readsRow 82 = .ok (.iload_n 3, 1) := by decide +kernel
theorem dX12_readsRow_83 : decode cX12_readsRow 83 = .ok (.iadd, 1) := by decide +kernel
theorem dX12_readsRow_84 : decode cX12_readsRow 84 = .ok (.iload 4, 2) := by decide +kernel
theorem dX12_readsRow_86 : decode cX12_readsRow 86 = .ok (.bipush 35, 2) := by decide +kernel
theorem dX12_readsRow_88 : decode cX12_readsRow 88 = .ok (.if_icmp .ne 8, 3) := by decide +kernel
theorem dX12_readsRow_91 : decode cX12_readsRow 91 = .ok (.bipush 99, 2) := by decide +kernel
theorem dX12_readsRow_93 : decode cX12_readsRow 93 = .ok (.goto 8, 3) := by decide +kernel
theorem dX12_readsRow_96 : decode cX12_readsRow 96 = .ok (.iload 4, 2) := by decide +kernel
theorem dX12_readsRow_98 : decode cX12_readsRow 98 = .ok (.bipush 48, 2) := by decide +kernel
theorem dX12_readsRow_100 : decode cX12_readsRow 100 = .ok (.isub, 1) := by decide +kernel
theorem dX12_readsRow_101 : decode cX12_readsRow 101 = .ok (.iastore, 1) := by decide +kernel
theorem dX12_readsRow_102 : decode cX12_readsRow 102 = .ok (.iinc 3 1, 3) := by decide +kernel
theorem dX12_readsRow_105 : decode cX12_readsRow 105 = .ok (.aload_n 0, 1) := by decide +kernel
theorem dX12_readsRow_106 : decode cX12_readsRow 106 = .ok (.dup, 1) := by decide +kernel
theorem dX12_readsRow_107 : decode cX12_readsRow 107 = .ok (.getfield 116, 3) := by decide +kernel
theorem dX12_readsRow_110 : decode cX12_readsRow 110 = .ok (.iconst 1, 1) := by decide +kernel
theorem dX12_readsRow_111 : decode cX12_readsRow 111 = .ok (.iadd, 1) := by decide +kernel
theorem dX12_readsRow_112 : decode cX12_readsRow 112 = .ok (.putfield 116, 3) := by decide +kernel
theorem dX12_readsRow_115 : decode cX12_readsRow 115 = .ok (.goto (-113), 3) := by decide +kernel
theorem dX12_readsRow_118 : decode cX12_readsRow 118 = .ok (.iload_n 3, 1) := by decide +kernel
theorem dX12_readsRow_119 : decode cX12_readsRow 119 = .ok (.ifCond .eq 12, 3) := by decide +kernel
theorem dX12_readsRow_122 : decode cX12_readsRow 122 = .ok (.iload_n 2, 1) := by decide +kernel
theorem dX12_readsRow_123 : decode cX12_readsRow 123 = .ok (.ifCond .le 12, 3) := by decide +kernel
theorem dX12_readsRow_126 : decode cX12_readsRow 126 = .ok (.iload_n 3, 1) := by decide +kernel
theorem dX12_readsRow_127 : decode cX12_readsRow 127 = .ok (.iload_n 2, 1) := by decide +kernel
theorem dX12_readsRow_128 : decode cX12_readsRow 128 = .ok (.if_icmp .ge 7, 3) := by decide +kernel
theorem dX12_readsRow_131 : decode cX12_readsRow 131 = .ok (.iconst (-1), 1) := by decide +kernel
theorem dX12_readsRow_132 : decode cX12_readsRow 132 = .ok (.goto 4, 3) := by decide +kernel
theorem dX12_readsRow_135 : decode cX12_readsRow 135 = .ok (.iload_n 3, 1) := by decide +kernel
theorem dX12_readsRow_136 : decode cX12_readsRow 136 = .ok (.ireturn, 1) := by decide +kernel
theorem dX12_readsFair_0 : decode cX12_readsFair 0 = .ok (.aload_n 0, 1) := by decide +kernel
theorem dX12_readsFair_1 : decode cX12_readsFair 1 = .ok (.invokevirtual 126, 3) := by decide +kernel
theorem dX12_readsFair_4 : decode cX12_readsFair 4 = .ok (.aload_n 0, 1) := by decide +kernel
theorem dX12_readsFair_5 : decode cX12_readsFair 5 = .ok (.iconst 0, 1) := by decide +kernel
theorem dX12_readsFair_6 : decode cX12_readsFair 6 = .ok (.putfield 116, 3) := by decide +kernel
theorem dX12_readsFair_9 : decode cX12_readsFair 9 = .ok (.iconst 0, 1) := by decide +kernel
theorem dX12_readsFair_10 : decode cX12_readsFair 10 = .ok (.istore_n 1, 1) := by decide +kernel
theorem dX12_readsFair_11 : decode cX12_readsFair 11 = .ok (.iconst 0, 1) := by decide +kernel
theorem dX12_readsFair_12 : decode cX12_readsFair 12 = .ok (.istore_n 2, 1) := by decide +kernel
theorem dX12_readsFair_13 : decode cX12_readsFair 13 = .ok (.aload_n 0, 1) := by decide +kernel
theorem dX12_readsFair_14 : decode cX12_readsFair 14 = .ok (.getfield 25, 3) := by decide +kernel
theorem dX12_readsFair_17 : decode cX12_readsFair 17 = .ok (.iconst 0, 1) := by decide +kernel
theorem dX12_readsFair_18 : decode cX12_readsFair 18 = .ok (.iaload, 1) := by decide +kernel
theorem dX12_readsFair_19 : decode cX12_readsFair 19 = .ok (.ifCond .le 7, 3) := by decide +kernel
theorem dX12_readsFair_22 : decode cX12_readsFair 22 = .ok (.iconst 1, 1) := by decide +kernel
theorem dX12_readsFair_23 : decode cX12_readsFair 23 = .ok (.goto 4, 3) := by decide +kernel
theorem dX12_readsFair_26 : decode cX12_readsFair 26 = .ok (.iconst 0, 1) := by decide +kernel
theorem dX12_readsFair_27 : decode cX12_readsFair 27 = .ok (.istore_n 3, 1) := by decide +kernel
theorem dX12_readsFair_28 : decode cX12_readsFair 28 = .ok (.iload_n 3, 1) := by decide +kernel
theorem dX12_readsFair_29 : decode cX12_readsFair 29 = .ok (.ifCond .eq 82, 3) := by decide +kernel
theorem dX12_readsFair_32 : decode cX12_readsFair 32 = .ok (.iload_n 1, 1) := by decide +kernel
theorem dX12_readsFair_33 : decode cX12_readsFair 33 = .ok (.bipush 8, 2) := by decide +kernel
theorem dX12_readsFair_35 : decode cX12_readsFair 35 = .ok (.if_icmp .ne 7, 3) := by decide +kernel
theorem dX12_readsFair_38 : decode cX12_readsFair 38 = .ok (.iconst (-1), 1) := by decide +kernel
theorem dX12_readsFair_39 : decode cX12_readsFair 39 = .ok (.goto 9, 3) := by decide +kernel
theorem dX12_readsFair_42 : decode cX12_readsFair 42 = .ok (.aload_n 0, 1) := by decide +kernel
theorem dX12_readsFair_43 : decode cX12_readsFair 43 = .ok (.iload_n 1, 1) := by decide +kernel
theorem dX12_readsFair_44 : decode cX12_readsFair 44 = .ok (.iload_n 2, 1) := by decide +kernel
theorem dX12_readsFair_45 : decode cX12_readsFair 45 = .ok (.invokevirtual 129, 3) := by decide +kernel
theorem dX12_readsFair_48 : decode cX12_readsFair 48 = .ok (.istore 4, 2) := by decide +kernel
theorem dX12_readsFair_50 : decode cX12_readsFair 50 = .ok (.iload 4, 2) := by decide +kernel
theorem dX12_readsFair_52 : decode cX12_readsFair 52 = .ok (.iconst (-1), 1) := by decide +kernel
theorem dX12_readsFair_53 : decode cX12_readsFair 53 = .ok (.if_icmp .ne 12, 3) := by decide +kernel
theorem dX12_readsFair_56 : decode cX12_readsFair 56 = .ok (.aload_n 0, 1) := by decide +kernel
theorem dX12_readsFair_57 : decode cX12_readsFair 57 = .ok (.invokevirtual 126, 3) := by decide +kernel
theorem dX12_readsFair_60 : decode cX12_readsFair 60 = .ok (.aload_n 0, 1) := by decide +kernel
theorem dX12_readsFair_61 : decode cX12_readsFair 61 = .ok (.getfield 116, 3) := by decide +kernel
theorem dX12_readsFair_64 : decode cX12_readsFair 64 = .ok (.ireturn, 1) := by decide +kernel
theorem dX12_readsFair_65 : decode cX12_readsFair 65 = .ok (.iload 4, 2) := by decide +kernel
theorem dX12_readsFair_67 : decode cX12_readsFair 67 = .ok (.istore_n 2, 1) := by decide +kernel
theorem dX12_readsFair_68 : decode cX12_readsFair 68 = .ok (.iinc 1 1, 3) := by decide +kernel
theorem dX12_readsFair_71 : decode cX12_readsFair 71 = .ok (.aload_n 0, 1) := by decide +kernel
theorem dX12_readsFair_72 : decode cX12_readsFair 72 = .ok (.getfield 116, 3) := by decide +kernel
theorem dX12_readsFair_75 : decode cX12_readsFair 75 = .ok (.aload_n 0, 1) := by decide +kernel
theorem dX12_readsFair_76 : decode cX12_readsFair 76 = .ok (.getfield 25, 3) := by decide +kernel
theorem dX12_readsFair_79 : decode cX12_readsFair 79 = .ok (.iconst 0, 1) := by decide +kernel
theorem dX12_readsFair_80 : decode cX12_readsFair 80 = .ok (.iaload, 1) := by decide +kernel
theorem dX12_readsFair_81 : decode cX12_readsFair 81 = .ok (.if_icmp .ge 7, 3) := by decide +kernel
theorem dX12_readsFair_84 : decode cX12_readsFair 84 = .ok (.iconst 1, 1) := by decide +kernel
theorem dX12_readsFair_85 : decode cX12_readsFair 85 = .ok (.goto 4, 3) := by decide +kernel
theorem dX12_readsFair_88 : decode cX12_readsFair 88 = .ok (.iconst 0, 1) := by decide +kernel
theorem dX12_readsFair_89 : decode cX12_readsFair 89 = .ok (.istore_n 3, 1) := by decide +kernel
theorem dX12_readsFair_90 : decode cX12_readsFair 90 = .ok (.aload_n 0, 1) := by decide +kernel
theorem dX12_readsFair_91 : decode cX12_readsFair 91 = .ok (.dup, 1) := by decide +kernel
theorem dX12_readsFair_92 : decode cX12_readsFair 92 = .ok (.getfield 116, 3) := by decide +kernel
theorem dX12_readsFair_95 : decode cX12_readsFair 95 = .ok (.iload_n 3, 1) := by decide +kernel
theorem dX12_readsFair_96 : decode cX12_readsFair 96 = .ok (.ifCond .eq 7, 3) := by decide +kernel
theorem dX12_readsFair_99 : decode cX12_readsFair 99 = .ok (.iconst 1, 1) := by decide +kernel
theorem dX12_readsFair_100 : decode cX12_readsFair 100 = .ok (.goto 4, 3) := by decide +kernel
theorem dX12_readsFair_103 : decode cX12_readsFair 103 = .ok (.iconst 0, 1) := by decide +kernel
theorem dX12_readsFair_104 : decode cX12_readsFair 104 = .ok (.iadd, 1) := by decide +kernel
theorem dX12_readsFair_105 : decode cX12_readsFair 105 = .ok (.putfield 116, 3) := by decide +kernel
theorem dX12_readsFair_108 : decode cX12_readsFair 108 = .ok (.goto (-80), 3) := by decide +kernel
theorem dX12_readsFair_111 : decode cX12_readsFair 111 = .ok (.iconst (-1), 1) := by decide +kernel
theorem dX12_readsFair_112 : decode cX12_readsFair 112 = .ok (.ireturn, 1) := by decide +kernel
theorem dX12_readsOrder_0 : decode cX12_readsOrder 0 = .ok (.aload_n 0, 1) := by decide +kernel
theorem dX12_readsOrder_1 : decode cX12_readsOrder 1 = .ok (.iconst 0, 1) := by decide +kernel
theorem dX12_readsOrder_2 : decode cX12_readsOrder 2 = .ok (.putfield 132, 3) := by decide +kernel
theorem dX12_readsOrder_5 : decode cX12_readsOrder 5 = .ok (.iconst 0, 1) := by decide +kernel
theorem dX12_readsOrder_6 : decode cX12_readsOrder 6 = .ok (.istore_n 1, 1) := by decide +kernel
theorem dX12_readsOrder_7 : decode cX12_readsOrder 7 = .ok (.iconst 0, 1) := by decide +kernel
theorem dX12_readsOrder_8 : decode cX12_readsOrder 8 = .ok (.istore_n 2, 1) := by decide +kernel
theorem dX12_readsOrder_9 : decode cX12_readsOrder 9 = .ok (.iload_n 2, 1) := by decide +kernel
theorem dX12_readsOrder_10 : decode cX12_readsOrder 10 = .ok (.aload_n 0, 1) := by decide +kernel
theorem dX12_readsOrder_11 : decode cX12_readsOrder 11 = .ok (.getfield 25, 3) := by decide +kernel
theorem dX12_readsOrder_14 : decode cX12_readsOrder 14 = .ok (.iconst 1, 1) := by decide +kernel
theorem dX12_readsOrder_15 : decode cX12_readsOrder 15 = .ok (.iaload, 1) := by decide +kernel
theorem dX12_readsOrder_16 : decode cX12_readsOrder 16 = .ok (.if_icmp .ge 75, 3) := by decide +kernel
theorem dX12_readsOrder_19 : decode cX12_readsOrder 19 = .ok (.aload_n 0, 1) := by decide +kernel
theorem dX12_readsOrder_20 : decode cX12_readsOrder 20 = .ok (.getfield 22, 3) := by decide +kernel
theorem dX12_readsOrder_23 : decode cX12_readsOrder 23 = .ok (.bipush 80, 2) := by decide +kernel
theorem dX12_readsOrder_25 : decode cX12_readsOrder 25 = .ok (.iload_n 2, 1) := by decide +kernel
theorem dX12_readsOrder_26 : decode cX12_readsOrder 26 = .ok (.iadd, 1) := by decide +kernel
theorem dX12_readsOrder_27 : decode cX12_readsOrder 27 = .ok (.iaload, 1) := by decide +kernel
theorem dX12_readsOrder_28 : decode cX12_readsOrder 28 = .ok (.bipush 97, 2) := by decide +kernel
theorem dX12_readsOrder_30 : decode cX12_readsOrder 30 = .ok (.isub, 1) := by decide +kernel
theorem dX12_readsOrder_31 : decode cX12_readsOrder 31 = .ok (.istore_n 3, 1) := by decide +kernel
theorem dX12_readsOrder_32 : decode cX12_readsOrder 32 = .ok (.iload_n 3, 1) := by decide +kernel
theorem dX12_readsOrder_33 : decode cX12_readsOrder 33 = .ok (.i2l, 1) := by decide +kernel
theorem dX12_readsOrder_34 : decode cX12_readsOrder 34 = .ok (.lconst 0, 1) := by decide +kernel
theorem dX12_readsOrder_35 : decode cX12_readsOrder 35 = .ok (.ldc2_w 135, 3) := by decide +kernel
theorem dX12_readsOrder_38 : decode cX12_readsOrder 38 = .ok (.invokestatic 82, 3) := by decide +kernel
theorem dX12_readsOrder_41 : decode cX12_readsOrder 41 = .ok (.ifCond .eq 11, 3) := by decide +kernel
theorem dX12_readsOrder_44 : decode cX12_readsOrder 44 = .ok (.iload_n 1, 1) := by decide +kernel
theorem dX12_readsOrder_45 : decode cX12_readsOrder 45 = .ok (.iload_n 3, 1) := by decide +kernel
theorem dX12_readsOrder_46 : decode cX12_readsOrder 46 = .ok (.invokestatic 137, 3) := by decide +kernel
theorem dX12_readsOrder_49 : decode cX12_readsOrder 49 = .ok (.ifCond .eq 10, 3) := by decide +kernel
theorem dX12_readsOrder_52 : decode cX12_readsOrder 52 = .ok (.aload_n 0, 1) := by decide +kernel
theorem dX12_readsOrder_53 : decode cX12_readsOrder 53 = .ok (.iconst 0, 1) := by decide +kernel
theorem dX12_readsOrder_54 : decode cX12_readsOrder 54 = .ok (.putfield 132, 3) := by decide +kernel
theorem dX12_readsOrder_57 : decode cX12_readsOrder 57 = .ok (.iload_n 2, 1) := by decide +kernel
theorem dX12_readsOrder_58 : decode cX12_readsOrder 58 = .ok (.ireturn, 1) := by decide +kernel
theorem dX12_readsOrder_59 : decode cX12_readsOrder 59 = .ok (.iload_n 1, 1) := by decide +kernel
theorem dX12_readsOrder_60 : decode cX12_readsOrder 60 = .ok (.iconst 1, 1) := by decide +kernel
theorem dX12_readsOrder_61 : decode cX12_readsOrder 61 = .ok (.iload_n 3, 1) := by decide +kernel
theorem dX12_readsOrder_62 : decode cX12_readsOrder 62 = .ok (.ishl, 1) := by decide +kernel
theorem dX12_readsOrder_63 : decode cX12_readsOrder 63 = .ok (.ior, 1) := by decide +kernel
theorem dX12_readsOrder_64 : decode cX12_readsOrder 64 = .ok (.istore_n 1, 1) := by decide +kernel
theorem dX12_readsOrder_65 : decode cX12_readsOrder 65 = .ok (.aload_n 0, 1) := by decide +kernel
theorem dX12_readsOrder_66 : decode cX12_readsOrder 66 = .ok (.getfield 31, 3) := by decide +kernel
theorem dX12_readsOrder_69 : decode cX12_readsOrder 69 = .ok (.aload_n 0, 1) := by decide +kernel
theorem dX12_readsOrder_70 : decode cX12_readsOrder 70 = .ok (.getfield 132, 3) := by decide +kernel
theorem dX12_readsOrder_73 : decode cX12_readsOrder 73 = .ok (.iload_n 3, 1) := by decide +kernel
theorem dX12_readsOrder_74 : decode cX12_readsOrder 74 = .ok (.iastore, 1) := by decide +kernel
theorem dX12_readsOrder_75 : decode cX12_readsOrder 75 = .ok (.aload_n 0, 1) := by decide +kernel
theorem dX12_readsOrder_76 : decode cX12_readsOrder 76 = .ok (.dup, 1) := by decide +kernel
theorem dX12_readsOrder_77 : decode cX12_readsOrder 77 = .ok (.getfield 132, 3) := by decide +kernel
theorem dX12_readsOrder_80 : decode cX12_readsOrder 80 = .ok (.iconst 1, 1) := by decide +kernel
theorem dX12_readsOrder_81 : decode cX12_readsOrder 81 = .ok (.iadd, 1) := by decide +kernel
theorem dX12_readsOrder_82 : decode cX12_readsOrder 82 = .ok (.putfield 132, 3) := by decide +kernel
theorem dX12_readsOrder_85 : decode cX12_readsOrder 85 = .ok (.iinc 2 1, 3) := by decide +kernel
theorem dX12_readsOrder_88 : decode cX12_readsOrder 88 = .ok (.goto (-79), 3) := by decide +kernel
theorem dX12_readsOrder_91 : decode cX12_readsOrder 91 = .ok (.iconst (-1), 1) := by decide +kernel
theorem dX12_readsOrder_92 : decode cX12_readsOrder 92 = .ok (.ireturn, 1) := by decide +kernel
theorem dX12_letterOf_0 : decode cX12_letterOf 0 = .ok (.iload_n 0, 1) := by decide +kernel
theorem dX12_letterOf_1 : decode cX12_letterOf 1 = .ok (.bipush 110, 2) := by decide +kernel
theorem dX12_letterOf_3 : decode cX12_letterOf 3 = .ok (.if_icmp .ne 7, 3) := by decide +kernel
theorem dX12_letterOf_6 : decode cX12_letterOf 6 = .ok (.iconst 0, 1) := by decide +kernel
theorem dX12_letterOf_7 : decode cX12_letterOf 7 = .ok (.goto 34, 3) := by decide +kernel
theorem dX12_letterOf_10 : decode cX12_letterOf 10 = .ok (.iload_n 0, 1) := by decide +kernel
theorem dX12_letterOf_11 : decode cX12_letterOf 11 = .ok (.bipush 101, 2) := by decide +kernel
theorem dX12_letterOf_13 : decode cX12_letterOf 13 = .ok (.if_icmp .ne 7, 3) := by decide +kernel
theorem dX12_letterOf_16 : decode cX12_letterOf 16 = .ok (.iconst 1, 1) := by decide +kernel
theorem dX12_letterOf_17 : decode cX12_letterOf 17 = .ok (.goto 24, 3) := by decide +kernel
theorem dX12_letterOf_20 : decode cX12_letterOf 20 = .ok (.iload_n 0, 1) := by decide +kernel
theorem dX12_letterOf_21 : decode cX12_letterOf 21 = .ok (.bipush 115, 2) := by decide +kernel
theorem dX12_letterOf_23 : decode cX12_letterOf 23 = .ok (.if_icmp .ne 7, 3) := by decide +kernel
theorem dX12_letterOf_26 : decode cX12_letterOf 26 = .ok (.iconst 2, 1) := by decide +kernel
theorem dX12_letterOf_27 : decode cX12_letterOf 27 = .ok (.goto 14, 3) := by decide +kernel
theorem dX12_letterOf_30 : decode cX12_letterOf 30 = .ok (.iload_n 0, 1) := by decide +kernel
theorem dX12_letterOf_31 : decode cX12_letterOf 31 = .ok (.bipush 119, 2) := by decide +kernel
theorem dX12_letterOf_33 : decode cX12_letterOf 33 = .ok (.if_icmp .ne 7, 3) := by decide +kernel
theorem dX12_letterOf_36 : decode cX12_letterOf 36 = .ok (.iconst 3, 1) := by decide +kernel
theorem dX12_letterOf_37 : decode cX12_letterOf 37 = .ok (.goto 4, 3) := by decide +kernel
theorem dX12_letterOf_40 : decode cX12_letterOf 40 = .ok (.iconst (-1), 1) := by decide +kernel
theorem dX12_letterOf_41 : decode cX12_letterOf 41 = .ok (.ireturn, 1) := by decide +kernel
theorem dX12_readsWay_0 : decode cX12_readsWay 0 = .ok (.aload_n 0, 1) := by decide +kernel
theorem dX12_readsWay_1 : decode cX12_readsWay 1 = .ok (.iconst 0, 1) := by decide +kernel
theorem dX12_readsWay_2 : decode cX12_readsWay 2 = .ok (.putfield 141, 3) := by decide +kernel
theorem dX12_readsWay_5 : decode cX12_readsWay 5 = .ok (.iconst 0, 1) := by decide +kernel
theorem dX12_readsWay_6 : decode cX12_readsWay 6 = .ok (.istore_n 1, 1) := by decide +kernel
theorem dX12_readsWay_7 : decode cX12_readsWay 7 = .ok (.iload_n 1, 1) := by decide +kernel
theorem dX12_readsWay_8 : decode cX12_readsWay 8 = .ok (.aload_n 0, 1) := by decide +kernel
theorem dX12_readsWay_9 : decode cX12_readsWay 9 = .ok (.getfield 25, 3) := by decide +kernel
theorem dX12_readsWay_12 : decode cX12_readsWay 12 = .ok (.iconst 2, 1) := by decide +kernel
theorem dX12_readsWay_13 : decode cX12_readsWay 13 = .ok (.iaload, 1) := by decide +kernel
theorem dX12_readsWay_14 : decode cX12_readsWay 14 = .ok (.if_icmp .ge 55, 3) := by decide +kernel
theorem dX12_readsWay_17 : decode cX12_readsWay 17 = .ok (.aload_n 0, 1) := by decide +kernel
theorem dX12_readsWay_18 : decode cX12_readsWay 18 = .ok (.getfield 22, 3) := by decide +kernel
theorem dX12_readsWay_21 : decode cX12_readsWay 21 = .ok (.sipush 160, 3) := by decide +kernel
theorem dX12_readsWay_24 : decode cX12_readsWay 24 = .ok (.iload_n 1, 1) := by decide +kernel
theorem dX12_readsWay_25 : decode cX12_readsWay 25 = .ok (.iadd, 1) := by decide +kernel
theorem dX12_readsWay_26 : decode cX12_readsWay 26 = .ok (.iaload, 1) := by decide +kernel
theorem dX12_readsWay_27 : decode cX12_readsWay 27 = .ok (.invokestatic 144, 3) := by decide +kernel
theorem dX12_readsWay_30 : decode cX12_readsWay 30 = .ok (.istore_n 2, 1) := by decide +kernel
theorem dX12_readsWay_31 : decode cX12_readsWay 31 = .ok (.iload_n 2, 1) := by decide +kernel
theorem dX12_readsWay_32 : decode cX12_readsWay 32 = .ok (.iconst (-1), 1) := by decide +kernel
theorem dX12_readsWay_33 : decode cX12_readsWay 33 = .ok (.if_icmp .ne 10, 3) := by decide +kernel
theorem dX12_readsWay_36 : decode cX12_readsWay 36 = .ok (.aload_n 0, 1) := by decide +kernel
theorem dX12_readsWay_37 : decode cX12_readsWay 37 = .ok (.iconst 0, 1) := by decide +kernel
theorem dX12_readsWay_38 : decode cX12_readsWay 38 = .ok (.putfield 141, 3) := by decide +kernel
theorem dX12_readsWay_41 : decode cX12_readsWay 41 = .ok (.iload_n 1, 1) := by decide +kernel
theorem dX12_readsWay_42 : decode cX12_readsWay 42 = .ok (.ireturn, 1) := by decide +kernel
theorem dX12_readsWay_43 : decode cX12_readsWay 43 = .ok (.aload_n 0, 1) := by decide +kernel
theorem dX12_readsWay_44 : decode cX12_readsWay 44 = .ok (.getfield 34, 3) := by decide +kernel
theorem dX12_readsWay_47 : decode cX12_readsWay 47 = .ok (.aload_n 0, 1) := by decide +kernel
theorem dX12_readsWay_48 : decode cX12_readsWay 48 = .ok (.getfield 141, 3) := by decide +kernel
theorem dX12_readsWay_51 : decode cX12_readsWay 51 = .ok (.iload_n 2, 1) := by decide +kernel
theorem dX12_readsWay_52 : decode cX12_readsWay 52 = .ok (.iastore, 1) := by decide +kernel
theorem dX12_readsWay_53 : decode cX12_readsWay 53 = .ok (.aload_n 0, 1) := by decide +kernel
theorem dX12_readsWay_54 : decode cX12_readsWay 54 = .ok (.dup, 1) := by decide +kernel
theorem dX12_readsWay_55 : decode cX12_readsWay 55 = .ok (.getfield 141, 3) := by decide +kernel
theorem dX12_readsWay_58 : decode cX12_readsWay 58 = .ok (.iconst 1, 1) := by decide +kernel
theorem dX12_readsWay_59 : decode cX12_readsWay 59 = .ok (.iadd, 1) := by decide +kernel
theorem dX12_readsWay_60 : decode cX12_readsWay 60 = .ok (.putfield 141, 3) := by decide +kernel
theorem dX12_readsWay_63 : decode cX12_readsWay 63 = .ok (.iinc 1 1, 3) := by decide +kernel
theorem dX12_readsWay_66 : decode cX12_readsWay 66 = .ok (.goto (-59), 3) := by decide +kernel
theorem dX12_readsWay_69 : decode cX12_readsWay 69 = .ok (.iconst (-1), 1) := by decide +kernel
theorem dX12_readsWay_70 : decode cX12_readsWay 70 = .ok (.ireturn, 1) := by decide +kernel
theorem dX12_reads_0 : decode cX12_reads 0 = .ok (.aload_n 0, 1) := by decide +kernel
theorem dX12_reads_1 : decode cX12_reads 1 = .ok (.invokevirtual 147, 3) := by decide +kernel
theorem dX12_reads_4 : decode cX12_reads 4 = .ok (.pop, 1) := by decide +kernel
theorem dX12_reads_5 : decode cX12_reads 5 = .ok (.aload_n 0, 1) := by decide +kernel
theorem dX12_reads_6 : decode cX12_reads 6 = .ok (.invokevirtual 151, 3) := by decide +kernel
theorem dX12_reads_9 : decode cX12_reads 9 = .ok (.pop, 1) := by decide +kernel
theorem dX12_reads_10 : decode cX12_reads 10 = .ok (.aload_n 0, 1) := by decide +kernel
theorem dX12_reads_11 : decode cX12_reads 11 = .ok (.invokevirtual 154, 3) := by decide +kernel
theorem dX12_reads_14 : decode cX12_reads 14 = .ok (.pop, 1) := by decide +kernel
theorem dX12_reads_15 : decode cX12_reads 15 = .ok (.aload_n 0, 1) := by decide +kernel
theorem dX12_reads_16 : decode cX12_reads 16 = .ok (.invokevirtual 157, 3) := by decide +kernel
theorem dX12_reads_19 : decode cX12_reads 19 = .ok (.return_, 1) := by decide +kernel
theorem dX12_fault_0 : decode cX12_fault 0 = .ok (.iload_n 1, 1) := by decide +kernel
theorem dX12_fault_1 : decode cX12_fault 1 = .ok (.i2l, 1) := by decide +kernel
theorem dX12_fault_2 : decode cX12_fault 2 = .ok (.lconst 0, 1) := by decide +kernel
theorem dX12_fault_3 : decode cX12_fault 3 = .ok (.ldc2_w 96, 3) := by decide +kernel
theorem dX12_fault_6 : decode cX12_fault 6 = .ok (.invokestatic 82, 3) := by decide +kernel
theorem dX12_fault_9 : decode cX12_fault 9 = .ok (.ifCond .ne 8, 3) := by decide +kernel
theorem dX12_fault_12 : decode cX12_fault 12 = .ok (.bipush (-2), 2) := by decide +kernel
theorem dX12_fault_14 : decode cX12_fault 14 = .ok (.goto 30, 3) := by decide +kernel
theorem dX12_fault_17 : decode cX12_fault 17 = .ok (.iload_n 1, 1) := by decide +kernel
theorem dX12_fault_18 : decode cX12_fault 18 = .ok (.ifCond .ne 10, 3) := by decide +kernel
theorem dX12_fault_21 : decode cX12_fault 21 = .ok (.aload_n 0, 1) := by decide +kernel
theorem dX12_fault_22 : decode cX12_fault 22 = .ok (.invokevirtual 147, 3) := by decide +kernel
theorem dX12_fault_25 : decode cX12_fault 25 = .ok (.goto 19, 3) := by decide +kernel
theorem dX12_fault_28 : decode cX12_fault 28 = .ok (.iload_n 1, 1) := by decide +kernel
theorem dX12_fault_29 : decode cX12_fault 29 = .ok (.iconst 1, 1) := by decide +kernel
theorem dX12_fault_30 : decode cX12_fault 30 = .ok (.if_icmp .ne 10, 3) := by decide +kernel
theorem dX12_fault_33 : decode cX12_fault 33 = .ok (.aload_n 0, 1) := by decide +kernel
theorem dX12_fault_34 : decode cX12_fault 34 = .ok (.invokevirtual 151, 3) := by decide +kernel
theorem dX12_fault_37 : decode cX12_fault 37 = .ok (.goto 7, 3) := by decide +kernel
theorem dX12_fault_40 : decode cX12_fault 40 = .ok (.aload_n 0, 1) := by decide +kernel
theorem dX12_fault_41 : decode cX12_fault 41 = .ok (.invokevirtual 154, 3) := by decide +kernel
theorem dX12_fault_44 : decode cX12_fault 44 = .ok (.ireturn, 1) := by decide +kernel
theorem dX12_set_0 : decode cX12_set 0 = .ok (.iload_n 1, 1) := by decide +kernel
theorem dX12_set_1 : decode cX12_set 1 = .ok (.i2l, 1) := by decide +kernel
theorem dX12_set_2 : decode cX12_set 2 = .ok (.lconst 0, 1) := by decide +kernel
theorem dX12_set_3 : decode cX12_set 3 = .ok (.ldc2_w 96, 3) := by decide +kernel
theorem dX12_set_6 : decode cX12_set 6 = .ok (.invokestatic 82, 3) := by decide +kernel
theorem dX12_set_9 : decode cX12_set 9 = .ok (.ifCond .eq 26, 3) := by decide +kernel
theorem dX12_set_12 : decode cX12_set 12 = .ok (.iload_n 2, 1) := by decide +kernel
theorem dX12_set_13 : decode cX12_set 13 = .ok (.i2l, 1) := by decide +kernel
theorem dX12_set_14 : decode cX12_set 14 = .ok (.lconst 0, 1) := by decide +kernel
theorem dX12_set_15 : decode cX12_set 15 = .ok (.iload_n 1, 1) := by decide +kernel
theorem dX12_set_16 : decode cX12_set 16 = .ok (.iconst 2, 1) := by decide +kernel
theorem dX12_set_17 : decode cX12_set 17 = .ok (.if_icmp .ne 9, 3) := by decide +kernel
theorem dX12_set_20 : decode cX12_set 20 = .ok (.ldc2_w 96, 3) := by decide +kernel
theorem dX12_set_23 : decode cX12_set 23 = .ok (.goto 6, 3) := by decide +kernel
theorem dX12_set_26 : decode cX12_set 26 = .ok (.ldc2_w 160, 3) := by decide +kernel
theorem dX12_set_29 : decode cX12_set 29 = .ok (.invokestatic 82, 3) := by decide +kernel
theorem dX12_set_32 : decode cX12_set 32 = .ok (.ifCond .ne 6, 3) := by decide +kernel
theorem dX12_set_35 : decode cX12_set 35 = .ok (.bipush (-2), 2) := by decide +kernel
theorem dX12_set_37 : decode cX12_set 37 = .ok (.ireturn, 1) := by decide +kernel
theorem dX12_set_38 : decode cX12_set 38 = .ok (.aload_n 0, 1) := by decide +kernel
theorem dX12_set_39 : decode cX12_set 39 = .ok (.getfield 37, 3) := by decide +kernel
theorem dX12_set_42 : decode cX12_set 42 = .ok (.iload_n 1, 1) := by decide +kernel
theorem dX12_set_43 : decode cX12_set 43 = .ok (.iaload, 1) := by decide +kernel
theorem dX12_set_44 : decode cX12_set 44 = .ok (.istore_n 3, 1) := by decide +kernel
theorem dX12_set_45 : decode cX12_set 45 = .ok (.aload_n 0, 1) := by decide +kernel
theorem dX12_set_46 : decode cX12_set 46 = .ok (.getfield 37, 3) := by decide +kernel
theorem dX12_set_49 : decode cX12_set 49 = .ok (.iload_n 1, 1) := by decide +kernel
theorem dX12_set_50 : decode cX12_set 50 = .ok (.iload_n 2, 1) := by decide +kernel
theorem dX12_set_51 : decode cX12_set 51 = .ok (.iastore, 1) := by decide +kernel
theorem dX12_set_52 : decode cX12_set 52 = .ok (.iload_n 3, 1) := by decide +kernel
theorem dX12_set_53 : decode cX12_set 53 = .ok (.ireturn, 1) := by decide +kernel
theorem dX12_isPerson_0 : decode cX12_isPerson 0 = .ok (.iload_n 0, 1) := by decide +kernel
theorem dX12_isPerson_1 : decode cX12_isPerson 1 = .ok (.i2l, 1) := by decide +kernel
theorem dX12_isPerson_2 : decode cX12_isPerson 2 = .ok (.lconst 0, 1) := by decide +kernel
theorem dX12_isPerson_3 : decode cX12_isPerson 3 = .ok (.ldc2_w 135, 3) := by decide +kernel
theorem dX12_isPerson_6 : decode cX12_isPerson 6 = .ok (.invokestatic 82, 3) := by decide +kernel
theorem dX12_isPerson_9 : decode cX12_isPerson 9 = .ok (.ireturn, 1) := by decide +kernel
theorem dX12_grip_0 : decode cX12_grip 0 = .ok (.iload_n 1, 1) := by decide +kernel
theorem dX12_grip_1 : decode cX12_grip 1 = .ok (.invokestatic 162, 3) := by decide +kernel
theorem dX12_grip_4 : decode cX12_grip 4 = .ok (.ifCond .eq 27, 3) := by decide +kernel
theorem dX12_grip_7 : decode cX12_grip 7 = .ok (.iload_n 2, 1) := by decide +kernel
theorem dX12_grip_8 : decode cX12_grip 8 = .ok (.invokestatic 162, 3) := by decide +kernel
theorem dX12_grip_11 : decode cX12_grip 11 = .ok (.ifCond .eq 20, 3) := by decide +kernel
theorem dX12_grip_14 : decode cX12_grip 14 = .ok (.iload_n 1, 1) := by decide +kernel
theorem dX12_grip_15 : decode cX12_grip 15 = .ok (.iload_n 2, 1) := by decide +kernel
theorem dX12_grip_16 : decode cX12_grip 16 = .ok (.if_icmp .eq 15, 3) := by decide +kernel
theorem dX12_grip_19 : decode cX12_grip 19 = .ok (.iload_n 3, 1) := by decide +kernel
theorem dX12_grip_20 : decode cX12_grip 20 = .ok (.i2l, 1) := by decide +kernel
theorem dX12_grip_21 : decode cX12_grip 21 = .ok (.lconst 0, 1) := by decide +kernel
theorem dX12_grip_22 : decode cX12_grip 22 = .ok (.ldc2_w 165, 3) := by decide +kernel
theorem dX12_grip_25 : decode cX12_grip 25 = .ok (.invokestatic 82, 3) := by decide +kernel
theorem dX12_grip_28 : decode cX12_grip 28 = .ok (.ifCond .ne 6, 3) := by decide +kernel
theorem dX12_grip_31 : decode cX12_grip 31 = .ok (.bipush (-2), 2) := by decide +kernel
theorem dX12_grip_33 : decode cX12_grip 33 = .ok (.ireturn, 1) := by decide +kernel
theorem dX12_grip_34 : decode cX12_grip 34 = .ok (.aload_n 0, 1) := by decide +kernel
theorem dX12_grip_35 : decode cX12_grip 35 = .ok (.getfield 40, 3) := by decide +kernel
theorem dX12_grip_38 : decode cX12_grip 38 = .ok (.iconst 5, 1) := by decide +kernel
theorem dX12_grip_39 : decode cX12_grip 39 = .ok (.iload_n 1, 1) := by decide +kernel
theorem dX12_grip_40 : decode cX12_grip 40 = .ok (.imul, 1) := by decide +kernel
theorem dX12_grip_41 : decode cX12_grip 41 = .ok (.iload_n 2, 1) := by decide +kernel
theorem dX12_grip_42 : decode cX12_grip 42 = .ok (.iadd, 1) := by decide +kernel
theorem dX12_grip_43 : decode cX12_grip 43 = .ok (.iaload, 1) := by decide +kernel
theorem dX12_grip_44 : decode cX12_grip 44 = .ok (.istore 4, 2) := by decide +kernel
theorem dX12_grip_46 : decode cX12_grip 46 = .ok (.aload_n 0, 1) := by decide +kernel
theorem dX12_grip_47 : decode cX12_grip 47 = .ok (.getfield 40, 3) := by decide +kernel
theorem dX12_grip_50 : decode cX12_grip 50 = .ok (.iconst 5, 1) := by decide +kernel
theorem dX12_grip_51 : decode cX12_grip 51 = .ok (.iload_n 1, 1) := by decide +kernel
theorem dX12_grip_52 : decode cX12_grip 52 = .ok (.imul, 1) := by decide +kernel
theorem dX12_grip_53 : decode cX12_grip 53 = .ok (.iload_n 2, 1) := by decide +kernel
theorem dX12_grip_54 : decode cX12_grip 54 = .ok (.iadd, 1) := by decide +kernel
theorem dX12_grip_55 : decode cX12_grip 55 = .ok (.iload_n 3, 1) := by decide +kernel
theorem dX12_grip_56 : decode cX12_grip 56 = .ok (.iastore, 1) := by decide +kernel
theorem dX12_grip_57 : decode cX12_grip 57 = .ok (.aload_n 0, 1) := by decide +kernel
theorem dX12_grip_58 : decode cX12_grip 58 = .ok (.getfield 40, 3) := by decide +kernel
theorem dX12_grip_61 : decode cX12_grip 61 = .ok (.iconst 5, 1) := by decide +kernel
theorem dX12_grip_62 : decode cX12_grip 62 = .ok (.iload_n 2, 1) := by decide +kernel
theorem dX12_grip_63 : decode cX12_grip 63 = .ok (.imul, 1) := by decide +kernel
theorem dX12_grip_64 : decode cX12_grip 64 = .ok (.iload_n 1, 1) := by decide +kernel
theorem dX12_grip_65 : decode cX12_grip 65 = .ok (.iadd, 1) := by decide +kernel
theorem dX12_grip_66 : decode cX12_grip 66 = .ok (.iload_n 3, 1) := by decide +kernel
theorem dX12_grip_67 : decode cX12_grip 67 = .ok (.iastore, 1) := by decide +kernel
theorem dX12_grip_68 : decode cX12_grip 68 = .ok (.iload 4, 2) := by decide +kernel
theorem dX12_grip_70 : decode cX12_grip 70 = .ok (.ireturn, 1) := by decide +kernel
theorem dX12_person_0 : decode cX12_person 0 = .ok (.iload_n 1, 1) := by decide +kernel
theorem dX12_person_1 : decode cX12_person 1 = .ok (.invokestatic 162, 3) := by decide +kernel
theorem dX12_person_4 : decode cX12_person 4 = .ok (.ifCond .eq 32, 3) := by decide +kernel
theorem dX12_person_7 : decode cX12_person 7 = .ok (.iload_n 2, 1) := by decide +kernel
theorem dX12_person_8 : decode cX12_person 8 = .ok (.invokestatic 167, 3) := by decide +kernel
theorem dX12_person_11 : decode cX12_person 11 = .ok (.ifCond .eq 25, 3) := by decide +kernel
theorem dX12_person_14 : decode cX12_person 14 = .ok (.iload_n 3, 1) := by decide +kernel
theorem dX12_person_15 : decode cX12_person 15 = .ok (.i2l, 1) := by decide +kernel
theorem dX12_person_16 : decode cX12_person 16 = .ok (.lconst 0, 1) := by decide +kernel
theorem dX12_person_17 : decode cX12_person 17 = .ok (.iload_n 2, 1) := by decide +kernel
theorem dX12_person_18 : decode cX12_person 18 = .ok (.ifCond .ne 9, 3) := by decide +kernel
theorem dX12_person_21 : decode cX12_person 21 = .ok (.ldc2_w 165, 3) := by decide +kernel
theorem dX12_person_24 : decode cX12_person 24 = .ok (.goto 6, 3) := by decide +kernel
theorem dX12_person_27 : decode cX12_person 27 = .ok (.ldc2_w 160, 3) := by decide +kernel
theorem dX12_person_30 : decode cX12_person 30 = .ok (.invokestatic 82, 3) := by decide +kernel
theorem dX12_person_33 : decode cX12_person 33 = .ok (.ifCond .ne 6, 3) := by decide +kernel
theorem dX12_person_36 : decode cX12_person 36 = .ok (.bipush (-2), 2) := by decide +kernel
theorem dX12_person_38 : decode cX12_person 38 = .ok (.ireturn, 1) := by decide +kernel
theorem dX12_person_39 : decode cX12_person 39 = .ok (.iload_n 2, 1) := by decide +kernel
theorem dX12_person_40 : decode cX12_person 40 = .ok (.ifCond .ne 12, 3) := by decide +kernel
theorem dX12_person_43 : decode cX12_person 43 = .ok (.aload_n 0, 1) := by decide +kernel
theorem dX12_person_44 : decode cX12_person 44 = .ok (.getfield 43, 3) := by decide +kernel
theorem dX12_person_47 : decode cX12_person 47 = .ok (.iload_n 1, 1) := by decide +kernel
theorem dX12_person_48 : decode cX12_person 48 = .ok (.iaload, 1) := by decide +kernel
theorem dX12_person_49 : decode cX12_person 49 = .ok (.goto 9, 3) := by decide +kernel
theorem dX12_person_52 : decode cX12_person 52 = .ok (.aload_n 0, 1) := by decide +kernel
theorem dX12_person_53 : decode cX12_person 53 = .ok (.getfield 46, 3) := by decide +kernel
theorem dX12_person_56 : decode cX12_person 56 = .ok (.iload_n 1, 1) := by decide +kernel
theorem dX12_person_57 : decode cX12_person 57 = .ok (.iaload, 1) := by decide +kernel
theorem dX12_person_58 : decode cX12_person 58 = .ok (.istore 4, 2) := by decide +kernel
theorem dX12_person_60 : decode cX12_person 60 = .ok (.aload_n 0, 1) := by decide +kernel
theorem dX12_person_61 : decode cX12_person 61 = .ok (.getfield 43, 3) := by decide +kernel
theorem dX12_person_64 : decode cX12_person 64 = .ok (.iload_n 1, 1) := by decide +kernel
theorem dX12_person_65 : decode cX12_person 65 = .ok (.iload_n 2, 1) := by decide +kernel
theorem dX12_person_66 : decode cX12_person 66 = .ok (.ifCond .ne 7, 3) := by decide +kernel
theorem dX12_person_69 : decode cX12_person 69 = .ok (.iload_n 3, 1) := by decide +kernel
theorem dX12_person_70 : decode cX12_person 70 = .ok (.goto 9, 3) := by decide +kernel
theorem dX12_person_73 : decode cX12_person 73 = .ok (.aload_n 0, 1) := by decide +kernel
theorem dX12_person_74 : decode cX12_person 74 = .ok (.getfield 43, 3) := by decide +kernel
theorem dX12_person_77 : decode cX12_person 77 = .ok (.iload_n 1, 1) := by decide +kernel
theorem dX12_person_78 : decode cX12_person 78 = .ok (.iaload, 1) := by decide +kernel
theorem dX12_person_79 : decode cX12_person 79 = .ok (.iastore, 1) := by decide +kernel
theorem dX12_person_80 : decode cX12_person 80 = .ok (.aload_n 0, 1) := by decide +kernel
theorem dX12_person_81 : decode cX12_person 81 = .ok (.getfield 46, 3) := by decide +kernel
theorem dX12_person_84 : decode cX12_person 84 = .ok (.iload_n 1, 1) := by decide +kernel
theorem dX12_person_85 : decode cX12_person 85 = .ok (.iload_n 2, 1) := by decide +kernel
theorem dX12_person_86 : decode cX12_person 86 = .ok (.iconst 1, 1) := by decide +kernel
theorem dX12_person_87 : decode cX12_person 87 = .ok (.if_icmp .ne 7, 3) := by decide +kernel
theorem dX12_person_90 : decode cX12_person 90 = .ok (.iload_n 3, 1) := by decide +kernel
theorem dX12_person_91 : decode cX12_person 91 = .ok (.goto 9, 3) := by decide +kernel
theorem dX12_person_94 : decode cX12_person 94 = .ok (.aload_n 0, 1) := by decide +kernel
theorem dX12_person_95 : decode cX12_person 95 = .ok (.getfield 46, 3) := by decide +kernel
theorem dX12_person_98 : decode cX12_person 98 = .ok (.iload_n 1, 1) := by decide +kernel
theorem dX12_person_99 : decode cX12_person 99 = .ok (.iaload, 1) := by decide +kernel
theorem dX12_person_100 : decode cX12_person 100 = .ok (.iastore, 1) := by decide +kernel
theorem dX12_person_101 : decode cX12_person 101 = .ok (.iload 4, 2) := by decide +kernel
theorem dX12_person_103 : decode cX12_person 103 = .ok (.ireturn, 1) := by decide +kernel
theorem dX12_read_0 : decode cX12_read 0 = .ok (.iload_n 1, 1) := by decide +kernel
theorem dX12_read_1 : decode cX12_read 1 = .ok (.invokestatic 92, 3) := by decide +kernel
theorem dX12_read_4 : decode cX12_read 4 = .ok (.ifCond .ne 6, 3) := by decide +kernel
theorem dX12_read_7 : decode cX12_read 7 = .ok (.bipush (-2), 2) := by decide +kernel
theorem dX12_read_9 : decode cX12_read 9 = .ok (.ireturn, 1) := by decide +kernel
theorem dX12_read_10 : decode cX12_read 10 = .ok (.aload_n 0, 1) := by decide +kernel
theorem dX12_read_11 : decode cX12_read 11 = .ok (.getfield 7, 3) := by decide +kernel
theorem dX12_read_14 : decode cX12_read 14 = .ok (.iload_n 1, 1) := by decide +kernel
theorem dX12_read_15 : decode cX12_read 15 = .ok (.iaload, 1) := by decide +kernel
theorem dX12_read_16 : decode cX12_read 16 = .ok (.ifCond .ge 9, 3) := by decide +kernel
theorem dX12_read_19 : decode cX12_read 19 = .ok (.aload_n 0, 1) := by decide +kernel
theorem dX12_read_20 : decode cX12_read 20 = .ok (.iconst 1, 1) := by decide +kernel
theorem dX12_read_21 : decode cX12_read 21 = .ok (.invokevirtual 98, 3) := by decide +kernel
theorem dX12_read_24 : decode cX12_read 24 = .ok (.ireturn, 1) := by decide +kernel
theorem dX12_read_25 : decode cX12_read 25 = .ok (.iconst 0, 1) := by decide +kernel
theorem dX12_read_26 : decode cX12_read 26 = .ok (.istore_n 2, 1) := by decide +kernel
theorem dX12_read_27 : decode cX12_read 27 = .ok (.iload_n 2, 1) := by decide +kernel
theorem dX12_read_28 : decode cX12_read 28 = .ok (.aload_n 0, 1) := by decide +kernel
theorem dX12_read_29 : decode cX12_read 29 = .ok (.getfield 13, 3) := by decide +kernel
theorem dX12_read_32 : decode cX12_read 32 = .ok (.iload_n 1, 1) := by decide +kernel
theorem dX12_read_33 : decode cX12_read 33 = .ok (.iaload, 1) := by decide +kernel
theorem dX12_read_34 : decode cX12_read 34 = .ok (.if_icmp .ge 29, 3) := by decide +kernel
theorem dX12_read_37 : decode cX12_read 37 = .ok (.aload_n 0, 1) := by decide +kernel
theorem dX12_read_38 : decode cX12_read 38 = .ok (.iload_n 2, 1) := by decide +kernel
theorem dX12_read_39 : decode cX12_read 39 = .ok (.iconst 0, 1) := by decide +kernel
theorem dX12_read_40 : decode cX12_read 40 = .ok (.aload_n 0, 1) := by decide +kernel
theorem dX12_read_41 : decode cX12_read 41 = .ok (.getfield 16, 3) := by decide +kernel
theorem dX12_read_44 : decode cX12_read 44 = .ok (.bipush 64, 2) := by decide +kernel
theorem dX12_read_46 : decode cX12_read 46 = .ok (.iload_n 1, 1) := by decide +kernel
theorem dX12_read_47 : decode cX12_read 47 = .ok (.imul, 1) := by decide +kernel
theorem dX12_read_48 : decode cX12_read 48 = .ok (.iload_n 2, 1) := by decide +kernel
theorem dX12_read_49 : decode cX12_read 49 = .ok (.iadd, 1) := by decide +kernel
theorem dX12_read_50 : decode cX12_read 50 = .ok (.iaload, 1) := by decide +kernel
theorem dX12_read_51 : decode cX12_read 51 = .ok (.invokevirtual 170, 3) := by decide +kernel
theorem dX12_read_54 : decode cX12_read 54 = .ok (.ifCond .lt 9, 3) := by decide +kernel
theorem dX12_read_57 : decode cX12_read 57 = .ok (.iinc 2 1, 3) := by decide +kernel
theorem dX12_read_60 : decode cX12_read 60 = .ok (.goto (-33), 3) := by decide +kernel
theorem dX12_read_63 : decode cX12_read 63 = .ok (.iload_n 2, 1) := by decide +kernel
theorem dX12_read_64 : decode cX12_read 64 = .ok (.ireturn, 1) := by decide +kernel
theorem dX12_isPlace_0 : decode cX12_isPlace 0 = .ok (.iload_n 1, 1) := by decide +kernel
theorem dX12_isPlace_1 : decode cX12_isPlace 1 = .ok (.i2l, 1) := by decide +kernel
theorem dX12_isPlace_2 : decode cX12_isPlace 2 = .ok (.lconst 0, 1) := by decide +kernel
theorem dX12_isPlace_3 : decode cX12_isPlace 3 = .ok (.ldc2_w 160, 3) := by decide +kernel
theorem dX12_isPlace_6 : decode cX12_isPlace 6 = .ok (.invokestatic 82, 3) := by decide +kernel
theorem dX12_isPlace_9 : decode cX12_isPlace 9 = .ok (.ifCond .eq 18, 3) := by decide +kernel
theorem dX12_isPlace_12 : decode cX12_isPlace 12 = .ok (.aload_n 0, 1) := by decide +kernel
theorem dX12_isPlace_13 : decode cX12_isPlace 13 = .ok (.getfield 28, 3) := by decide +kernel
theorem dX12_isPlace_16 : decode cX12_isPlace 16 = .ok (.iload_n 1, 1) := by decide +kernel
theorem dX12_isPlace_17 : decode cX12_isPlace 17 = .ok (.iaload, 1) := by decide +kernel
theorem dX12_isPlace_18 : decode cX12_isPlace 18 = .ok (.bipush 99, 2) := by decide +kernel
theorem dX12_isPlace_20 : decode cX12_isPlace 20 = .ok (.if_icmp .eq 7, 3) := by decide +kernel
theorem dX12_isPlace_23 : decode cX12_isPlace 23 = .ok (.iconst 1, 1) := by decide +kernel
theorem dX12_isPlace_24 : decode cX12_isPlace 24 = .ok (.goto 4, 3) := by decide +kernel
theorem dX12_isPlace_27 : decode cX12_isPlace 27 = .ok (.iconst 0, 1) := by decide +kernel
theorem dX12_isPlace_28 : decode cX12_isPlace 28 = .ok (.ireturn, 1) := by decide +kernel
theorem dX12_beside_0 : decode cX12_beside 0 = .ok (.iload_n 1, 1) := by decide +kernel
theorem dX12_beside_1 : decode cX12_beside 1 = .ok (.bipush 8, 2) := by decide +kernel
theorem dX12_beside_3 : decode cX12_beside 3 = .ok (.idiv, 1) := by decide +kernel
theorem dX12_beside_4 : decode cX12_beside 4 = .ok (.iload_n 2, 1) := by decide +kernel
theorem dX12_beside_5 : decode cX12_beside 5 = .ok (.ifCond .ne 7, 3) := by decide +kernel
theorem dX12_beside_8 : decode cX12_beside 8 = .ok (.iconst (-1), 1) := by decide +kernel
theorem dX12_beside_9 : decode cX12_beside 9 = .ok (.goto 13, 3) := by decide +kernel
theorem dX12_beside_12 : decode cX12_beside 12 = .ok (.iload_n 2, 1) := by decide +kernel
theorem dX12_beside_13 : decode cX12_beside 13 = .ok (.iconst 2, 1) := by decide +kernel
theorem dX12_beside_14 : decode cX12_beside 14 = .ok (.if_icmp .ne 7, 3) := by decide +kernel
theorem dX12_beside_17 : decode cX12_beside 17 = .ok (.iconst 1, 1) := by decide +kernel
theorem dX12_beside_18 : decode cX12_beside 18 = .ok (.goto 4, 3) := by decide +kernel
theorem dX12_beside_21 : decode cX12_beside 21 = .ok (.iconst 0, 1) := by decide +kernel
theorem dX12_beside_22 : decode cX12_beside 22 = .ok (.iadd, 1) := by decide +kernel
theorem dX12_beside_23 : decode cX12_beside 23 = .ok (.istore_n 3, 1) := by decide +kernel
theorem dX12_beside_24 : decode cX12_beside 24 = .ok (.iload_n 1, 1) := by decide +kernel
theorem dX12_beside_25 : decode cX12_beside 25 = .ok (.bipush 8, 2) := by decide +kernel
theorem dX12_beside_27 : decode cX12_beside 27 = .ok (.irem, 1) := by decide +kernel
theorem dX12_beside_28 : decode cX12_beside 28 = .ok (.iload_n 2, 1) := by decide +kernel
theorem dX12_beside_29 : decode cX12_beside 29 = .ok (.iconst 1, 1) := by decide +kernel
theorem dX12_beside_30 : decode cX12_beside 30 = .ok (.if_icmp .ne 7, 3) := by decide +kernel
theorem dX12_beside_33 : decode cX12_beside 33 = .ok (.iconst 1, 1) := by decide +kernel
theorem dX12_beside_34 : decode cX12_beside 34 = .ok (.goto 13, 3) := by decide +kernel
theorem dX12_beside_37 : decode cX12_beside 37 = .ok (.iload_n 2, 1) := by decide +kernel
theorem dX12_beside_38 : decode cX12_beside 38 = .ok (.iconst 3, 1) := by decide +kernel
theorem dX12_beside_39 : decode cX12_beside 39 = .ok (.if_icmp .ne 7, 3) := by decide +kernel
theorem dX12_beside_42 : decode cX12_beside 42 = .ok (.iconst (-1), 1) := by decide +kernel
theorem dX12_beside_43 : decode cX12_beside 43 = .ok (.goto 4, 3) := by decide +kernel
theorem dX12_beside_46 : decode cX12_beside 46 = .ok (.iconst 0, 1) := by decide +kernel
theorem dX12_beside_47 : decode cX12_beside 47 = .ok (.iadd, 1) := by decide +kernel
theorem dX12_beside_48 : decode cX12_beside 48 = .ok (.istore 4, 2) := by decide +kernel
theorem dX12_beside_50 : decode cX12_beside 50 = .ok (.iload_n 3, 1) := by decide +kernel
theorem dX12_beside_51 : decode cX12_beside 51 = .ok (.i2l, 1) := by decide +kernel
theorem dX12_beside_52 : decode cX12_beside 52 = .ok (.lconst 0, 1) := by decide +kernel
theorem dX12_beside_53 : decode cX12_beside 53 = .ok (.ldc2_w 173, 3) := by decide +kernel
theorem dX12_beside_56 : decode cX12_beside 56 = .ok (.invokestatic 82, 3) := by decide +kernel
theorem dX12_beside_59 : decode cX12_beside 59 = .ok (.ifCond .eq 43, 3) := by decide +kernel
theorem dX12_beside_62 : decode cX12_beside 62 = .ok (.iload 4, 2) := by decide +kernel
theorem dX12_beside_64 : decode cX12_beside 64 = .ok (.i2l, 1) := by decide +kernel
theorem dX12_beside_65 : decode cX12_beside 65 = .ok (.lconst 0, 1) := by decide +kernel
theorem dX12_beside_66 : decode cX12_beside 66 = .ok (.ldc2_w 173, 3) := by decide +kernel
theorem dX12_beside_69 : decode cX12_beside 69 = .ok (.invokestatic 82, 3) := by decide +kernel
theorem dX12_beside_72 : decode cX12_beside 72 = .ok (.ifCond .eq 30, 3) := by decide +kernel
theorem dX12_beside_75 : decode cX12_beside 75 = .ok (.aload_n 0, 1) := by decide +kernel
theorem dX12_beside_76 : decode cX12_beside 76 = .ok (.getfield 28, 3) := by decide +kernel
theorem dX12_beside_79 : decode cX12_beside 79 = .ok (.bipush 8, 2) := by decide +kernel
theorem dX12_beside_81 : decode cX12_beside 81 = .ok (.iload_n 3, 1) := by decide +kernel
theorem dX12_beside_82 : decode cX12_beside 82 = .ok (.imul, 1) := by decide +kernel
theorem dX12_beside_83 : decode cX12_beside 83 = .ok (.iload 4, 2) := by decide +kernel
theorem dX12_beside_85 : decode cX12_beside 85 = .ok (.iadd, 1) := by decide +kernel
theorem dX12_beside_86 : decode cX12_beside 86 = .ok (.iaload, 1) := by decide +kernel
theorem dX12_beside_87 : decode cX12_beside 87 = .ok (.bipush 99, 2) := by decide +kernel
theorem dX12_beside_89 : decode cX12_beside 89 = .ok (.if_icmp .eq 13, 3) := by decide +kernel
theorem dX12_beside_92 : decode cX12_beside 92 = .ok (.bipush 8, 2) := by decide +kernel
theorem dX12_beside_94 : decode cX12_beside 94 = .ok (.iload_n 3, 1) := by decide +kernel
theorem dX12_beside_95 : decode cX12_beside 95 = .ok (.imul, 1) := by decide +kernel
theorem dX12_beside_96 : decode cX12_beside 96 = .ok (.iload 4, 2) := by decide +kernel
theorem dX12_beside_98 : decode cX12_beside 98 = .ok (.iadd, 1) := by decide +kernel
theorem dX12_beside_99 : decode cX12_beside 99 = .ok (.goto 4, 3) := by decide +kernel
theorem dX12_beside_102 : decode cX12_beside 102 = .ok (.iconst (-1), 1) := by decide +kernel
theorem dX12_beside_103 : decode cX12_beside 103 = .ok (.ireturn, 1) := by decide +kernel
theorem dX12_dense_0 : decode cX12_dense 0 = .ok (.aload_n 0, 1) := by decide +kernel
theorem dX12_dense_1 : decode cX12_dense 1 = .ok (.invokevirtual 175, 3) := by decide +kernel
theorem dX12_dense_4 : decode cX12_dense 4 = .ok (.aload_n 0, 1) := by decide +kernel
theorem dX12_dense_5 : decode cX12_dense 5 = .ok (.iload_n 1, 1) := by decide +kernel
theorem dX12_dense_6 : decode cX12_dense 6 = .ok (.invokevirtual 178, 3) := by decide +kernel
theorem dX12_dense_9 : decode cX12_dense 9 = .ok (.ifCond .eq 12, 3) := by decide +kernel
theorem dX12_dense_12 : decode cX12_dense 12 = .ok (.aload_n 0, 1) := by decide +kernel
theorem dX12_dense_13 : decode cX12_dense 13 = .ok (.getfield 28, 3) := by decide +kernel
theorem dX12_dense_16 : decode cX12_dense 16 = .ok (.iload_n 1, 1) := by decide +kernel
theorem dX12_dense_17 : decode cX12_dense 17 = .ok (.iaload, 1) := by decide +kernel
theorem dX12_dense_18 : decode cX12_dense 18 = .ok (.goto 5, 3) := by decide +kernel
theorem dX12_dense_21 : decode cX12_dense 21 = .ok (.bipush (-2), 2) := by decide +kernel
theorem dX12_dense_23 : decode cX12_dense 23 = .ok (.ireturn, 1) := by decide +kernel
theorem dX12_walks_0 : decode cX12_walks 0 = .ok (.aload_n 0, 1) := by decide +kernel
theorem dX12_walks_1 : decode cX12_walks 1 = .ok (.iconst 0, 1) := by decide +kernel
theorem dX12_walks_2 : decode cX12_walks 2 = .ok (.putfield 181, 3) := by decide +kernel
theorem dX12_walks_5 : decode cX12_walks 5 = .ok (.aload_n 0, 1) := by decide +kernel
theorem dX12_walks_6 : decode cX12_walks 6 = .ok (.getfield 49, 3) := by decide +kernel
theorem dX12_walks_9 : decode cX12_walks 9 = .ok (.iconst 0, 1) := by decide +kernel
theorem dX12_walks_10 : decode cX12_walks 10 = .ok (.aload_n 0, 1) := by decide +kernel
theorem dX12_walks_11 : decode cX12_walks 11 = .ok (.getfield 37, 3) := by decide +kernel
theorem dX12_walks_14 : decode cX12_walks 14 = .ok (.iconst 0, 1) := by decide +kernel
theorem dX12_walks_15 : decode cX12_walks 15 = .ok (.iaload, 1) := by decide +kernel
theorem dX12_walks_16 : decode cX12_walks 16 = .ok (.iastore, 1) := by decide +kernel
theorem dX12_walks_17 : decode cX12_walks 17 = .ok (.aload_n 0, 1) := by decide +kernel
theorem dX12_walks_18 : decode cX12_walks 18 = .ok (.aload_n 0, 1) := by decide +kernel
theorem dX12_walks_19 : decode cX12_walks 19 = .ok (.getfield 37, 3) := by decide +kernel
theorem dX12_walks_22 : decode cX12_walks 22 = .ok (.iconst 0, 1) := by decide +kernel
theorem dX12_walks_23 : decode cX12_walks 23 = .ok (.iaload, 1) := by decide +kernel
theorem dX12_walks_24 : decode cX12_walks 24 = .ok (.invokevirtual 178, 3) := by decide +kernel
theorem dX12_walks_27 : decode cX12_walks 27 = .ok (.istore_n 1, 1) := by decide +kernel
theorem dX12_walks_28 : decode cX12_walks 28 = .ok (.iload_n 1, 1) := by decide +kernel
theorem dX12_walks_29 : decode cX12_walks 29 = .ok (.ifCond .eq 75, 3) := by decide +kernel
theorem dX12_walks_32 : decode cX12_walks 32 = .ok (.aload_n 0, 1) := by decide +kernel
theorem dX12_walks_33 : decode cX12_walks 33 = .ok (.getfield 181, 3) := by decide +kernel
theorem dX12_walks_36 : decode cX12_walks 36 = .ok (.aload_n 0, 1) := by decide +kernel
theorem dX12_walks_37 : decode cX12_walks 37 = .ok (.getfield 141, 3) := by decide +kernel
theorem dX12_walks_40 : decode cX12_walks 40 = .ok (.if_icmp .ge 64, 3) := by decide +kernel
theorem dX12_walks_43 : decode cX12_walks 43 = .ok (.aload_n 0, 1) := by decide +kernel
theorem dX12_walks_44 : decode cX12_walks 44 = .ok (.aload_n 0, 1) := by decide +kernel
theorem dX12_walks_45 : decode cX12_walks 45 = .ok (.getfield 49, 3) := by decide +kernel
theorem dX12_walks_48 : decode cX12_walks 48 = .ok (.aload_n 0, 1) := by decide +kernel
theorem dX12_walks_49 : decode cX12_walks 49 = .ok (.getfield 181, 3) := by decide +kernel
theorem dX12_walks_52 : decode cX12_walks 52 = .ok (.iaload, 1) := by decide +kernel
theorem dX12_walks_53 : decode cX12_walks 53 = .ok (.aload_n 0, 1) := by decide +kernel
theorem dX12_walks_54 : decode cX12_walks 54 = .ok (.getfield 34, 3) := by decide +kernel
theorem dX12_walks_57 : decode cX12_walks 57 = .ok (.aload_n 0, 1) := by decide +kernel
theorem dX12_walks_58 : decode cX12_walks 58 = .ok (.getfield 181, 3) := by decide +kernel
theorem dX12_walks_61 : decode cX12_walks 61 = .ok (.iaload, 1) := by decide +kernel
theorem dX12_walks_62 : decode cX12_walks 62 = .ok (.invokevirtual 184, 3) := by decide +kernel
theorem dX12_walks_65 : decode cX12_walks 65 = .ok (.istore_n 2, 1) := by decide +kernel
theorem dX12_walks_66 : decode cX12_walks 66 = .ok (.iload_n 2, 1) := by decide +kernel
theorem dX12_walks_67 : decode cX12_walks 67 = .ok (.iconst (-1), 1) := by decide +kernel
theorem dX12_walks_68 : decode cX12_walks 68 = .ok (.if_icmp .eq 7, 3) := by decide +kernel
theorem dX12_walks_71 : decode cX12_walks 71 = .ok (.iconst 1, 1) := by decide +kernel
theorem dX12_walks_72 : decode cX12_walks 72 = .ok (.goto 4, 3) := by decide +kernel
theorem dX12_walks_75 : decode cX12_walks 75 = .ok (.iconst 0, 1) := by decide +kernel
theorem dX12_walks_76 : decode cX12_walks 76 = .ok (.istore_n 1, 1) := by decide +kernel
theorem dX12_walks_77 : decode cX12_walks 77 = .ok (.iload_n 1, 1) := by decide +kernel
theorem dX12_walks_78 : decode cX12_walks 78 = .ok (.ifCond .eq 23, 3) := by decide +kernel
theorem dX12_walks_81 : decode cX12_walks 81 = .ok (.aload_n 0, 1) := by decide +kernel
theorem dX12_walks_82 : decode cX12_walks 82 = .ok (.dup, 1) := by decide +kernel
theorem dX12_walks_83 : decode cX12_walks 83 = .ok (.getfield 181, 3) := by decide +kernel
theorem dX12_walks_86 : decode cX12_walks 86 = .ok (.iconst 1, 1) := by decide +kernel
theorem dX12_walks_87 : decode cX12_walks 87 = .ok (.iadd, 1) := by decide +kernel
theorem dX12_walks_88 : decode cX12_walks 88 = .ok (.putfield 181, 3) := by decide +kernel
theorem dX12_walks_91 : decode cX12_walks 91 = .ok (.aload_n 0, 1) := by decide +kernel
theorem dX12_walks_92 : decode cX12_walks 92 = .ok (.getfield 49, 3) := by decide +kernel
theorem dX12_walks_95 : decode cX12_walks 95 = .ok (.aload_n 0, 1) := by decide +kernel
theorem dX12_walks_96 : decode cX12_walks 96 = .ok (.getfield 181, 3) := by decide +kernel
theorem dX12_walks_99 : decode cX12_walks 99 = .ok (.iload_n 2, 1) := by decide +kernel
theorem dX12_walks_100 : decode cX12_walks 100 = .ok (.iastore, 1) := by decide +kernel
theorem dX12_walks_101 : decode cX12_walks 101 = .ok (.goto (-73), 3) := by decide +kernel
theorem dX12_walks_104 : decode cX12_walks 104 = .ok (.return_, 1) := by decide +kernel
theorem dX12_judged_0 : decode cX12_judged 0 = .ok (.aload_n 0, 1) := by decide +kernel
theorem dX12_judged_1 : decode cX12_judged 1 = .ok (.invokevirtual 175, 3) := by decide +kernel
theorem dX12_judged_4 : decode cX12_judged 4 = .ok (.aload_n 0, 1) := by decide +kernel
theorem dX12_judged_5 : decode cX12_judged 5 = .ok (.getfield 181, 3) := by decide +kernel
theorem dX12_judged_8 : decode cX12_judged 8 = .ok (.aload_n 0, 1) := by decide +kernel
theorem dX12_judged_9 : decode cX12_judged 9 = .ok (.getfield 141, 3) := by decide +kernel
theorem dX12_judged_12 : decode cX12_judged 12 = .ok (.if_icmp .ne 7, 3) := by decide +kernel
theorem dX12_judged_15 : decode cX12_judged 15 = .ok (.iconst (-1), 1) := by decide +kernel
theorem dX12_judged_16 : decode cX12_judged 16 = .ok (.goto 7, 3) := by decide +kernel
theorem dX12_judged_19 : decode cX12_judged 19 = .ok (.aload_n 0, 1) := by decide +kernel
theorem dX12_judged_20 : decode cX12_judged 20 = .ok (.getfield 181, 3) := by decide +kernel
theorem dX12_judged_23 : decode cX12_judged 23 = .ok (.ireturn, 1) := by decide +kernel
theorem dX12_at_0 : decode cX12_at 0 = .ok (.aload_n 0, 1) := by decide +kernel
theorem dX12_at_1 : decode cX12_at 1 = .ok (.invokevirtual 175, 3) := by decide +kernel
theorem dX12_at_4 : decode cX12_at 4 = .ok (.iload_n 1, 1) := by decide +kernel
theorem dX12_at_5 : decode cX12_at 5 = .ok (.i2l, 1) := by decide +kernel
theorem dX12_at_6 : decode cX12_at 6 = .ok (.lconst 0, 1) := by decide +kernel
theorem dX12_at_7 : decode cX12_at 7 = .ok (.aload_n 0, 1) := by decide +kernel
theorem dX12_at_8 : decode cX12_at 8 = .ok (.getfield 181, 3) := by decide +kernel
theorem dX12_at_11 : decode cX12_at 11 = .ok (.i2l, 1) := by decide +kernel
theorem dX12_at_12 : decode cX12_at 12 = .ok (.invokestatic 82, 3) := by decide +kernel
theorem dX12_at_15 : decode cX12_at 15 = .ok (.ifCond .ne 8, 3) := by decide +kernel
theorem dX12_at_18 : decode cX12_at 18 = .ok (.bipush (-2), 2) := by decide +kernel
theorem dX12_at_20 : decode cX12_at 20 = .ok (.goto 27, 3) := by decide +kernel
theorem dX12_at_23 : decode cX12_at 23 = .ok (.aload_n 0, 1) := by decide +kernel
theorem dX12_at_24 : decode cX12_at 24 = .ok (.aload_n 0, 1) := by decide +kernel
theorem dX12_at_25 : decode cX12_at 25 = .ok (.getfield 37, 3) := by decide +kernel
theorem dX12_at_28 : decode cX12_at 28 = .ok (.iconst 0, 1) := by decide +kernel
theorem dX12_at_29 : decode cX12_at 29 = .ok (.iaload, 1) := by decide +kernel
theorem dX12_at_30 : decode cX12_at 30 = .ok (.invokevirtual 178, 3) := by decide +kernel
theorem dX12_at_33 : decode cX12_at 33 = .ok (.ifCond .eq 12, 3) := by decide +kernel
theorem dX12_at_36 : decode cX12_at 36 = .ok (.aload_n 0, 1) := by decide +kernel
theorem dX12_at_37 : decode cX12_at 37 = .ok (.getfield 49, 3) := by decide +kernel
theorem dX12_at_40 : decode cX12_at 40 = .ok (.iload_n 1, 1) := by decide +kernel
theorem dX12_at_41 : decode cX12_at 41 = .ok (.iaload, 1) := by decide +kernel
theorem dX12_at_42 : decode cX12_at 42 = .ok (.goto 5, 3) := by decide +kernel
theorem dX12_at_45 : decode cX12_at 45 = .ok (.bipush (-3), 2) := by decide +kernel
theorem dX12_at_47 : decode cX12_at 47 = .ok (.ireturn, 1) := by decide +kernel
theorem dX12_findFar_0 : decode cX12_findFar 0 = .ok (.iconst 0, 1) := by decide +kernel
theorem dX12_findFar_1 : decode cX12_findFar 1 = .ok (.istore_n 3, 1) := by decide +kernel
theorem dX12_findFar_2 : decode cX12_findFar 2 = .ok (.iload_n 3, 1) := by decide +kernel
theorem dX12_findFar_3 : decode cX12_findFar 3 = .ok (.bipush 64, 2) := by decide +kernel
theorem dX12_findFar_5 : decode cX12_findFar 5 = .ok (.if_icmp .ge 26, 3) := by decide +kernel
theorem dX12_findFar_8 : decode cX12_findFar 8 = .ok (.aload_n 0, 1) := by decide +kernel
theorem dX12_findFar_9 : decode cX12_findFar 9 = .ok (.getfield 52, 3) := by decide +kernel
theorem dX12_findFar_12 : decode cX12_findFar 12 = .ok (.iload_n 3, 1) := by decide +kernel
theorem dX12_findFar_13 : decode cX12_findFar 13 = .ok (.iload_n 3, 1) := by decide +kernel
theorem dX12_findFar_14 : decode cX12_findFar 14 = .ok (.iload_n 1, 1) := by decide +kernel
theorem dX12_findFar_15 : decode cX12_findFar 15 = .ok (.if_icmp .ne 7, 3) := by decide +kernel
theorem dX12_findFar_18 : decode cX12_findFar 18 = .ok (.iconst 0, 1) := by decide +kernel
theorem dX12_findFar_19 : decode cX12_findFar 19 = .ok (.goto 5, 3) := by decide +kernel
theorem dX12_findFar_22 : decode cX12_findFar 22 = .ok (.ldc 187, 2) := by decide +kernel
theorem dX12_findFar_24 : decode cX12_findFar 24 = .ok (.iastore, 1) := by decide +kernel
theorem dX12_findFar_25 : decode cX12_findFar 25 = .ok (.iinc 3 1, 3) := by decide +kernel
theorem dX12_findFar_28 : decode cX12_findFar 28 = .ok (.goto (-26), 3) := by decide +kernel
theorem dX12_findFar_31 : decode cX12_findFar 31 = .ok (.iconst 1, 1) := by decide +kernel
theorem dX12_findFar_32 : decode cX12_findFar 32 = .ok (.istore_n 3, 1) := by decide +kernel
theorem dX12_findFar_33 : decode cX12_findFar 33 = .ok (.iload_n 3, 1) := by decide +kernel
theorem dX12_findFar_34 : decode cX12_findFar 34 = .ok (.ifCond .eq 146, 3) := by decide +kernel
theorem dX12_findFar_37 : decode cX12_findFar 37 = .ok (.iconst 0, 1) := by decide +kernel
theorem dX12_findFar_38 : decode cX12_findFar 38 = .ok (.istore_n 3, 1) := by decide +kernel
theorem dX12_findFar_39 : decode cX12_findFar 39 = .ok (.iconst 0, 1) := by decide +kernel
theorem dX12_findFar_40 : decode cX12_findFar 40 = .ok (.istore 4, 2) := by decide +kernel
theorem dX12_findFar_42 : decode cX12_findFar 42 = .ok (.iload 4, 2) := by decide +kernel
theorem dX12_findFar_44 : decode cX12_findFar 44 = .ok (.bipush 64, 2) := by decide +kernel
theorem dX12_findFar_46 : decode cX12_findFar 46 = .ok (.if_icmp .ge 131, 3) := by decide +kernel
theorem dX12_findFar_49 : decode cX12_findFar 49 = .ok (.iconst 0, 1) := by decide +kernel
theorem dX12_findFar_50 : decode cX12_findFar 50 = .ok (.istore 5, 2) := by decide +kernel
theorem dX12_findFar_52 : decode cX12_findFar 52 = .ok (.iload 5, 2) := by decide +kernel
theorem dX12_findFar_54 : decode cX12_findFar 54 = .ok (.iconst 4, 1) := by decide +kernel
theorem dX12_findFar_55 : decode cX12_findFar 55 = .ok (.if_icmp .ge 116, 3) := by decide +kernel
theorem dX12_findFar_58 : decode cX12_findFar 58 = .ok (.aload_n 0, 1) := by decide +kernel
theorem dX12_findFar_59 : decode cX12_findFar 59 = .ok (.getfield 28, 3) := by decide +kernel
theorem dX12_findFar_62 : decode cX12_findFar 62 = .ok (.iload 4, 2) := by decide +kernel
theorem dX12_findFar_64 : decode cX12_findFar 64 = .ok (.iaload, 1) := by decide +kernel
theorem dX12_findFar_65 : decode cX12_findFar 65 = .ok (.bipush 99, 2) := by decide +kernel
theorem dX12_findFar_67 : decode cX12_findFar 67 = .ok (.if_icmp .eq 104, 3) := by decide +kernel
theorem dX12_findFar_70 : decode cX12_findFar 70 = .ok (.aload_n 0, 1) := by decide +kernel
theorem dX12_findFar_71 : decode cX12_findFar 71 = .ok (.iload 4, 2) := by decide +kernel
theorem dX12_findFar_73 : decode cX12_findFar 73 = .ok (.iload 5, 2) := by decide +kernel
theorem dX12_findFar_75 : decode cX12_findFar 75 = .ok (.invokevirtual 184, 3) := by decide +kernel
theorem dX12_findFar_78 : decode cX12_findFar 78 = .ok (.istore 6, 2) := by decide +kernel
theorem dX12_findFar_80 : decode cX12_findFar 80 = .ok (.iload 6, 2) := by decide +kernel
theorem dX12_findFar_82 : decode cX12_findFar 82 = .ok (.iconst (-1), 1) := by decide +kernel
theorem dX12_findFar_83 : decode cX12_findFar 83 = .ok (.if_icmp .ne 8, 3) := by decide +kernel
theorem dX12_findFar_86 : decode cX12_findFar 86 = .ok (.ldc 187, 2) := by decide +kernel
theorem dX12_findFar_88 : decode cX12_findFar 88 = .ok (.goto 22, 3) := by decide +kernel
theorem dX12_findFar_91 : decode cX12_findFar 91 = .ok (.aload_n 0, 1) := by decide +kernel
theorem dX12_findFar_92 : decode cX12_findFar 92 = .ok (.getfield 52, 3) := by decide +kernel
theorem dX12_findFar_95 : decode cX12_findFar 95 = .ok (.iload 6, 2) := by decide +kernel
theorem dX12_findFar_97 : decode cX12_findFar 97 = .ok (.iaload, 1) := by decide +kernel
theorem dX12_findFar_98 : decode cX12_findFar 98 = .ok (.iload_n 2, 1) := by decide +kernel
theorem dX12_findFar_99 : decode cX12_findFar 99 = .ok (.aload_n 0, 1) := by decide +kernel
theorem dX12_findFar_100 : decode cX12_findFar 100 = .ok (.getfield 28, 3) := by decide +kernel
theorem dX12_findFar_103 : decode cX12_findFar 103 = .ok (.iload 6, 2) := by decide +kernel
theorem dX12_findFar_105 : decode cX12_findFar 105 = .ok (.iaload, 1) := by decide +kernel
theorem dX12_findFar_106 : decode cX12_findFar 106 = .ok (.imul, 1) := by decide +kernel
theorem dX12_findFar_107 : decode cX12_findFar 107 = .ok (.iadd, 1) := by decide +kernel
theorem dX12_findFar_108 : decode cX12_findFar 108 = .ok (.iconst 1, 1) := by decide +kernel
theorem dX12_findFar_109 : decode cX12_findFar 109 = .ok (.iadd, 1) := by decide +kernel
theorem dX12_findFar_110 : decode cX12_findFar 110 = .ok (.istore 7, 2) := by decide +kernel
theorem dX12_findFar_112 : decode cX12_findFar 112 = .ok (.iload_n 3, 1) := by decide +kernel
theorem dX12_findFar_113 : decode cX12_findFar 113 = .ok (.ifCond .ne 15, 3) := by decide +kernel
theorem dX12_findFar_116 : decode cX12_findFar 116 = .ok (.iload 7, 2) := by decide +kernel
theorem dX12_findFar_118 : decode cX12_findFar 118 = .ok (.aload_n 0, 1) := by decide +kernel
theorem dX12_findFar_119 : decode cX12_findFar 119 = .ok (.getfield 52, 3) := by decide +kernel
theorem dX12_findFar_122 : decode cX12_findFar 122 = .ok (.iload 4, 2) := by decide +kernel
theorem dX12_findFar_124 : decode cX12_findFar 124 = .ok (.iaload, 1) := by decide +kernel
theorem dX12_findFar_125 : decode cX12_findFar 125 = .ok (.if_icmp .ge 7, 3) := by decide +kernel
theorem dX12_findFar_128 : decode cX12_findFar 128 = .ok (.iconst 1, 1) := by decide +kernel
theorem dX12_findFar_129 : decode cX12_findFar 129 = .ok (.goto 4, 3) := by decide +kernel
theorem dX12_findFar_132 : decode cX12_findFar 132 = .ok (.iconst 0, 1) := by decide +kernel
theorem dX12_findFar_133 : decode cX12_findFar 133 = .ok (.istore_n 3, 1) := by decide +kernel
theorem dX12_findFar_134 : decode cX12_findFar 134 = .ok (.aload_n 0, 1) := by decide +kernel
theorem dX12_findFar_135 : decode cX12_findFar 135 = .ok (.getfield 52, 3) := by decide +kernel
theorem dX12_findFar_138 : decode cX12_findFar 138 = .ok (.iload 4, 2) := by decide +kernel
theorem dX12_findFar_140 : decode cX12_findFar 140 = .ok (.iload 7, 2) := by decide +kernel
theorem dX12_findFar_142 : decode cX12_findFar 142 = .ok (.aload_n 0, 1) := by decide +kernel
theorem dX12_findFar_143 : decode cX12_findFar 143 = .ok (.getfield 52, 3) := by decide +kernel
theorem dX12_findFar_146 : decode cX12_findFar 146 = .ok (.iload 4, 2) := by decide +kernel
theorem dX12_findFar_148 : decode cX12_findFar 148 = .ok (.iaload, 1) := by decide +kernel
theorem dX12_findFar_149 : decode cX12_findFar 149 = .ok (.if_icmp .ge 8, 3) := by decide +kernel
theorem dX12_findFar_152 : decode cX12_findFar 152 = .ok (.iload 7, 2) := by decide +kernel
theorem dX12_findFar_154 : decode cX12_findFar 154 = .ok (.goto 10, 3) := by decide +kernel
theorem dX12_findFar_157 : decode cX12_findFar 157 = .ok (.aload_n 0, 1) := by decide +kernel
theorem dX12_findFar_158 : decode cX12_findFar 158 = .ok (.getfield 52, 3) := by decide +kernel
theorem dX12_findFar_161 : decode cX12_findFar 161 = .ok (.iload 4, 2) := by decide +kernel
theorem dX12_findFar_163 : decode cX12_findFar 163 = .ok (.iaload, 1) := by decide +kernel
theorem dX12_findFar_164 : decode cX12_findFar 164 = .ok (.iastore, 1) := by decide +kernel
theorem dX12_findFar_165 : decode cX12_findFar 165 = .ok (.iinc 5 1, 3) := by decide +kernel
theorem dX12_findFar_168 : decode cX12_findFar 168 = .ok (.goto (-116), 3) := by decide +kernel
theorem dX12_findFar_171 : decode cX12_findFar 171 = .ok (.iinc 4 1, 3) := by decide +kernel
theorem dX12_findFar_174 : decode cX12_findFar 174 = .ok (.goto (-132), 3) := by decide +kernel
theorem dX12_findFar_177 : decode cX12_findFar 177 = .ok (.goto (-144), 3) := by decide +kernel
theorem dX12_findFar_180 : decode cX12_findFar 180 = .ok (.return_, 1) := by decide +kernel
theorem dX12_nearOf_0 : decode cX12_nearOf 0 = .ok (.aload_n 0, 1) := by decide +kernel
theorem dX12_nearOf_1 : decode cX12_nearOf 1 = .ok (.iload_n 2, 1) := by decide +kernel
theorem dX12_nearOf_2 : decode cX12_nearOf 2 = .ok (.iconst 0, 1) := by decide +kernel
theorem dX12_nearOf_3 : decode cX12_nearOf 3 = .ok (.invokevirtual 188, 3) := by decide +kernel
theorem dX12_nearOf_6 : decode cX12_nearOf 6 = .ok (.aload_n 0, 1) := by decide +kernel
theorem dX12_nearOf_7 : decode cX12_nearOf 7 = .ok (.getfield 52, 3) := by decide +kernel
theorem dX12_nearOf_10 : decode cX12_nearOf 10 = .ok (.iload_n 1, 1) := by decide +kernel
theorem dX12_nearOf_11 : decode cX12_nearOf 11 = .ok (.iaload, 1) := by decide +kernel
theorem dX12_nearOf_12 : decode cX12_nearOf 12 = .ok (.ldc 187, 2) := by decide +kernel
theorem dX12_nearOf_14 : decode cX12_nearOf 14 = .ok (.if_icmp .lt 7, 3) := by decide +kernel
theorem dX12_nearOf_17 : decode cX12_nearOf 17 = .ok (.iconst (-1), 1) := by decide +kernel
theorem dX12_nearOf_18 : decode cX12_nearOf 18 = .ok (.goto 9, 3) := by decide +kernel
theorem dX12_nearOf_21 : decode cX12_nearOf 21 = .ok (.aload_n 0, 1) := by decide +kernel
theorem dX12_nearOf_22 : decode cX12_nearOf 22 = .ok (.getfield 52, 3) := by decide +kernel
theorem dX12_nearOf_25 : decode cX12_nearOf 25 = .ok (.iload_n 1, 1) := by decide +kernel
theorem dX12_nearOf_26 : decode cX12_nearOf 26 = .ok (.iaload, 1) := by decide +kernel
theorem dX12_nearOf_27 : decode cX12_nearOf 27 = .ok (.ireturn, 1) := by decide +kernel
theorem dX12_near_0 : decode cX12_near 0 = .ok (.aload_n 0, 1) := by decide +kernel
theorem dX12_near_1 : decode cX12_near 1 = .ok (.invokevirtual 175, 3) := by decide +kernel
theorem dX12_near_4 : decode cX12_near 4 = .ok (.aload_n 0, 1) := by decide +kernel
theorem dX12_near_5 : decode cX12_near 5 = .ok (.iload_n 1, 1) := by decide +kernel
theorem dX12_near_6 : decode cX12_near 6 = .ok (.invokevirtual 178, 3) := by decide +kernel
theorem dX12_near_9 : decode cX12_near 9 = .ok (.ifCond .eq 20, 3) := by decide +kernel
theorem dX12_near_12 : decode cX12_near 12 = .ok (.aload_n 0, 1) := by decide +kernel
theorem dX12_near_13 : decode cX12_near 13 = .ok (.iload_n 2, 1) := by decide +kernel
theorem dX12_near_14 : decode cX12_near 14 = .ok (.invokevirtual 178, 3) := by decide +kernel
theorem dX12_near_17 : decode cX12_near 17 = .ok (.ifCond .eq 12, 3) := by decide +kernel
theorem dX12_near_20 : decode cX12_near 20 = .ok (.aload_n 0, 1) := by decide +kernel
theorem dX12_near_21 : decode cX12_near 21 = .ok (.iload_n 1, 1) := by decide +kernel
theorem dX12_near_22 : decode cX12_near 22 = .ok (.iload_n 2, 1) := by decide +kernel
theorem dX12_near_23 : decode cX12_near 23 = .ok (.invokevirtual 192, 3) := by decide +kernel
theorem dX12_near_26 : decode cX12_near 26 = .ok (.goto 5, 3) := by decide +kernel
theorem dX12_near_29 : decode cX12_near 29 = .ok (.bipush (-2), 2) := by decide +kernel
theorem dX12_near_31 : decode cX12_near 31 = .ok (.ireturn, 1) := by decide +kernel
theorem dX12_easiestOf_0 : decode cX12_easiestOf 0 = .ok (.aload_n 0, 1) := by decide +kernel
theorem dX12_easiestOf_1 : decode cX12_easiestOf 1 = .ok (.iload_n 2, 1) := by decide +kernel
theorem dX12_easiestOf_2 : decode cX12_easiestOf 2 = .ok (.sipush 1000, 3) := by decide +kernel
theorem dX12_easiestOf_5 : decode cX12_easiestOf 5 = .ok (.invokevirtual 188, 3) := by decide +kernel
theorem dX12_easiestOf_8 : decode cX12_easiestOf 8 = .ok (.aload_n 0, 1) := by decide +kernel
theorem dX12_easiestOf_9 : decode cX12_easiestOf 9 = .ok (.getfield 52, 3) := by decide +kernel
theorem dX12_easiestOf_12 : decode cX12_easiestOf 12 = .ok (.iload_n 1, 1) := by decide +kernel
theorem dX12_easiestOf_13 : decode cX12_easiestOf 13 = .ok (.iaload, 1) := by decide +kernel
theorem dX12_easiestOf_14 : decode cX12_easiestOf 14 = .ok (.ldc 187, 2) := by decide +kernel
theorem dX12_easiestOf_16 : decode cX12_easiestOf 16 = .ok (.if_icmp .ge 7, 3) := by decide +kernel
theorem dX12_easiestOf_19 : decode cX12_easiestOf 19 = .ok (.iload_n 3, 1) := by decide +kernel
theorem dX12_easiestOf_20 : decode cX12_easiestOf 20 = .ok (.ifCond .ge 48, 3) := by decide +kernel
theorem dX12_easiestOf_23 : decode cX12_easiestOf 23 = .ok (.aload_n 0, 1) := by decide +kernel
theorem dX12_easiestOf_24 : decode cX12_easiestOf 24 = .ok (.getfield 52, 3) := by decide +kernel
theorem dX12_easiestOf_27 : decode cX12_easiestOf 27 = .ok (.iload_n 1, 1) := by decide +kernel
theorem dX12_easiestOf_28 : decode cX12_easiestOf 28 = .ok (.iaload, 1) := by decide +kernel
theorem dX12_easiestOf_29 : decode cX12_easiestOf 29 = .ok (.ldc 187, 2) := by decide +kernel
theorem dX12_easiestOf_31 : decode cX12_easiestOf 31 = .ok (.if_icmp .lt 7, 3) := by decide +kernel
theorem dX12_easiestOf_34 : decode cX12_easiestOf 34 = .ok (.iconst (-1), 1) := by decide +kernel
theorem dX12_easiestOf_35 : decode cX12_easiestOf 35 = .ok (.goto 32, 3) := by decide +kernel
theorem dX12_easiestOf_38 : decode cX12_easiestOf 38 = .ok (.iload_n 3, 1) := by decide +kernel
theorem dX12_easiestOf_39 : decode cX12_easiestOf 39 = .ok (.bipush (-2), 2) := by decide +kernel
theorem dX12_easiestOf_41 : decode cX12_easiestOf 41 = .ok (.if_icmp .ne 16, 3) := by decide +kernel
theorem dX12_easiestOf_44 : decode cX12_easiestOf 44 = .ok (.aload_n 0, 1) := by decide +kernel
theorem dX12_easiestOf_45 : decode cX12_easiestOf 45 = .ok (.getfield 52, 3) := by decide +kernel
theorem dX12_easiestOf_48 : decode cX12_easiestOf 48 = .ok (.iload_n 1, 1) := by decide +kernel
theorem dX12_easiestOf_49 : decode cX12_easiestOf 49 = .ok (.iaload, 1) := by decide +kernel
theorem dX12_easiestOf_50 : decode cX12_easiestOf 50 = .ok (.sipush 1000, 3) := by decide +kernel
theorem dX12_easiestOf_53 : decode cX12_easiestOf 53 = .ok (.idiv, 1) := by decide +kernel
theorem dX12_easiestOf_54 : decode cX12_easiestOf 54 = .ok (.goto 13, 3) := by decide +kernel
theorem dX12_easiestOf_57 : decode cX12_easiestOf 57 = .ok (.aload_n 0, 1) := by decide +kernel
theorem dX12_easiestOf_58 : decode cX12_easiestOf 58 = .ok (.getfield 52, 3) := by decide +kernel
theorem dX12_easiestOf_61 : decode cX12_easiestOf 61 = .ok (.iload_n 1, 1) := by decide +kernel
theorem dX12_easiestOf_62 : decode cX12_easiestOf 62 = .ok (.iaload, 1) := by decide +kernel
theorem dX12_easiestOf_63 : decode cX12_easiestOf 63 = .ok (.sipush 1000, 3) := by decide +kernel
theorem dX12_easiestOf_66 : decode cX12_easiestOf 66 = .ok (.irem, 1) := by decide +kernel
theorem dX12_easiestOf_67 : decode cX12_easiestOf 67 = .ok (.ireturn, 1) := by decide +kernel
theorem dX12_easiestOf_68 : decode cX12_easiestOf 68 = .ok (.iload_n 1, 1) := by decide +kernel
theorem dX12_easiestOf_69 : decode cX12_easiestOf 69 = .ok (.istore 4, 2) := by decide +kernel
theorem dX12_easiestOf_71 : decode cX12_easiestOf 71 = .ok (.iconst (-1), 1) := by decide +kernel
theorem dX12_easiestOf_72 : decode cX12_easiestOf 72 = .ok (.istore 5, 2) := by decide +kernel
theorem dX12_easiestOf_74 : decode cX12_easiestOf 74 = .ok (.iconst 0, 1) := by decide +kernel
theorem dX12_easiestOf_75 : decode cX12_easiestOf 75 = .ok (.istore 6, 2) := by decide +kernel
theorem dX12_easiestOf_77 : decode cX12_easiestOf 77 = .ok (.iload 6, 2) := by decide +kernel
theorem dX12_easiestOf_79 : decode cX12_easiestOf 79 = .ok (.iload_n 3, 1) := by decide +kernel
theorem dX12_easiestOf_80 : decode cX12_easiestOf 80 = .ok (.if_icmp .gt 86, 3) := by decide +kernel
theorem dX12_easiestOf_83 : decode cX12_easiestOf 83 = .ok (.iload 4, 2) := by decide +kernel
theorem dX12_easiestOf_85 : decode cX12_easiestOf 85 = .ok (.iload_n 2, 1) := by decide +kernel
theorem dX12_easiestOf_86 : decode cX12_easiestOf 86 = .ok (.if_icmp .ne 5, 3) := by decide +kernel
theorem dX12_easiestOf_89 : decode cX12_easiestOf 89 = .ok (.iconst (-1), 1) := by decide +kernel
theorem dX12_easiestOf_90 : decode cX12_easiestOf 90 = .ok (.ireturn, 1) := by decide +kernel
theorem dX12_easiestOf_91 : decode cX12_easiestOf 91 = .ok (.iconst 0, 1) := by decide +kernel
theorem dX12_easiestOf_92 : decode cX12_easiestOf 92 = .ok (.istore 5, 2) := by decide +kernel
theorem dX12_easiestOf_94 : decode cX12_easiestOf 94 = .ok (.aload_n 0, 1) := by decide +kernel
theorem dX12_easiestOf_95 : decode cX12_easiestOf 95 = .ok (.iload 4, 2) := by decide +kernel
theorem dX12_easiestOf_97 : decode cX12_easiestOf 97 = .ok (.iconst 0, 1) := by decide +kernel
theorem dX12_easiestOf_98 : decode cX12_easiestOf 98 = .ok (.invokevirtual 184, 3) := by decide +kernel
theorem dX12_easiestOf_101 : decode cX12_easiestOf 101 = .ok (.istore 7, 2) := by decide +kernel
theorem dX12_easiestOf_103 : decode cX12_easiestOf 103 = .ok (.iload 7, 2) := by decide +kernel
theorem dX12_easiestOf_105 : decode cX12_easiestOf 105 = .ok (.iconst (-1), 1) := by decide +kernel
theorem dX12_easiestOf_106 : decode cX12_easiestOf 106 = .ok (.if_icmp .eq 34, 3) := by decide +kernel
theorem dX12_easiestOf_109 : decode cX12_easiestOf 109 = .ok (.aload_n 0, 1) := by decide +kernel
theorem dX12_easiestOf_110 : decode cX12_easiestOf 110 = .ok (.getfield 52, 3) := by decide +kernel
theorem dX12_easiestOf_113 : decode cX12_easiestOf 113 = .ok (.iload 4, 2) := by decide +kernel
theorem dX12_easiestOf_115 : decode cX12_easiestOf 115 = .ok (.iaload, 1) := by decide +kernel
theorem dX12_easiestOf_116 : decode cX12_easiestOf 116 = .ok (.aload_n 0, 1) := by decide +kernel
theorem dX12_easiestOf_117 : decode cX12_easiestOf 117 = .ok (.getfield 52, 3) := by decide +kernel
theorem dX12_easiestOf_120 : decode cX12_easiestOf 120 = .ok (.iload 7, 2) := by decide +kernel
theorem dX12_easiestOf_122 : decode cX12_easiestOf 122 = .ok (.iaload, 1) := by decide +kernel
theorem dX12_easiestOf_123 : decode cX12_easiestOf 123 = .ok (.sipush 1000, 3) := by decide +kernel
theorem dX12_easiestOf_126 : decode cX12_easiestOf 126 = .ok (.aload_n 0, 1) := by decide +kernel
theorem dX12_easiestOf_127 : decode cX12_easiestOf 127 = .ok (.getfield 28, 3) := by decide +kernel
theorem dX12_easiestOf_130 : decode cX12_easiestOf 130 = .ok (.iload 7, 2) := by decide +kernel
theorem dX12_easiestOf_132 : decode cX12_easiestOf 132 = .ok (.iaload, 1) := by decide +kernel
theorem dX12_easiestOf_133 : decode cX12_easiestOf 133 = .ok (.imul, 1) := by decide +kernel
theorem dX12_easiestOf_134 : decode cX12_easiestOf 134 = .ok (.iadd, 1) := by decide +kernel
theorem dX12_easiestOf_135 : decode cX12_easiestOf 135 = .ok (.iconst 1, 1) := by decide +kernel
theorem dX12_easiestOf_136 : decode cX12_easiestOf 136 = .ok (.iadd, 1) := by decide +kernel
theorem dX12_easiestOf_137 : decode cX12_easiestOf 137 = .ok (.if_icmp .eq 19, 3) := by decide +kernel
theorem dX12_easiestOf_140 : decode cX12_easiestOf 140 = .ok (.iinc 5 1, 3) := by decide +kernel
theorem dX12_easiestOf_143 : decode cX12_easiestOf 143 = .ok (.aload_n 0, 1) := by decide +kernel
theorem dX12_easiestOf_144 : decode cX12_easiestOf 144 = .ok (.iload 4, 2) := by decide +kernel
theorem dX12_easiestOf_146 : decode cX12_easiestOf 146 = .ok (.iload 5, 2) := by decide +kernel
theorem dX12_easiestOf_148 : decode cX12_easiestOf 148 = .ok (.invokevirtual 184, 3) := by decide +kernel
theorem dX12_easiestOf_151 : decode cX12_easiestOf 151 = .ok (.istore 7, 2) := by decide +kernel
theorem dX12_easiestOf_153 : decode cX12_easiestOf 153 = .ok (.goto (-50), 3) := by decide +kernel
theorem dX12_easiestOf_156 : decode cX12_easiestOf 156 = .ok (.iload 7, 2) := by decide +kernel
theorem dX12_easiestOf_158 : decode cX12_easiestOf 158 = .ok (.istore 4, 2) := by decide +kernel
theorem dX12_easiestOf_160 : decode cX12_easiestOf 160 = .ok (.iinc 6 1, 3) := by decide +kernel
theorem dX12_easiestOf_163 : decode cX12_easiestOf 163 = .ok (.goto (-86), 3) := by decide +kernel
theorem dX12_easiestOf_166 : decode cX12_easiestOf 166 = .ok (.iload 5, 2) := by decide +kernel
theorem dX12_easiestOf_168 : decode cX12_easiestOf 168 = .ok (.ireturn, 1) := by decide +kernel
theorem dX12_easiest_0 : decode cX12_easiest 0 = .ok (.aload_n 0, 1) := by decide +kernel
theorem dX12_easiest_1 : decode cX12_easiest 1 = .ok (.invokevirtual 175, 3) := by decide +kernel
theorem dX12_easiest_4 : decode cX12_easiest 4 = .ok (.aload_n 0, 1) := by decide +kernel
theorem dX12_easiest_5 : decode cX12_easiest 5 = .ok (.iload_n 1, 1) := by decide +kernel
theorem dX12_easiest_6 : decode cX12_easiest 6 = .ok (.invokevirtual 178, 3) := by decide +kernel
theorem dX12_easiest_9 : decode cX12_easiest 9 = .ok (.ifCond .eq 27, 3) := by decide +kernel
theorem dX12_easiest_12 : decode cX12_easiest 12 = .ok (.aload_n 0, 1) := by decide +kernel
theorem dX12_easiest_13 : decode cX12_easiest 13 = .ok (.iload_n 2, 1) := by decide +kernel
theorem dX12_easiest_14 : decode cX12_easiest 14 = .ok (.invokevirtual 178, 3) := by decide +kernel
theorem dX12_easiest_17 : decode cX12_easiest 17 = .ok (.ifCond .eq 19, 3) := by decide +kernel
theorem dX12_easiest_20 : decode cX12_easiest 20 = .ok (.iload_n 3, 1) := by decide +kernel
theorem dX12_easiest_21 : decode cX12_easiest 21 = .ok (.bipush (-2), 2) := by decide +kernel
theorem dX12_easiest_23 : decode cX12_easiest 23 = .ok (.if_icmp .lt 13, 3) := by decide +kernel
theorem dX12_easiest_26 : decode cX12_easiest 26 = .ok (.aload_n 0, 1) := by decide +kernel
theorem dX12_easiest_27 : decode cX12_easiest 27 = .ok (.iload_n 1, 1) := by decide +kernel
theorem dX12_easiest_28 : decode cX12_easiest 28 = .ok (.iload_n 2, 1) := by decide +kernel
theorem dX12_easiest_29 : decode cX12_easiest 29 = .ok (.iload_n 3, 1) := by decide +kernel
theorem dX12_easiest_30 : decode cX12_easiest 30 = .ok (.invokevirtual 195, 3) := by decide +kernel
theorem dX12_easiest_33 : decode cX12_easiest 33 = .ok (.goto 5, 3) := by decide +kernel
theorem dX12_easiest_36 : decode cX12_easiest 36 = .ok (.bipush (-2), 2) := by decide +kernel
theorem dX12_easiest_38 : decode cX12_easiest 38 = .ok (.ireturn, 1) := by decide +kernel
theorem dX12_orderOf_0 : decode cX12_orderOf 0 = .ok (.iload_n 1, 1) := by decide +kernel
theorem dX12_orderOf_1 : decode cX12_orderOf 1 = .ok (.aload_n 0, 1) := by decide +kernel
theorem dX12_orderOf_2 : decode cX12_orderOf 2 = .ok (.getfield 132, 3) := by decide +kernel
theorem dX12_orderOf_5 : decode cX12_orderOf 5 = .ok (.if_icmp .ge 12, 3) := by decide +kernel
theorem dX12_orderOf_8 : decode cX12_orderOf 8 = .ok (.aload_n 0, 1) := by decide +kernel
theorem dX12_orderOf_9 : decode cX12_orderOf 9 = .ok (.getfield 31, 3) := by decide +kernel
theorem dX12_orderOf_12 : decode cX12_orderOf 12 = .ok (.iload_n 1, 1) := by decide +kernel
theorem dX12_orderOf_13 : decode cX12_orderOf 13 = .ok (.iaload, 1) := by decide +kernel
theorem dX12_orderOf_14 : decode cX12_orderOf 14 = .ok (.goto 4, 3) := by decide +kernel
theorem dX12_orderOf_17 : decode cX12_orderOf 17 = .ok (.iconst (-1), 1) := by decide +kernel
theorem dX12_orderOf_18 : decode cX12_orderOf 18 = .ok (.ireturn, 1) := by decide +kernel
theorem dX12_order_0 : decode cX12_order 0 = .ok (.aload_n 0, 1) := by decide +kernel
theorem dX12_order_1 : decode cX12_order 1 = .ok (.invokevirtual 175, 3) := by decide +kernel
theorem dX12_order_4 : decode cX12_order 4 = .ok (.iload_n 1, 1) := by decide +kernel
theorem dX12_order_5 : decode cX12_order 5 = .ok (.i2l, 1) := by decide +kernel
theorem dX12_order_6 : decode cX12_order 6 = .ok (.lconst 0, 1) := by decide +kernel
theorem dX12_order_7 : decode cX12_order 7 = .ok (.ldc2_w 135, 3) := by decide +kernel
theorem dX12_order_10 : decode cX12_order 10 = .ok (.invokestatic 82, 3) := by decide +kernel
theorem dX12_order_13 : decode cX12_order 13 = .ok (.ifCond .eq 11, 3) := by decide +kernel
theorem dX12_order_16 : decode cX12_order 16 = .ok (.aload_n 0, 1) := by decide +kernel
theorem dX12_order_17 : decode cX12_order 17 = .ok (.iload_n 1, 1) := by decide +kernel
theorem dX12_order_18 : decode cX12_order 18 = .ok (.invokevirtual 198, 3) := by decide +kernel
theorem dX12_order_21 : decode cX12_order 21 = .ok (.goto 5, 3) := by decide +kernel
theorem dX12_order_24 : decode cX12_order 24 = .ok (.bipush (-2), 2) := by decide +kernel
theorem dX12_order_26 : decode cX12_order 26 = .ok (.ireturn, 1) := by decide +kernel
theorem dX12_gripAt_0 : decode cX12_gripAt 0 = .ok (.aload_n 0, 1) := by decide +kernel
theorem dX12_gripAt_1 : decode cX12_gripAt 1 = .ok (.getfield 40, 3) := by decide +kernel
theorem dX12_gripAt_4 : decode cX12_gripAt 4 = .ok (.iconst 5, 1) := by decide +kernel
theorem dX12_gripAt_5 : decode cX12_gripAt 5 = .ok (.aload_n 0, 1) := by decide +kernel
theorem dX12_gripAt_6 : decode cX12_gripAt 6 = .ok (.getfield 31, 3) := by decide +kernel
theorem dX12_gripAt_9 : decode cX12_gripAt 9 = .ok (.iload_n 1, 1) := by decide +kernel
theorem dX12_gripAt_10 : decode cX12_gripAt 10 = .ok (.iaload, 1) := by decide +kernel
theorem dX12_gripAt_11 : decode cX12_gripAt 11 = .ok (.imul, 1) := by decide +kernel
theorem dX12_gripAt_12 : decode cX12_gripAt 12 = .ok (.aload_n 0, 1) := by decide +kernel
theorem dX12_gripAt_13 : decode cX12_gripAt 13 = .ok (.getfield 31, 3) := by decide +kernel
theorem dX12_gripAt_16 : decode cX12_gripAt 16 = .ok (.iload_n 1, 1) := by decide +kernel
theorem dX12_gripAt_17 : decode cX12_gripAt 17 = .ok (.iconst 1, 1) := by decide +kernel
theorem dX12_gripAt_18 : decode cX12_gripAt 18 = .ok (.iadd, 1) := by decide +kernel
theorem dX12_gripAt_19 : decode cX12_gripAt 19 = .ok (.iaload, 1) := by decide +kernel
theorem dX12_gripAt_20 : decode cX12_gripAt 20 = .ok (.iadd, 1) := by decide +kernel
theorem dX12_gripAt_21 : decode cX12_gripAt 21 = .ok (.iaload, 1) := by decide +kernel
theorem dX12_gripAt_22 : decode cX12_gripAt 22 = .ok (.ireturn, 1) := by decide +kernel
theorem dX12_looseNow_0 : decode cX12_looseNow 0 = .ok (.iconst 0, 1) := by decide +kernel
theorem dX12_looseNow_1 : decode cX12_looseNow 1 = .ok (.istore_n 1, 1) := by decide +kernel
theorem dX12_looseNow_2 : decode cX12_looseNow 2 = .ok (.iconst 0, 1) := by decide +kernel
theorem dX12_looseNow_3 : decode cX12_looseNow 3 = .ok (.istore_n 2, 1) := by decide +kernel
theorem dX12_looseNow_4 : decode cX12_looseNow 4 = .ok (.iload_n 2, 1) := by decide +kernel
theorem dX12_looseNow_5 : decode cX12_looseNow 5 = .ok (.iconst 1, 1) := by decide +kernel
theorem dX12_looseNow_6 : decode cX12_looseNow 6 = .ok (.iadd, 1) := by decide +kernel
theorem dX12_looseNow_7 : decode cX12_looseNow 7 = .ok (.aload_n 0, 1) := by decide +kernel
theorem dX12_looseNow_8 : decode cX12_looseNow 8 = .ok (.getfield 132, 3) := by decide +kernel
theorem dX12_looseNow_11 : decode cX12_looseNow 11 = .ok (.if_icmp .ge 20, 3) := by decide +kernel
theorem dX12_looseNow_14 : decode cX12_looseNow 14 = .ok (.iload_n 1, 1) := by decide +kernel
theorem dX12_looseNow_15 : decode cX12_looseNow 15 = .ok (.bipush 16, 2) := by decide +kernel
theorem dX12_looseNow_17 : decode cX12_looseNow 17 = .ok (.aload_n 0, 1) := by decide +kernel
theorem dX12_looseNow_18 : decode cX12_looseNow 18 = .ok (.iload_n 2, 1) := by decide +kernel
theorem dX12_looseNow_19 : decode cX12_looseNow 19 = .ok (.invokevirtual 201, 3) := by decide +kernel
theorem dX12_looseNow_22 : decode cX12_looseNow 22 = .ok (.isub, 1) := by decide +kernel
theorem dX12_looseNow_23 : decode cX12_looseNow 23 = .ok (.iadd, 1) := by decide +kernel
theorem dX12_looseNow_24 : decode cX12_looseNow 24 = .ok (.istore_n 1, 1) := by decide +kernel
theorem dX12_looseNow_25 : decode cX12_looseNow 25 = .ok (.iinc 2 1, 3) := by decide +kernel
theorem dX12_looseNow_28 : decode cX12_looseNow 28 = .ok (.goto (-24), 3) := by decide +kernel
theorem dX12_looseNow_31 : decode cX12_looseNow 31 = .ok (.iload_n 1, 1) := by decide +kernel
theorem dX12_looseNow_32 : decode cX12_looseNow 32 = .ok (.ireturn, 1) := by decide +kernel
theorem dX12_loose_0 : decode cX12_loose 0 = .ok (.aload_n 0, 1) := by decide +kernel
theorem dX12_loose_1 : decode cX12_loose 1 = .ok (.invokevirtual 175, 3) := by decide +kernel
theorem dX12_loose_4 : decode cX12_loose 4 = .ok (.aload_n 0, 1) := by decide +kernel
theorem dX12_loose_5 : decode cX12_loose 5 = .ok (.invokevirtual 204, 3) := by decide +kernel
theorem dX12_loose_8 : decode cX12_loose 8 = .ok (.ireturn, 1) := by decide +kernel
theorem dX12_riskNow_0 : decode cX12_riskNow 0 = .ok (.iconst 0, 1) := by decide +kernel
theorem dX12_riskNow_1 : decode cX12_riskNow 1 = .ok (.istore_n 1, 1) := by decide +kernel
theorem dX12_riskNow_2 : decode cX12_riskNow 2 = .ok (.iconst 1, 1) := by decide +kernel
theorem dX12_riskNow_3 : decode cX12_riskNow 3 = .ok (.istore_n 2, 1) := by decide +kernel
theorem dX12_riskNow_4 : decode cX12_riskNow 4 = .ok (.iload_n 2, 1) := by decide +kernel
theorem dX12_riskNow_5 : decode cX12_riskNow 5 = .ok (.aload_n 0, 1) := by decide +kernel
theorem dX12_riskNow_6 : decode cX12_riskNow 6 = .ok (.getfield 181, 3) := by decide +kernel
theorem dX12_riskNow_9 : decode cX12_riskNow 9 = .ok (.if_icmp .gt 23, 3) := by decide +kernel
theorem dX12_riskNow_12 : decode cX12_riskNow 12 = .ok (.iload_n 1, 1) := by decide +kernel
theorem dX12_riskNow_13 : decode cX12_riskNow 13 = .ok (.aload_n 0, 1) := by decide +kernel
theorem dX12_riskNow_14 : decode cX12_riskNow 14 = .ok (.getfield 28, 3) := by decide +kernel
theorem dX12_riskNow_17 : decode cX12_riskNow 17 = .ok (.aload_n 0, 1) := by decide +kernel
theorem dX12_riskNow_18 : decode cX12_riskNow 18 = .ok (.getfield 49, 3) := by decide +kernel
theorem dX12_riskNow_21 : decode cX12_riskNow 21 = .ok (.iload_n 2, 1) := by decide +kernel
theorem dX12_riskNow_22 : decode cX12_riskNow 22 = .ok (.iaload, 1) := by decide +kernel
theorem dX12_riskNow_23 : decode cX12_riskNow 23 = .ok (.iaload, 1) := by decide +kernel
theorem dX12_riskNow_24 : decode cX12_riskNow 24 = .ok (.iadd, 1) := by decide +kernel
theorem dX12_riskNow_25 : decode cX12_riskNow 25 = .ok (.istore_n 1, 1) := by decide +kernel
theorem dX12_riskNow_26 : decode cX12_riskNow 26 = .ok (.iinc 2 1, 3) := by decide +kernel
theorem dX12_riskNow_29 : decode cX12_riskNow 29 = .ok (.goto (-25), 3) := by decide +kernel
theorem dX12_riskNow_32 : decode cX12_riskNow 32 = .ok (.iload_n 1, 1) := by decide +kernel
theorem dX12_riskNow_33 : decode cX12_riskNow 33 = .ok (.aload_n 0, 1) := by decide +kernel
theorem dX12_riskNow_34 : decode cX12_riskNow 34 = .ok (.invokevirtual 204, 3) := by decide +kernel
theorem dX12_riskNow_37 : decode cX12_riskNow 37 = .ok (.imul, 1) := by decide +kernel
theorem dX12_riskNow_38 : decode cX12_riskNow 38 = .ok (.ireturn, 1) := by decide +kernel
theorem dX12_risk_0 : decode cX12_risk 0 = .ok (.aload_n 0, 1) := by decide +kernel
theorem dX12_risk_1 : decode cX12_risk 1 = .ok (.invokevirtual 175, 3) := by decide +kernel
theorem dX12_risk_4 : decode cX12_risk 4 = .ok (.aload_n 0, 1) := by decide +kernel
theorem dX12_risk_5 : decode cX12_risk 5 = .ok (.invokevirtual 207, 3) := by decide +kernel
theorem dX12_risk_8 : decode cX12_risk 8 = .ok (.ireturn, 1) := by decide +kernel
theorem dX12_bestOf_0 : decode cX12_bestOf 0 = .ok (.iload_n 1, 1) := by decide +kernel
theorem dX12_bestOf_1 : decode cX12_bestOf 1 = .ok (.invokestatic 210, 3) := by decide +kernel
theorem dX12_bestOf_4 : decode cX12_bestOf 4 = .ok (.istore_n 3, 1) := by decide +kernel
theorem dX12_bestOf_5 : decode cX12_bestOf 5 = .ok (.iconst 1, 1) := by decide +kernel
theorem dX12_bestOf_6 : decode cX12_bestOf 6 = .ok (.istore 4, 2) := by decide +kernel
theorem dX12_bestOf_8 : decode cX12_bestOf 8 = .ok (.iconst 0, 1) := by decide +kernel
theorem dX12_bestOf_9 : decode cX12_bestOf 9 = .ok (.istore 5, 2) := by decide +kernel
theorem dX12_bestOf_11 : decode cX12_bestOf 11 = .ok (.iload 5, 2) := by decide +kernel
theorem dX12_bestOf_13 : decode cX12_bestOf 13 = .ok (.iload_n 3, 1) := by decide +kernel
theorem dX12_bestOf_14 : decode cX12_bestOf 14 = .ok (.if_icmp .ge 15, 3) := by decide +kernel
theorem dX12_bestOf_17 : decode cX12_bestOf 17 = .ok (.iload 4, 2) := by decide +kernel
theorem dX12_bestOf_19 : decode cX12_bestOf 19 = .ok (.iconst 5, 1) := by decide +kernel
theorem dX12_bestOf_20 : decode cX12_bestOf 20 = .ok (.imul, 1) := by decide +kernel
theorem dX12_bestOf_21 : decode cX12_bestOf 21 = .ok (.istore 4, 2) := by decide +kernel
theorem dX12_bestOf_23 : decode cX12_bestOf 23 = .ok (.iinc 5 1, 3) := by decide +kernel
theorem dX12_bestOf_26 : decode cX12_bestOf 26 = .ok (.goto (-15), 3) := by decide +kernel
theorem dX12_bestOf_29 : decode cX12_bestOf 29 = .ok (.iconst (-1), 1) := by decide +kernel
theorem dX12_bestOf_30 : decode cX12_bestOf 30 = .ok (.istore 5, 2) := by decide +kernel
theorem dX12_bestOf_32 : decode cX12_bestOf 32 = .ok (.iconst 0, 1) := by decide +kernel
theorem dX12_bestOf_33 : decode cX12_bestOf 33 = .ok (.istore 6, 2) := by decide +kernel
theorem dX12_bestOf_35 : decode cX12_bestOf 35 = .ok (.iload 6, 2) := by decide +kernel
theorem dX12_bestOf_37 : decode cX12_bestOf 37 = .ok (.iload 4, 2) := by decide +kernel
theorem dX12_bestOf_39 : decode cX12_bestOf 39 = .ok (.if_icmp .ge 172, 3) := by decide +kernel
theorem dX12_bestOf_42 : decode cX12_bestOf 42 = .ok (.iload 6, 2) := by decide +kernel
theorem dX12_bestOf_44 : decode cX12_bestOf 44 = .ok (.istore 7, 2) := by decide +kernel
theorem dX12_bestOf_46 : decode cX12_bestOf 46 = .ok (.iconst 0, 1) := by decide +kernel
theorem dX12_bestOf_47 : decode cX12_bestOf 47 = .ok (.istore 8, 2) := by decide +kernel
theorem dX12_bestOf_49 : decode cX12_bestOf 49 = .ok (.iconst 0, 1) := by decide +kernel
theorem dX12_bestOf_50 : decode cX12_bestOf 50 = .ok (.istore 9, 2) := by decide +kernel
theorem dX12_bestOf_52 : decode cX12_bestOf 52 = .ok (.iload_n 3, 1) := by decide +kernel
theorem dX12_bestOf_53 : decode cX12_bestOf 53 = .ok (.iconst 1, 1) := by decide +kernel
theorem dX12_bestOf_54 : decode cX12_bestOf 54 = .ok (.isub, 1) := by decide +kernel
theorem dX12_bestOf_55 : decode cX12_bestOf 55 = .ok (.istore 10, 2) := by decide +kernel
theorem dX12_bestOf_57 : decode cX12_bestOf 57 = .ok (.iload 10, 2) := by decide +kernel
theorem dX12_bestOf_59 : decode cX12_bestOf 59 = .ok (.ifCond .lt 84, 3) := by decide +kernel
theorem dX12_bestOf_62 : decode cX12_bestOf 62 = .ok (.aload_n 0, 1) := by decide +kernel
theorem dX12_bestOf_63 : decode cX12_bestOf 63 = .ok (.getfield 58, 3) := by decide +kernel
theorem dX12_bestOf_66 : decode cX12_bestOf 66 = .ok (.iload 10, 2) := by decide +kernel
theorem dX12_bestOf_68 : decode cX12_bestOf 68 = .ok (.iload 7, 2) := by decide +kernel
theorem dX12_bestOf_70 : decode cX12_bestOf 70 = .ok (.iconst 5, 1) := by decide +kernel
theorem dX12_bestOf_71 : decode cX12_bestOf 71 = .ok (.irem, 1) := by decide +kernel
theorem dX12_bestOf_72 : decode cX12_bestOf 72 = .ok (.iastore, 1) := by decide +kernel
theorem dX12_bestOf_73 : decode cX12_bestOf 73 = .ok (.iload 7, 2) := by decide +kernel
theorem dX12_bestOf_75 : decode cX12_bestOf 75 = .ok (.iconst 5, 1) := by decide +kernel
theorem dX12_bestOf_76 : decode cX12_bestOf 76 = .ok (.idiv, 1) := by decide +kernel
theorem dX12_bestOf_77 : decode cX12_bestOf 77 = .ok (.istore 7, 2) := by decide +kernel
theorem dX12_bestOf_79 : decode cX12_bestOf 79 = .ok (.iload 8, 2) := by decide +kernel
theorem dX12_bestOf_81 : decode cX12_bestOf 81 = .ok (.iconst 1, 1) := by decide +kernel
theorem dX12_bestOf_82 : decode cX12_bestOf 82 = .ok (.aload_n 0, 1) := by decide +kernel
theorem dX12_bestOf_83 : decode cX12_bestOf 83 = .ok (.getfield 58, 3) := by decide +kernel
theorem dX12_bestOf_86 : decode cX12_bestOf 86 = .ok (.iload 10, 2) := by decide +kernel
theorem dX12_bestOf_88 : decode cX12_bestOf 88 = .ok (.iaload, 1) := by decide +kernel
theorem dX12_bestOf_89 : decode cX12_bestOf 89 = .ok (.ishl, 1) := by decide +kernel
theorem dX12_bestOf_90 : decode cX12_bestOf 90 = .ok (.ior, 1) := by decide +kernel
theorem dX12_bestOf_91 : decode cX12_bestOf 91 = .ok (.istore 8, 2) := by decide +kernel
theorem dX12_bestOf_93 : decode cX12_bestOf 93 = .ok (.iload 9, 2) := by decide +kernel
theorem dX12_bestOf_95 : decode cX12_bestOf 95 = .ok (.iload 10, 2) := by decide +kernel
theorem dX12_bestOf_97 : decode cX12_bestOf 97 = .ok (.iload_n 3, 1) := by decide +kernel
theorem dX12_bestOf_98 : decode cX12_bestOf 98 = .ok (.iconst 1, 1) := by decide +kernel
theorem dX12_bestOf_99 : decode cX12_bestOf 99 = .ok (.isub, 1) := by decide +kernel
theorem dX12_bestOf_100 : decode cX12_bestOf 100 = .ok (.if_icmp .ge 33, 3) := by decide +kernel
theorem dX12_bestOf_103 : decode cX12_bestOf 103 = .ok (.bipush 16, 2) := by decide +kernel
theorem dX12_bestOf_105 : decode cX12_bestOf 105 = .ok (.aload_n 0, 1) := by decide +kernel
theorem dX12_bestOf_106 : decode cX12_bestOf 106 = .ok (.getfield 40, 3) := by decide +kernel
theorem dX12_bestOf_109 : decode cX12_bestOf 109 = .ok (.iconst 5, 1) := by decide +kernel
theorem dX12_bestOf_110 : decode cX12_bestOf 110 = .ok (.aload_n 0, 1) := by decide +kernel
theorem dX12_bestOf_111 : decode cX12_bestOf 111 = .ok (.getfield 58, 3) := by decide +kernel
theorem dX12_bestOf_114 : decode cX12_bestOf 114 = .ok (.iload 10, 2) := by decide +kernel
theorem dX12_bestOf_116 : decode cX12_bestOf 116 = .ok (.iaload, 1) := by decide +kernel
theorem dX12_bestOf_117 : decode cX12_bestOf 117 = .ok (.imul, 1) := by decide +kernel
theorem dX12_bestOf_118 : decode cX12_bestOf 118 = .ok (.aload_n 0, 1) := by decide +kernel
theorem dX12_bestOf_119 : decode cX12_bestOf 119 = .ok (.getfield 58, 3) := by decide +kernel
theorem dX12_bestOf_122 : decode cX12_bestOf 122 = .ok (.iload 10, 2) := by decide +kernel
theorem dX12_bestOf_124 : decode cX12_bestOf 124 = .ok (.iconst 1, 1) := by decide +kernel
theorem dX12_bestOf_125 : decode cX12_bestOf 125 = .ok (.iadd, 1) := by decide +kernel
theorem dX12_bestOf_126 : decode cX12_bestOf 126 = .ok (.iaload, 1) := by decide +kernel
theorem dX12_bestOf_127 : decode cX12_bestOf 127 = .ok (.iadd, 1) := by decide +kernel
theorem dX12_bestOf_128 : decode cX12_bestOf 128 = .ok (.iaload, 1) := by decide +kernel
theorem dX12_bestOf_129 : decode cX12_bestOf 129 = .ok (.isub, 1) := by decide +kernel
theorem dX12_bestOf_130 : decode cX12_bestOf 130 = .ok (.goto 4, 3) := by decide +kernel
theorem dX12_bestOf_133 : decode cX12_bestOf 133 = .ok (.iconst 0, 1) := by decide +kernel
theorem dX12_bestOf_134 : decode cX12_bestOf 134 = .ok (.iadd, 1) := by decide +kernel
theorem dX12_bestOf_135 : decode cX12_bestOf 135 = .ok (.istore 9, 2) := by decide +kernel
theorem dX12_bestOf_137 : decode cX12_bestOf 137 = .ok (.iinc 10 (-1), 3) := by decide +kernel
theorem dX12_bestOf_140 : decode cX12_bestOf 140 = .ok (.goto (-83), 3) := by decide +kernel
theorem dX12_bestOf_143 : decode cX12_bestOf 143 = .ok (.iload 8, 2) := by decide +kernel
theorem dX12_bestOf_145 : decode cX12_bestOf 145 = .ok (.iload_n 1, 1) := by decide +kernel
theorem dX12_bestOf_146 : decode cX12_bestOf 146 = .ok (.if_icmp .ne 59, 3) := by decide +kernel
theorem dX12_bestOf_149 : decode cX12_bestOf 149 = .ok (.iload 5, 2) := by decide +kernel
theorem dX12_bestOf_151 : decode cX12_bestOf 151 = .ok (.iconst (-1), 1) := by decide +kernel
theorem dX12_bestOf_152 : decode cX12_bestOf 152 = .ok (.if_icmp .eq 10, 3) := by decide +kernel
theorem dX12_bestOf_155 : decode cX12_bestOf 155 = .ok (.iload 9, 2) := by decide +kernel
theorem dX12_bestOf_157 : decode cX12_bestOf 157 = .ok (.iload 5, 2) := by decide +kernel
theorem dX12_bestOf_159 : decode cX12_bestOf 159 = .ok (.if_icmp .ge 46, 3) := by decide +kernel
theorem dX12_bestOf_162 : decode cX12_bestOf 162 = .ok (.iload 9, 2) := by decide +kernel
theorem dX12_bestOf_164 : decode cX12_bestOf 164 = .ok (.istore 5, 2) := by decide +kernel
theorem dX12_bestOf_166 : decode cX12_bestOf 166 = .ok (.iconst 0, 1) := by decide +kernel
theorem dX12_bestOf_167 : decode cX12_bestOf 167 = .ok (.istore 10, 2) := by decide +kernel
theorem dX12_bestOf_169 : decode cX12_bestOf 169 = .ok (.iload 10, 2) := by decide +kernel
theorem dX12_bestOf_171 : decode cX12_bestOf 171 = .ok (.iconst 5, 1) := by decide +kernel
theorem dX12_bestOf_172 : decode cX12_bestOf 172 = .ok (.if_icmp .ge 33, 3) := by decide +kernel
theorem dX12_bestOf_175 : decode cX12_bestOf 175 = .ok (.aload_n 0, 1) := by decide +kernel
theorem dX12_bestOf_176 : decode cX12_bestOf 176 = .ok (.getfield 55, 3) := by decide +kernel
theorem dX12_bestOf_179 : decode cX12_bestOf 179 = .ok (.iload 10, 2) := by decide +kernel
theorem dX12_bestOf_181 : decode cX12_bestOf 181 = .ok (.iload 10, 2) := by decide +kernel
theorem dX12_bestOf_183 : decode cX12_bestOf 183 = .ok (.iload_n 3, 1) := by decide +kernel
theorem dX12_bestOf_184 : decode cX12_bestOf 184 = .ok (.if_icmp .ge 13, 3) := by decide +kernel
theorem dX12_bestOf_187 : decode cX12_bestOf 187 = .ok (.aload_n 0, 1) := by decide +kernel
theorem dX12_bestOf_188 : decode cX12_bestOf 188 = .ok (.getfield 58, 3) := by decide +kernel
theorem dX12_bestOf_191 : decode cX12_bestOf 191 = .ok (.iload 10, 2) := by decide +kernel
theorem dX12_bestOf_193 : decode cX12_bestOf 193 = .ok (.iaload, 1) := by decide +kernel
theorem dX12_bestOf_194 : decode cX12_bestOf 194 = .ok (.goto 4, 3) := by decide +kernel
theorem dX12_bestOf_197 : decode cX12_bestOf 197 = .ok (.iconst (-1), 1) := by decide +kernel
theorem dX12_bestOf_198 : decode cX12_bestOf 198 = .ok (.iastore, 1) := by decide +kernel
theorem dX12_bestOf_199 : decode cX12_bestOf 199 = .ok (.iinc 10 1, 3) := by decide +kernel
theorem dX12_bestOf_202 : decode cX12_bestOf 202 = .ok (.goto (-33), 3) := by decide +kernel
theorem dX12_bestOf_205 : decode cX12_bestOf 205 = .ok (.iinc 6 1, 3) := by decide +kernel
theorem dX12_bestOf_208 : decode cX12_bestOf 208 = .ok (.goto (-173), 3) := by decide +kernel
theorem dX12_bestOf_211 : decode cX12_bestOf 211 = .ok (.iload_n 2, 1) := by decide +kernel
theorem dX12_bestOf_212 : decode cX12_bestOf 212 = .ok (.iconst (-1), 1) := by decide +kernel
theorem dX12_bestOf_213 : decode cX12_bestOf 213 = .ok (.if_icmp .ne 8, 3) := by decide +kernel
theorem dX12_bestOf_216 : decode cX12_bestOf 216 = .ok (.iload 5, 2) := by decide +kernel
theorem dX12_bestOf_218 : decode cX12_bestOf 218 = .ok (.goto 9, 3) := by decide +kernel
theorem dX12_bestOf_221 : decode cX12_bestOf 221 = .ok (.aload_n 0, 1) := by decide +kernel
theorem dX12_bestOf_222 : decode cX12_bestOf 222 = .ok (.getfield 55, 3) := by decide +kernel
theorem dX12_bestOf_225 : decode cX12_bestOf 225 = .ok (.iload_n 2, 1) := by decide +kernel
theorem dX12_bestOf_226 : decode cX12_bestOf 226 = .ok (.iaload, 1) := by decide +kernel
theorem dX12_bestOf_227 : decode cX12_bestOf 227 = .ok (.ireturn, 1) := by decide +kernel
theorem dX12_best_0 : decode cX12_best 0 = .ok (.iload_n 1, 1) := by decide +kernel
theorem dX12_best_1 : decode cX12_best 1 = .ok (.i2l, 1) := by decide +kernel
theorem dX12_best_2 : decode cX12_best 2 = .ok (.lconst 0, 1) := by decide +kernel
theorem dX12_best_3 : decode cX12_best 3 = .ok (.ldc2_w 213, 3) := by decide +kernel
theorem dX12_best_6 : decode cX12_best 6 = .ok (.invokestatic 82, 3) := by decide +kernel
theorem dX12_best_9 : decode cX12_best 9 = .ok (.ifCond .eq 34, 3) := by decide +kernel
theorem dX12_best_12 : decode cX12_best 12 = .ok (.iload_n 1, 1) := by decide +kernel
theorem dX12_best_13 : decode cX12_best 13 = .ok (.invokestatic 210, 3) := by decide +kernel
theorem dX12_best_16 : decode cX12_best 16 = .ok (.iconst 1, 1) := by decide +kernel
theorem dX12_best_17 : decode cX12_best 17 = .ok (.if_icmp .le 26, 3) := by decide +kernel
theorem dX12_best_20 : decode cX12_best 20 = .ok (.iload_n 2, 1) := by decide +kernel
theorem dX12_best_21 : decode cX12_best 21 = .ok (.i2l, 1) := by decide +kernel
theorem dX12_best_22 : decode cX12_best 22 = .ok (.ldc2_w 215, 3) := by decide +kernel
theorem dX12_best_25 : decode cX12_best 25 = .ok (.ldc2_w 135, 3) := by decide +kernel
theorem dX12_best_28 : decode cX12_best 28 = .ok (.invokestatic 82, 3) := by decide +kernel
theorem dX12_best_31 : decode cX12_best 31 = .ok (.ifCond .eq 12, 3) := by decide +kernel
theorem dX12_best_34 : decode cX12_best 34 = .ok (.aload_n 0, 1) := by decide +kernel
theorem dX12_best_35 : decode cX12_best 35 = .ok (.iload_n 1, 1) := by decide +kernel
theorem dX12_best_36 : decode cX12_best 36 = .ok (.iload_n 2, 1) := by decide +kernel
theorem dX12_best_37 : decode cX12_best 37 = .ok (.invokevirtual 217, 3) := by decide +kernel
theorem dX12_best_40 : decode cX12_best 40 = .ok (.goto 5, 3) := by decide +kernel
theorem dX12_best_43 : decode cX12_best 43 = .ok (.bipush (-2), 2) := by decide +kernel
theorem dX12_best_45 : decode cX12_best 45 = .ok (.ireturn, 1) := by decide +kernel
theorem dX12_part_0 : decode cX12_part 0 = .ok (.lload_n 0, 1) := by decide +kernel
theorem dX12_part_1 : decode cX12_part 1 = .ok (.lstore 5, 2) := by decide +kernel
theorem dX12_part_3 : decode cX12_part 3 = .ok (.lload_n 2, 1) := by decide +kernel
theorem dX12_part_4 : decode cX12_part 4 = .ok (.lstore 7, 2) := by decide +kernel
theorem dX12_part_6 : decode cX12_part 6 = .ok (.lload 7, 2) := by decide +kernel
theorem dX12_part_8 : decode cX12_part 8 = .ok (.lconst 0, 1) := by decide +kernel
theorem dX12_part_9 : decode cX12_part 9 = .ok (.lcmp, 1) := by decide +kernel
theorem dX12_part_10 : decode cX12_part 10 = .ok (.ifCond .eq 21, 3) := by decide +kernel
theorem dX12_part_13 : decode cX12_part 13 = .ok (.lload 5, 2) := by decide +kernel
theorem dX12_part_15 : decode cX12_part 15 = .ok (.lload 7, 2) := by decide +kernel
theorem dX12_part_17 : decode cX12_part 17 = .ok (.lrem, 1) := by decide +kernel
theorem dX12_part_18 : decode cX12_part 18 = .ok (.lstore 9, 2) := by decide +kernel
theorem dX12_part_20 : decode cX12_part 20 = .ok (.lload 7, 2) := by decide +kernel
theorem dX12_part_22 : decode cX12_part 22 = .ok (.lstore 5, 2) := by decide +kernel
theorem dX12_part_24 : decode cX12_part 24 = .ok (.lload 9, 2) := by decide +kernel
theorem dX12_part_26 : decode cX12_part 26 = .ok (.lstore 7, 2) := by decide +kernel
theorem dX12_part_28 : decode cX12_part 28 = .ok (.goto (-22), 3) := by decide +kernel
theorem dX12_part_31 : decode cX12_part 31 = .ok (.iload 4, 2) := by decide +kernel
theorem dX12_part_33 : decode cX12_part 33 = .ok (.ifCond .ne 7, 3) := by decide +kernel
theorem dX12_part_36 : decode cX12_part 36 = .ok (.lload_n 0, 1) := by decide +kernel
theorem dX12_part_37 : decode cX12_part 37 = .ok (.goto 4, 3) := by decide +kernel
theorem dX12_part_40 : decode cX12_part 40 = .ok (.lload_n 2, 1) := by decide +kernel
theorem dX12_part_41 : decode cX12_part 41 = .ok (.lload 5, 2) := by decide +kernel
theorem dX12_part_43 : decode cX12_part 43 = .ok (.ldiv, 1) := by decide +kernel
theorem dX12_part_44 : decode cX12_part 44 = .ok (.lreturn, 1) := by decide +kernel
theorem dX12_holdsOf_0 : decode cX12_holdsOf 0 = .ok (.lconst 1, 1) := by decide +kernel
theorem dX12_holdsOf_1 : decode cX12_holdsOf 1 = .ok (.lstore 5, 2) := by decide +kernel
theorem dX12_holdsOf_3 : decode cX12_holdsOf 3 = .ok (.lconst 1, 1) := by decide +kernel
theorem dX12_holdsOf_4 : decode cX12_holdsOf 4 = .ok (.lstore 7, 2) := by decide +kernel
theorem dX12_holdsOf_6 : decode cX12_holdsOf 6 = .ok (.iload_n 2, 1) := by decide +kernel
theorem dX12_holdsOf_7 : decode cX12_holdsOf 7 = .ok (.istore 9, 2) := by decide +kernel
theorem dX12_holdsOf_9 : decode cX12_holdsOf 9 = .ok (.iload 9, 2) := by decide +kernel
theorem dX12_holdsOf_11 : decode cX12_holdsOf 11 = .ok (.iload_n 2, 1) := by decide +kernel
theorem dX12_holdsOf_12 : decode cX12_holdsOf 12 = .ok (.iload_n 3, 1) := by decide +kernel
theorem dX12_holdsOf_13 : decode cX12_holdsOf 13 = .ok (.iadd, 1) := by decide +kernel
theorem dX12_holdsOf_14 : decode cX12_holdsOf 14 = .ok (.if_icmp .ge 50, 3) := by decide +kernel
theorem dX12_holdsOf_17 : decode cX12_holdsOf 17 = .ok (.lload 5, 2) := by decide +kernel
theorem dX12_holdsOf_19 : decode cX12_holdsOf 19 = .ok (.sipush 256, 3) := by decide +kernel
theorem dX12_holdsOf_22 : decode cX12_holdsOf 22 = .ok (.aload_n 0, 1) := by decide +kernel
theorem dX12_holdsOf_23 : decode cX12_holdsOf 23 = .ok (.getfield 28, 3) := by decide +kernel
theorem dX12_holdsOf_26 : decode cX12_holdsOf 26 = .ok (.aload_n 0, 1) := by decide +kernel
theorem dX12_holdsOf_27 : decode cX12_holdsOf 27 = .ok (.getfield 49, 3) := by decide +kernel
theorem dX12_holdsOf_30 : decode cX12_holdsOf 30 = .ok (.iload 9, 2) := by decide +kernel
theorem dX12_holdsOf_32 : decode cX12_holdsOf 32 = .ok (.iconst 1, 1) := by decide +kernel
theorem dX12_holdsOf_33 : decode cX12_holdsOf 33 = .ok (.iadd, 1) := by decide +kernel
theorem dX12_holdsOf_34 : decode cX12_holdsOf 34 = .ok (.iaload, 1) := by decide +kernel
theorem dX12_holdsOf_35 : decode cX12_holdsOf 35 = .ok (.iaload, 1) := by decide +kernel
theorem dX12_holdsOf_36 : decode cX12_holdsOf 36 = .ok (.bipush 16, 2) := by decide +kernel
theorem dX12_holdsOf_38 : decode cX12_holdsOf 38 = .ok (.aload_n 0, 1) := by decide +kernel
theorem dX12_holdsOf_39 : decode cX12_holdsOf 39 = .ok (.iload_n 1, 1) := by decide +kernel
theorem dX12_holdsOf_40 : decode cX12_holdsOf 40 = .ok (.invokevirtual 201, 3) := by decide +kernel
theorem dX12_holdsOf_43 : decode cX12_holdsOf 43 = .ok (.isub, 1) := by decide +kernel
theorem dX12_holdsOf_44 : decode cX12_holdsOf 44 = .ok (.imul, 1) := by decide +kernel
theorem dX12_holdsOf_45 : decode cX12_holdsOf 45 = .ok (.isub, 1) := by decide +kernel
theorem dX12_holdsOf_46 : decode cX12_holdsOf 46 = .ok (.i2l, 1) := by decide +kernel
theorem dX12_holdsOf_47 : decode cX12_holdsOf 47 = .ok (.lmul, 1) := by decide +kernel
theorem dX12_holdsOf_48 : decode cX12_holdsOf 48 = .ok (.lstore 5, 2) := by decide +kernel
theorem dX12_holdsOf_50 : decode cX12_holdsOf 50 = .ok (.lload 7, 2) := by decide +kernel
theorem dX12_holdsOf_52 : decode cX12_holdsOf 52 = .ok (.ldc2_w 220, 3) := by decide +kernel
theorem dX12_holdsOf_55 : decode cX12_holdsOf 55 = .ok (.lmul, 1) := by decide +kernel
theorem dX12_holdsOf_56 : decode cX12_holdsOf 56 = .ok (.lstore 7, 2) := by decide +kernel
theorem dX12_holdsOf_58 : decode cX12_holdsOf 58 = .ok (.iinc 9 1, 3) := by decide +kernel
theorem dX12_holdsOf_61 : decode cX12_holdsOf 61 = .ok (.goto (-52), 3) := by decide +kernel
theorem dX12_holdsOf_64 : decode cX12_holdsOf 64 = .ok (.lload 5, 2) := by decide +kernel
theorem dX12_holdsOf_66 : decode cX12_holdsOf 66 = .ok (.lload 7, 2) := by decide +kernel
theorem dX12_holdsOf_68 : decode cX12_holdsOf 68 = .ok (.iload 4, 2) := by decide +kernel
theorem dX12_holdsOf_70 : decode cX12_holdsOf 70 = .ok (.invokestatic 222, 3) := by decide +kernel
theorem dX12_holdsOf_73 : decode cX12_holdsOf 73 = .ok (.lreturn, 1) := by decide +kernel
theorem dX12_holds_0 : decode cX12_holds 0 = .ok (.aload_n 0, 1) := by decide +kernel
theorem dX12_holds_1 : decode cX12_holds 1 = .ok (.invokevirtual 175, 3) := by decide +kernel
theorem dX12_holds_4 : decode cX12_holds 4 = .ok (.iload_n 1, 1) := by decide +kernel
theorem dX12_holds_5 : decode cX12_holds 5 = .ok (.i2l, 1) := by decide +kernel
theorem dX12_holds_6 : decode cX12_holds 6 = .ok (.lconst 0, 1) := by decide +kernel
theorem dX12_holds_7 : decode cX12_holds 7 = .ok (.aload_n 0, 1) := by decide +kernel
theorem dX12_holds_8 : decode cX12_holds 8 = .ok (.getfield 132, 3) := by decide +kernel
theorem dX12_holds_11 : decode cX12_holds 11 = .ok (.iconst 2, 1) := by decide +kernel
theorem dX12_holds_12 : decode cX12_holds 12 = .ok (.isub, 1) := by decide +kernel
theorem dX12_holds_13 : decode cX12_holds 13 = .ok (.i2l, 1) := by decide +kernel
theorem dX12_holds_14 : decode cX12_holds 14 = .ok (.invokestatic 82, 3) := by decide +kernel
theorem dX12_holds_17 : decode cX12_holds 17 = .ok (.ifCond .eq 37, 3) := by decide +kernel
theorem dX12_holds_20 : decode cX12_holds 20 = .ok (.iload_n 2, 1) := by decide +kernel
theorem dX12_holds_21 : decode cX12_holds 21 = .ok (.ifCond .lt 33, 3) := by decide +kernel
theorem dX12_holds_24 : decode cX12_holds 24 = .ok (.iload_n 3, 1) := by decide +kernel
theorem dX12_holds_25 : decode cX12_holds 25 = .ok (.i2l, 1) := by decide +kernel
theorem dX12_holds_26 : decode cX12_holds 26 = .ok (.lconst 0, 1) := by decide +kernel
theorem dX12_holds_27 : decode cX12_holds 27 = .ok (.ldc2_w 226, 3) := by decide +kernel
theorem dX12_holds_30 : decode cX12_holds 30 = .ok (.invokestatic 82, 3) := by decide +kernel
theorem dX12_holds_33 : decode cX12_holds 33 = .ok (.ifCond .eq 21, 3) := by decide +kernel
theorem dX12_holds_36 : decode cX12_holds 36 = .ok (.iload_n 2, 1) := by decide +kernel
theorem dX12_holds_37 : decode cX12_holds 37 = .ok (.i2l, 1) := by decide +kernel
theorem dX12_holds_38 : decode cX12_holds 38 = .ok (.iload_n 3, 1) := by decide +kernel
theorem dX12_holds_39 : decode cX12_holds 39 = .ok (.i2l, 1) := by decide +kernel
theorem dX12_holds_40 : decode cX12_holds 40 = .ok (.ladd, 1) := by decide +kernel
theorem dX12_holds_41 : decode cX12_holds 41 = .ok (.aload_n 0, 1) := by decide +kernel
theorem dX12_holds_42 : decode cX12_holds 42 = .ok (.getfield 181, 3) := by decide +kernel
theorem dX12_holds_45 : decode cX12_holds 45 = .ok (.i2l, 1) := by decide +kernel
theorem dX12_holds_46 : decode cX12_holds 46 = .ok (.lcmp, 1) := by decide +kernel
theorem dX12_holds_47 : decode cX12_holds 47 = .ok (.ifCond .gt 7, 3) := by decide +kernel
theorem dX12_holds_50 : decode cX12_holds 50 = .ok (.iconst 1, 1) := by decide +kernel
theorem dX12_holds_51 : decode cX12_holds 51 = .ok (.goto 4, 3) := by decide +kernel
theorem dX12_holds_54 : decode cX12_holds 54 = .ok (.iconst 0, 1) := by decide +kernel
theorem dX12_holds_55 : decode cX12_holds 55 = .ok (.istore 5, 2) := by decide +kernel
theorem dX12_holds_57 : decode cX12_holds 57 = .ok (.iload 5, 2) := by decide +kernel
theorem dX12_holds_59 : decode cX12_holds 59 = .ok (.ifCond .eq 23, 3) := by decide +kernel
theorem dX12_holds_62 : decode cX12_holds 62 = .ok (.iload 4, 2) := by decide +kernel
theorem dX12_holds_64 : decode cX12_holds 64 = .ok (.invokestatic 167, 3) := by decide +kernel
theorem dX12_holds_67 : decode cX12_holds 67 = .ok (.ifCond .eq 15, 3) := by decide +kernel
theorem dX12_holds_70 : decode cX12_holds 70 = .ok (.aload_n 0, 1) := by decide +kernel
theorem dX12_holds_71 : decode cX12_holds 71 = .ok (.iload_n 1, 1) := by decide +kernel
theorem dX12_holds_72 : decode cX12_holds 72 = .ok (.iload_n 2, 1) := by decide +kernel
theorem dX12_holds_73 : decode cX12_holds 73 = .ok (.iload_n 3, 1) := by decide +kernel
theorem dX12_holds_74 : decode cX12_holds 74 = .ok (.iload 4, 2) := by decide +kernel
theorem dX12_holds_76 : decode cX12_holds 76 = .ok (.invokevirtual 228, 3) := by decide +kernel
theorem dX12_holds_79 : decode cX12_holds 79 = .ok (.goto 8, 3) := by decide +kernel
theorem dX12_holds_82 : decode cX12_holds 82 = .ok (.bipush (-2), 2) := by decide +kernel
theorem dX12_holds_84 : decode cX12_holds 84 = .ok (.invokestatic 232, 3) := by decide +kernel
theorem dX12_holds_87 : decode cX12_holds 87 = .ok (.lreturn, 1) := by decide +kernel
theorem dX12_alikeOf_0 : decode cX12_alikeOf 0 = .ok (.lconst 1, 1) := by decide +kernel
theorem dX12_alikeOf_1 : decode cX12_alikeOf 1 = .ok (.lstore_n 2, 1) := by decide +kernel
theorem dX12_alikeOf_2 : decode cX12_alikeOf 2 = .ok (.lconst 1, 1) := by decide +kernel
theorem dX12_alikeOf_3 : decode cX12_alikeOf 3 = .ok (.lstore 4, 2) := by decide +kernel
theorem dX12_alikeOf_5 : decode cX12_alikeOf 5 = .ok (.lconst 1, 1) := by decide +kernel
theorem dX12_alikeOf_6 : decode cX12_alikeOf 6 = .ok (.lstore 6, 2) := by decide +kernel
theorem dX12_alikeOf_8 : decode cX12_alikeOf 8 = .ok (.iconst 0, 1) := by decide +kernel
theorem dX12_alikeOf_9 : decode cX12_alikeOf 9 = .ok (.istore 8, 2) := by decide +kernel
theorem dX12_alikeOf_11 : decode cX12_alikeOf 11 = .ok (.iload 8, 2) := by decide +kernel
theorem dX12_alikeOf_13 : decode cX12_alikeOf 13 = .ok (.aload_n 0, 1) := by decide +kernel
theorem dX12_alikeOf_14 : decode cX12_alikeOf 14 = .ok (.getfield 132, 3) := by decide +kernel
theorem dX12_alikeOf_17 : decode cX12_alikeOf 17 = .ok (.if_icmp .ge 54, 3) := by decide +kernel
theorem dX12_alikeOf_20 : decode cX12_alikeOf 20 = .ok (.lload_n 2, 1) := by decide +kernel
theorem dX12_alikeOf_21 : decode cX12_alikeOf 21 = .ok (.aload_n 0, 1) := by decide +kernel
theorem dX12_alikeOf_22 : decode cX12_alikeOf 22 = .ok (.getfield 43, 3) := by decide +kernel
theorem dX12_alikeOf_25 : decode cX12_alikeOf 25 = .ok (.aload_n 0, 1) := by decide +kernel
theorem dX12_alikeOf_26 : decode cX12_alikeOf 26 = .ok (.getfield 31, 3) := by decide +kernel
theorem dX12_alikeOf_29 : decode cX12_alikeOf 29 = .ok (.iload 8, 2) := by decide +kernel
theorem dX12_alikeOf_31 : decode cX12_alikeOf 31 = .ok (.iaload, 1) := by decide +kernel
theorem dX12_alikeOf_32 : decode cX12_alikeOf 32 = .ok (.iaload, 1) := by decide +kernel
theorem dX12_alikeOf_33 : decode cX12_alikeOf 33 = .ok (.i2l, 1) := by decide +kernel
theorem dX12_alikeOf_34 : decode cX12_alikeOf 34 = .ok (.lmul, 1) := by decide +kernel
theorem dX12_alikeOf_35 : decode cX12_alikeOf 35 = .ok (.lstore_n 2, 1) := by decide +kernel
theorem dX12_alikeOf_36 : decode cX12_alikeOf 36 = .ok (.lload 4, 2) := by decide +kernel
theorem dX12_alikeOf_38 : decode cX12_alikeOf 38 = .ok (.bipush 16, 2) := by decide +kernel
theorem dX12_alikeOf_40 : decode cX12_alikeOf 40 = .ok (.aload_n 0, 1) := by decide +kernel
theorem dX12_alikeOf_41 : decode cX12_alikeOf 41 = .ok (.getfield 43, 3) := by decide +kernel
theorem dX12_alikeOf_44 : decode cX12_alikeOf 44 = .ok (.aload_n 0, 1) := by decide +kernel
theorem dX12_alikeOf_45 : decode cX12_alikeOf 45 = .ok (.getfield 31, 3) := by decide +kernel
theorem dX12_alikeOf_48 : decode cX12_alikeOf 48 = .ok (.iload 8, 2) := by decide +kernel
theorem dX12_alikeOf_50 : decode cX12_alikeOf 50 = .ok (.iaload, 1) := by decide +kernel
theorem dX12_alikeOf_51 : decode cX12_alikeOf 51 = .ok (.iaload, 1) := by decide +kernel
theorem dX12_alikeOf_52 : decode cX12_alikeOf 52 = .ok (.isub, 1) := by decide +kernel
theorem dX12_alikeOf_53 : decode cX12_alikeOf 53 = .ok (.i2l, 1) := by decide +kernel
theorem dX12_alikeOf_54 : decode cX12_alikeOf 54 = .ok (.lmul, 1) := by decide +kernel
theorem dX12_alikeOf_55 : decode cX12_alikeOf 55 = .ok (.lstore 4, 2) := by decide +kernel
theorem dX12_alikeOf_57 : decode cX12_alikeOf 57 = .ok (.lload 6, 2) := by decide +kernel
theorem dX12_alikeOf_59 : decode cX12_alikeOf 59 = .ok (.ldc2_w 165, 3) := by decide +kernel
theorem dX12_alikeOf_62 : decode cX12_alikeOf 62 = .ok (.lmul, 1) := by decide +kernel
theorem dX12_alikeOf_63 : decode cX12_alikeOf 63 = .ok (.lstore 6, 2) := by decide +kernel
theorem dX12_alikeOf_65 : decode cX12_alikeOf 65 = .ok (.iinc 8 1, 3) := by decide +kernel
theorem dX12_alikeOf_68 : decode cX12_alikeOf 68 = .ok (.goto (-57), 3) := by decide +kernel
theorem dX12_alikeOf_71 : decode cX12_alikeOf 71 = .ok (.aload_n 0, 1) := by decide +kernel
theorem dX12_alikeOf_72 : decode cX12_alikeOf 72 = .ok (.getfield 132, 3) := by decide +kernel
theorem dX12_alikeOf_75 : decode cX12_alikeOf 75 = .ok (.ifCond .ne 7, 3) := by decide +kernel
theorem dX12_alikeOf_78 : decode cX12_alikeOf 78 = .ok (.lconst 1, 1) := by decide +kernel
theorem dX12_alikeOf_79 : decode cX12_alikeOf 79 = .ok (.goto 13, 3) := by decide +kernel
theorem dX12_alikeOf_82 : decode cX12_alikeOf 82 = .ok (.lload_n 2, 1) := by decide +kernel
theorem dX12_alikeOf_83 : decode cX12_alikeOf 83 = .ok (.lload 4, 2) := by decide +kernel
theorem dX12_alikeOf_85 : decode cX12_alikeOf 85 = .ok (.ladd, 1) := by decide +kernel
theorem dX12_alikeOf_86 : decode cX12_alikeOf 86 = .ok (.lload 6, 2) := by decide +kernel
theorem dX12_alikeOf_88 : decode cX12_alikeOf 88 = .ok (.iload_n 1, 1) := by decide +kernel
theorem dX12_alikeOf_89 : decode cX12_alikeOf 89 = .ok (.invokestatic 222, 3) := by decide +kernel
theorem dX12_alikeOf_92 : decode cX12_alikeOf 92 = .ok (.lreturn, 1) := by decide +kernel
theorem dX12_alike_0 : decode cX12_alike 0 = .ok (.aload_n 0, 1) := by decide +kernel
theorem dX12_alike_1 : decode cX12_alike 1 = .ok (.invokevirtual 175, 3) := by decide +kernel
theorem dX12_alike_4 : decode cX12_alike 4 = .ok (.iload_n 1, 1) := by decide +kernel
theorem dX12_alike_5 : decode cX12_alike 5 = .ok (.invokestatic 167, 3) := by decide +kernel
theorem dX12_alike_8 : decode cX12_alike 8 = .ok (.ifCond .eq 11, 3) := by decide +kernel
theorem dX12_alike_11 : decode cX12_alike 11 = .ok (.aload_n 0, 1) := by decide +kernel
theorem dX12_alike_12 : decode cX12_alike 12 = .ok (.iload_n 1, 1) := by decide +kernel
theorem dX12_alike_13 : decode cX12_alike 13 = .ok (.invokevirtual 236, 3) := by decide +kernel
theorem dX12_alike_16 : decode cX12_alike 16 = .ok (.goto 8, 3) := by decide +kernel
theorem dX12_alike_19 : decode cX12_alike 19 = .ok (.bipush (-2), 2) := by decide +kernel
theorem dX12_alike_21 : decode cX12_alike 21 = .ok (.invokestatic 232, 3) := by decide +kernel
theorem dX12_alike_24 : decode cX12_alike 24 = .ok (.lreturn, 1) := by decide +kernel
theorem dX12_lot_0 : decode cX12_lot 0 = .ok (.aload_n 0, 1) := by decide +kernel
theorem dX12_lot_1 : decode cX12_lot 1 = .ok (.ldc 239, 2) := by decide +kernel
theorem dX12_lot_3 : decode cX12_lot 3 = .ok (.aload_n 0, 1) := by decide +kernel
theorem dX12_lot_4 : decode cX12_lot 4 = .ok (.getfield 240, 3) := by decide +kernel
theorem dX12_lot_7 : decode cX12_lot 7 = .ok (.imul, 1) := by decide +kernel
theorem dX12_lot_8 : decode cX12_lot 8 = .ok (.sipush 12345, 3) := by decide +kernel
theorem dX12_lot_11 : decode cX12_lot 11 = .ok (.iadd, 1) := by decide +kernel
theorem dX12_lot_12 : decode cX12_lot 12 = .ok (.putfield 240, 3) := by decide +kernel
theorem dX12_lot_15 : decode cX12_lot 15 = .ok (.aload_n 0, 1) := by decide +kernel
theorem dX12_lot_16 : decode cX12_lot 16 = .ok (.getfield 240, 3) := by decide +kernel
theorem dX12_lot_19 : decode cX12_lot 19 = .ok (.bipush 16, 2) := by decide +kernel
theorem dX12_lot_21 : decode cX12_lot 21 = .ok (.iushr, 1) := by decide +kernel
theorem dX12_lot_22 : decode cX12_lot 22 = .ok (.bipush 16, 2) := by decide +kernel
theorem dX12_lot_24 : decode cX12_lot 24 = .ok (.irem, 1) := by decide +kernel
theorem dX12_lot_25 : decode cX12_lot 25 = .ok (.ireturn, 1) := by decide +kernel
theorem dX12_tears_0 : decode cX12_tears 0 = .ok (.iconst 0, 1) := by decide +kernel
theorem dX12_tears_1 : decode cX12_tears 1 = .ok (.istore_n 1, 1) := by decide +kernel
theorem dX12_tears_2 : decode cX12_tears 2 = .ok (.aload_n 0, 1) := by decide +kernel
theorem dX12_tears_3 : decode cX12_tears 3 = .ok (.iconst (-1), 1) := by decide +kernel
theorem dX12_tears_4 : decode cX12_tears 4 = .ok (.putfield 243, 3) := by decide +kernel
theorem dX12_tears_7 : decode cX12_tears 7 = .ok (.aload_n 0, 1) := by decide +kernel
theorem dX12_tears_8 : decode cX12_tears 8 = .ok (.iconst (-1), 1) := by decide +kernel
theorem dX12_tears_9 : decode cX12_tears 9 = .ok (.putfield 246, 3) := by decide +kernel
theorem dX12_tears_12 : decode cX12_tears 12 = .ok (.iconst 0, 1) := by decide +kernel
theorem dX12_tears_13 : decode cX12_tears 13 = .ok (.istore_n 2, 1) := by decide +kernel
theorem dX12_tears_14 : decode cX12_tears 14 = .ok (.iload_n 2, 1) := by decide +kernel
theorem dX12_tears_15 : decode cX12_tears 15 = .ok (.aload_n 0, 1) := by decide +kernel
theorem dX12_tears_16 : decode cX12_tears 16 = .ok (.getfield 181, 3) := by decide +kernel
theorem dX12_tears_19 : decode cX12_tears 19 = .ok (.if_icmp .ge 113, 3) := by decide +kernel
theorem dX12_tears_22 : decode cX12_tears 22 = .ok (.iconst 0, 1) := by decide +kernel
theorem dX12_tears_23 : decode cX12_tears 23 = .ok (.istore_n 3, 1) := by decide +kernel
theorem dX12_tears_24 : decode cX12_tears 24 = .ok (.iload_n 3, 1) := by decide +kernel
theorem dX12_tears_25 : decode cX12_tears 25 = .ok (.iconst 1, 1) := by decide +kernel
theorem dX12_tears_26 : decode cX12_tears 26 = .ok (.iadd, 1) := by decide +kernel
theorem dX12_tears_27 : decode cX12_tears 27 = .ok (.aload_n 0, 1) := by decide +kernel
theorem dX12_tears_28 : decode cX12_tears 28 = .ok (.getfield 132, 3) := by decide +kernel
theorem dX12_tears_31 : decode cX12_tears 31 = .ok (.if_icmp .ge 95, 3) := by decide +kernel
theorem dX12_tears_34 : decode cX12_tears 34 = .ok (.iload_n 1, 1) := by decide +kernel
theorem dX12_tears_35 : decode cX12_tears 35 = .ok (.iload_n 3, 1) := by decide +kernel
theorem dX12_tears_36 : decode cX12_tears 36 = .ok (.invokestatic 137, 3) := by decide +kernel
theorem dX12_tears_39 : decode cX12_tears 39 = .ok (.ifCond .ne 81, 3) := by decide +kernel
theorem dX12_tears_42 : decode cX12_tears 42 = .ok (.aload_n 0, 1) := by decide +kernel
theorem dX12_tears_43 : decode cX12_tears 43 = .ok (.invokevirtual 249, 3) := by decide +kernel
theorem dX12_tears_46 : decode cX12_tears 46 = .ok (.aload_n 0, 1) := by decide +kernel
theorem dX12_tears_47 : decode cX12_tears 47 = .ok (.getfield 28, 3) := by decide +kernel
theorem dX12_tears_50 : decode cX12_tears 50 = .ok (.aload_n 0, 1) := by decide +kernel
theorem dX12_tears_51 : decode cX12_tears 51 = .ok (.getfield 49, 3) := by decide +kernel
theorem dX12_tears_54 : decode cX12_tears 54 = .ok (.iload_n 2, 1) := by decide +kernel
theorem dX12_tears_55 : decode cX12_tears 55 = .ok (.iconst 1, 1) := by decide +kernel
theorem dX12_tears_56 : decode cX12_tears 56 = .ok (.iadd, 1) := by decide +kernel
theorem dX12_tears_57 : decode cX12_tears 57 = .ok (.iaload, 1) := by decide +kernel
theorem dX12_tears_58 : decode cX12_tears 58 = .ok (.iaload, 1) := by decide +kernel
theorem dX12_tears_59 : decode cX12_tears 59 = .ok (.if_icmp .ge 61, 3) := by decide +kernel
theorem dX12_tears_62 : decode cX12_tears 62 = .ok (.aload_n 0, 1) := by decide +kernel
theorem dX12_tears_63 : decode cX12_tears 63 = .ok (.invokevirtual 249, 3) := by decide +kernel
theorem dX12_tears_66 : decode cX12_tears 66 = .ok (.aload_n 0, 1) := by decide +kernel
theorem dX12_tears_67 : decode cX12_tears 67 = .ok (.iload_n 3, 1) := by decide +kernel
theorem dX12_tears_68 : decode cX12_tears 68 = .ok (.invokevirtual 201, 3) := by decide +kernel
theorem dX12_tears_71 : decode cX12_tears 71 = .ok (.if_icmp .lt 49, 3) := by decide +kernel
theorem dX12_tears_74 : decode cX12_tears 74 = .ok (.iload_n 1, 1) := by decide +kernel
theorem dX12_tears_75 : decode cX12_tears 75 = .ok (.iconst 1, 1) := by decide +kernel
theorem dX12_tears_76 : decode cX12_tears 76 = .ok (.iload_n 3, 1) := by decide +kernel
theorem dX12_tears_77 : decode cX12_tears 77 = .ok (.ishl, 1) := by decide +kernel
theorem dX12_tears_78 : decode cX12_tears 78 = .ok (.ior, 1) := by decide +kernel
theorem dX12_tears_79 : decode cX12_tears 79 = .ok (.istore_n 1, 1) := by decide +kernel
theorem dX12_tears_80 : decode cX12_tears 80 = .ok (.aload_n 0, 1) := by decide +kernel
theorem dX12_tears_81 : decode cX12_tears 81 = .ok (.aload_n 0, 1) := by decide +kernel
theorem dX12_tears_82 : decode cX12_tears 82 = .ok (.getfield 243, 3) := by decide +kernel
theorem dX12_tears_85 : decode cX12_tears 85 = .ok (.iconst (-1), 1) := by decide +kernel
theorem dX12_tears_86 : decode cX12_tears 86 = .ok (.if_icmp .ne 7, 3) := by decide +kernel
theorem dX12_tears_89 : decode cX12_tears 89 = .ok (.iload_n 2, 1) := by decide +kernel
theorem dX12_tears_90 : decode cX12_tears 90 = .ok (.goto 7, 3) := by decide +kernel
theorem dX12_tears_93 : decode cX12_tears 93 = .ok (.aload_n 0, 1) := by decide +kernel
theorem dX12_tears_94 : decode cX12_tears 94 = .ok (.getfield 246, 3) := by decide +kernel
theorem dX12_tears_97 : decode cX12_tears 97 = .ok (.putfield 246, 3) := by decide +kernel
theorem dX12_tears_100 : decode cX12_tears 100 = .ok (.aload_n 0, 1) := by decide +kernel
theorem dX12_tears_101 : decode cX12_tears 101 = .ok (.aload_n 0, 1) := by decide +kernel
theorem dX12_tears_102 : decode cX12_tears 102 = .ok (.getfield 243, 3) := by decide +kernel
theorem dX12_tears_105 : decode cX12_tears 105 = .ok (.iconst (-1), 1) := by decide +kernel
theorem dX12_tears_106 : decode cX12_tears 106 = .ok (.if_icmp .ne 7, 3) := by decide +kernel
theorem dX12_tears_109 : decode cX12_tears 109 = .ok (.iload_n 3, 1) := by decide +kernel
theorem dX12_tears_110 : decode cX12_tears 110 = .ok (.goto 7, 3) := by decide +kernel
theorem dX12_tears_113 : decode cX12_tears 113 = .ok (.aload_n 0, 1) := by decide +kernel
theorem dX12_tears_114 : decode cX12_tears 114 = .ok (.getfield 243, 3) := by decide +kernel
theorem dX12_tears_117 : decode cX12_tears 117 = .ok (.putfield 243, 3) := by decide +kernel
theorem dX12_tears_120 : decode cX12_tears 120 = .ok (.iinc 3 1, 3) := by decide +kernel
theorem dX12_tears_123 : decode cX12_tears 123 = .ok (.goto (-99), 3) := by decide +kernel
theorem dX12_tears_126 : decode cX12_tears 126 = .ok (.iinc 2 1, 3) := by decide +kernel
theorem dX12_tears_129 : decode cX12_tears 129 = .ok (.goto (-115), 3) := by decide +kernel
theorem dX12_tears_132 : decode cX12_tears 132 = .ok (.aload_n 0, 1) := by decide +kernel
theorem dX12_tears_133 : decode cX12_tears 133 = .ok (.iload_n 1, 1) := by decide +kernel
theorem dX12_tears_134 : decode cX12_tears 134 = .ok (.invokestatic 210, 3) := by decide +kernel
theorem dX12_tears_137 : decode cX12_tears 137 = .ok (.putfield 252, 3) := by decide +kernel
theorem dX12_tears_140 : decode cX12_tears 140 = .ok (.return_, 1) := by decide +kernel
theorem dX12_tornOf_0 : decode cX12_tornOf 0 = .ok (.aload_n 0, 1) := by decide +kernel
theorem dX12_tornOf_1 : decode cX12_tornOf 1 = .ok (.iload_n 1, 1) := by decide +kernel
theorem dX12_tornOf_2 : decode cX12_tornOf 2 = .ok (.putfield 240, 3) := by decide +kernel
theorem dX12_tornOf_5 : decode cX12_tornOf 5 = .ok (.aload_n 0, 1) := by decide +kernel
theorem dX12_tornOf_6 : decode cX12_tornOf 6 = .ok (.invokevirtual 255, 3) := by decide +kernel
theorem dX12_tornOf_9 : decode cX12_tornOf 9 = .ok (.iconst 0, 1) := by decide +kernel
theorem dX12_tornOf_10 : decode cX12_tornOf 10 = .ok (.istore_n 3, 1) := by decide +kernel
theorem dX12_tornOf_11 : decode cX12_tornOf 11 = .ok (.aload_n 0, 1) := by decide +kernel
theorem dX12_tornOf_12 : decode cX12_tornOf 12 = .ok (.getfield 243, 3) := by decide +kernel
theorem dX12_tornOf_15 : decode cX12_tornOf 15 = .ok (.iconst 1, 1) := by decide +kernel
theorem dX12_tornOf_16 : decode cX12_tornOf 16 = .ok (.iadd, 1) := by decide +kernel
theorem dX12_tornOf_17 : decode cX12_tornOf 17 = .ok (.istore 4, 2) := by decide +kernel
theorem dX12_tornOf_19 : decode cX12_tornOf 19 = .ok (.iload 4, 2) := by decide +kernel
theorem dX12_tornOf_21 : decode cX12_tornOf 21 = .ok (.aload_n 0, 1) := by decide +kernel
theorem dX12_tornOf_22 : decode cX12_tornOf 22 = .ok (.getfield 132, 3) := by decide +kernel
theorem dX12_tornOf_25 : decode cX12_tornOf 25 = .ok (.if_icmp .ge 29, 3) := by decide +kernel
theorem dX12_tornOf_28 : decode cX12_tornOf 28 = .ok (.aload_n 0, 1) := by decide +kernel
theorem dX12_tornOf_29 : decode cX12_tornOf 29 = .ok (.getfield 243, 3) := by decide +kernel
theorem dX12_tornOf_32 : decode cX12_tornOf 32 = .ok (.iconst (-1), 1) := by decide +kernel
theorem dX12_tornOf_33 : decode cX12_tornOf 33 = .ok (.if_icmp .eq 21, 3) := by decide +kernel
theorem dX12_tornOf_36 : decode cX12_tornOf 36 = .ok (.iload_n 3, 1) := by decide +kernel
theorem dX12_tornOf_37 : decode cX12_tornOf 37 = .ok (.iconst 1, 1) := by decide +kernel
theorem dX12_tornOf_38 : decode cX12_tornOf 38 = .ok (.aload_n 0, 1) := by decide +kernel
theorem dX12_tornOf_39 : decode cX12_tornOf 39 = .ok (.getfield 31, 3) := by decide +kernel
theorem dX12_tornOf_42 : decode cX12_tornOf 42 = .ok (.iload 4, 2) := by decide +kernel
theorem dX12_tornOf_44 : decode cX12_tornOf 44 = .ok (.iaload, 1) := by decide +kernel
theorem dX12_tornOf_45 : decode cX12_tornOf 45 = .ok (.ishl, 1) := by decide +kernel
theorem dX12_tornOf_46 : decode cX12_tornOf 46 = .ok (.ior, 1) := by decide +kernel
theorem dX12_tornOf_47 : decode cX12_tornOf 47 = .ok (.istore_n 3, 1) := by decide +kernel
theorem dX12_tornOf_48 : decode cX12_tornOf 48 = .ok (.iinc 4 1, 3) := by decide +kernel
theorem dX12_tornOf_51 : decode cX12_tornOf 51 = .ok (.goto (-32), 3) := by decide +kernel
theorem dX12_tornOf_54 : decode cX12_tornOf 54 = .ok (.iload_n 2, 1) := by decide +kernel
theorem dX12_tornOf_55 : decode cX12_tornOf 55 = .ok (.ifCond .ne 10, 3) := by decide +kernel
theorem dX12_tornOf_58 : decode cX12_tornOf 58 = .ok (.aload_n 0, 1) := by decide +kernel
theorem dX12_tornOf_59 : decode cX12_tornOf 59 = .ok (.getfield 243, 3) := by decide +kernel
theorem dX12_tornOf_62 : decode cX12_tornOf 62 = .ok (.goto 28, 3) := by decide +kernel
theorem dX12_tornOf_65 : decode cX12_tornOf 65 = .ok (.iload_n 2, 1) := by decide +kernel
theorem dX12_tornOf_66 : decode cX12_tornOf 66 = .ok (.iconst 1, 1) := by decide +kernel
theorem dX12_tornOf_67 : decode cX12_tornOf 67 = .ok (.if_icmp .ne 10, 3) := by decide +kernel
theorem dX12_tornOf_70 : decode cX12_tornOf 70 = .ok (.aload_n 0, 1) := by decide +kernel
theorem dX12_tornOf_71 : decode cX12_tornOf 71 = .ok (.getfield 246, 3) := by decide +kernel
theorem dX12_tornOf_74 : decode cX12_tornOf 74 = .ok (.goto 16, 3) := by decide +kernel
theorem dX12_tornOf_77 : decode cX12_tornOf 77 = .ok (.iload_n 2, 1) := by decide +kernel
theorem dX12_tornOf_78 : decode cX12_tornOf 78 = .ok (.iconst 2, 1) := by decide +kernel
theorem dX12_tornOf_79 : decode cX12_tornOf 79 = .ok (.if_icmp .ne 10, 3) := by decide +kernel
theorem dX12_tornOf_82 : decode cX12_tornOf 82 = .ok (.aload_n 0, 1) := by decide +kernel
theorem dX12_tornOf_83 : decode cX12_tornOf 83 = .ok (.getfield 252, 3) := by decide +kernel
theorem dX12_tornOf_86 : decode cX12_tornOf 86 = .ok (.goto 4, 3) := by decide +kernel
theorem dX12_tornOf_89 : decode cX12_tornOf 89 = .ok (.iload_n 3, 1) := by decide +kernel
theorem dX12_tornOf_90 : decode cX12_tornOf 90 = .ok (.ireturn, 1) := by decide +kernel
theorem dX12_torn_0 : decode cX12_torn 0 = .ok (.aload_n 0, 1) := by decide +kernel
theorem dX12_torn_1 : decode cX12_torn 1 = .ok (.invokevirtual 175, 3) := by decide +kernel
theorem dX12_torn_4 : decode cX12_torn 4 = .ok (.iload_n 2, 1) := by decide +kernel
theorem dX12_torn_5 : decode cX12_torn 5 = .ok (.i2l, 1) := by decide +kernel
theorem dX12_torn_6 : decode cX12_torn 6 = .ok (.lconst 0, 1) := by decide +kernel
theorem dX12_torn_7 : decode cX12_torn 7 = .ok (.ldc2_w 90, 3) := by decide +kernel
theorem dX12_torn_10 : decode cX12_torn 10 = .ok (.invokestatic 82, 3) := by decide +kernel
theorem dX12_torn_13 : decode cX12_torn 13 = .ok (.ifCond .eq 12, 3) := by decide +kernel
theorem dX12_torn_16 : decode cX12_torn 16 = .ok (.aload_n 0, 1) := by decide +kernel
theorem dX12_torn_17 : decode cX12_torn 17 = .ok (.iload_n 1, 1) := by decide +kernel
theorem dX12_torn_18 : decode cX12_torn 18 = .ok (.iload_n 2, 1) := by decide +kernel
theorem dX12_torn_19 : decode cX12_torn 19 = .ok (.invokevirtual 258, 3) := by decide +kernel
theorem dX12_torn_22 : decode cX12_torn 22 = .ok (.goto 5, 3) := by decide +kernel
theorem dX12_torn_25 : decode cX12_torn 25 = .ok (.bipush (-2), 2) := by decide +kernel
theorem dX12_torn_27 : decode cX12_torn 27 = .ok (.ireturn, 1) := by decide +kernel
theorem dX12_fairsOf_0 : decode cX12_fairsOf 0 = .ok (.aload_n 0, 1) := by decide +kernel
theorem dX12_fairsOf_1 : decode cX12_fairsOf 1 = .ok (.iload_n 1, 1) := by decide +kernel
theorem dX12_fairsOf_2 : decode cX12_fairsOf 2 = .ok (.putfield 240, 3) := by decide +kernel
theorem dX12_fairsOf_5 : decode cX12_fairsOf 5 = .ok (.iconst 0, 1) := by decide +kernel
theorem dX12_fairsOf_6 : decode cX12_fairsOf 6 = .ok (.istore_n 3, 1) := by decide +kernel
end
section
theorem dX12_fairsOf_7 : decode cX12_fairsOf 7 = .ok (.iconst 0, 1) := by decide +kernel
theorem dX12_fairsOf_8 : decode cX12_fairsOf 8 = .ok (.istore 4, 2) := by decide +kernel
theorem dX12_fairsOf_10 : decode cX12_fairsOf 10 = .ok (.iload 4, 2) := by decide +kernel
theorem dX12_fairsOf_12 : decode cX12_fairsOf 12 = .ok (.iload_n 2, 1) := by decide +kernel
theorem dX12_fairsOf_13 : decode cX12_fairsOf 13 = .ok (.if_icmp .ge 20, 3) := by decide +kernel
theorem dX12_fairsOf_16 : decode cX12_fairsOf 16 = .ok (.aload_n 0, 1) := by decide +kernel
theorem dX12_fairsOf_17 : decode cX12_fairsOf 17 = .ok (.invokevirtual 255, 3) := by decide +kernel
theorem dX12_fairsOf_20 : decode cX12_fairsOf 20 = .ok (.iload_n 3, 1) := by decide +kernel
theorem dX12_fairsOf_21 : decode cX12_fairsOf 21 = .ok (.aload_n 0, 1) := by decide +kernel
theorem dX12_fairsOf_22 : decode cX12_fairsOf 22 = .ok (.getfield 252, 3) := by decide +kernel
theorem dX12_fairsOf_25 : decode cX12_fairsOf 25 = .ok (.iadd, 1) := by decide +kernel
theorem dX12_fairsOf_26 : decode cX12_fairsOf 26 = .ok (.istore_n 3, 1) := by decide +kernel
theorem dX12_fairsOf_27 : decode cX12_fairsOf 27 = .ok (.iinc 4 1, 3) := by decide +kernel
theorem dX12_fairsOf_30 : decode cX12_fairsOf 30 = .ok (.goto (-20), 3) := by decide +kernel
theorem dX12_fairsOf_33 : decode cX12_fairsOf 33 = .ok (.iload_n 3, 1) := by decide +kernel
theorem dX12_fairsOf_34 : decode cX12_fairsOf 34 = .ok (.ireturn, 1) := by decide +kernel
theorem dX12_fairs_0 : decode cX12_fairs 0 = .ok (.aload_n 0, 1) := by decide +kernel
theorem dX12_fairs_1 : decode cX12_fairs 1 = .ok (.invokevirtual 175, 3) := by decide +kernel
theorem dX12_fairs_4 : decode cX12_fairs 4 = .ok (.iload_n 2, 1) := by decide +kernel
theorem dX12_fairs_5 : decode cX12_fairs 5 = .ok (.i2l, 1) := by decide +kernel
theorem dX12_fairs_6 : decode cX12_fairs 6 = .ok (.lconst 1, 1) := by decide +kernel
theorem dX12_fairs_7 : decode cX12_fairs 7 = .ok (.ldc2_w 261, 3) := by decide +kernel
theorem dX12_fairs_10 : decode cX12_fairs 10 = .ok (.invokestatic 82, 3) := by decide +kernel
theorem dX12_fairs_13 : decode cX12_fairs 13 = .ok (.ifCond .eq 12, 3) := by decide +kernel
theorem dX12_fairs_16 : decode cX12_fairs 16 = .ok (.aload_n 0, 1) := by decide +kernel
theorem dX12_fairs_17 : decode cX12_fairs 17 = .ok (.iload_n 1, 1) := by decide +kernel
theorem dX12_fairs_18 : decode cX12_fairs 18 = .ok (.iload_n 2, 1) := by decide +kernel
theorem dX12_fairs_19 : decode cX12_fairs 19 = .ok (.invokevirtual 263, 3) := by decide +kernel
theorem dX12_fairs_22 : decode cX12_fairs 22 = .ok (.goto 5, 3) := by decide +kernel
theorem dX12_fairs_25 : decode cX12_fairs 25 = .ok (.bipush (-2), 2) := by decide +kernel
theorem dX12_fairs_27 : decode cX12_fairs 27 = .ok (.ireturn, 1) := by decide +kernel
theorem dX12_roams_0 : decode cX12_roams 0 = .ok (.iconst 1, 1) := by decide +kernel
theorem dX12_roams_1 : decode cX12_roams 1 = .ok (.istore_n 2, 1) := by decide +kernel
theorem dX12_roams_2 : decode cX12_roams 2 = .ok (.iconst 0, 1) := by decide +kernel
theorem dX12_roams_3 : decode cX12_roams 3 = .ok (.istore_n 3, 1) := by decide +kernel
theorem dX12_roams_4 : decode cX12_roams 4 = .ok (.iload_n 3, 1) := by decide +kernel
theorem dX12_roams_5 : decode cX12_roams 5 = .ok (.iconst 4, 1) := by decide +kernel
theorem dX12_roams_6 : decode cX12_roams 6 = .ok (.if_icmp .ge 27, 3) := by decide +kernel
theorem dX12_roams_9 : decode cX12_roams 9 = .ok (.iload_n 2, 1) := by decide +kernel
theorem dX12_roams_10 : decode cX12_roams 10 = .ok (.aload_n 0, 1) := by decide +kernel
theorem dX12_roams_11 : decode cX12_roams 11 = .ok (.iload_n 1, 1) := by decide +kernel
theorem dX12_roams_12 : decode cX12_roams 12 = .ok (.iload_n 3, 1) := by decide +kernel
theorem dX12_roams_13 : decode cX12_roams 13 = .ok (.invokevirtual 184, 3) := by decide +kernel
theorem dX12_roams_16 : decode cX12_roams 16 = .ok (.iconst (-1), 1) := by decide +kernel
theorem dX12_roams_17 : decode cX12_roams 17 = .ok (.if_icmp .ne 7, 3) := by decide +kernel
theorem dX12_roams_20 : decode cX12_roams 20 = .ok (.iconst 0, 1) := by decide +kernel
theorem dX12_roams_21 : decode cX12_roams 21 = .ok (.goto 4, 3) := by decide +kernel
theorem dX12_roams_24 : decode cX12_roams 24 = .ok (.iconst 1, 1) := by decide +kernel
theorem dX12_roams_25 : decode cX12_roams 25 = .ok (.iadd, 1) := by decide +kernel
theorem dX12_roams_26 : decode cX12_roams 26 = .ok (.istore_n 2, 1) := by decide +kernel
theorem dX12_roams_27 : decode cX12_roams 27 = .ok (.iinc 3 1, 3) := by decide +kernel
theorem dX12_roams_30 : decode cX12_roams 30 = .ok (.goto (-26), 3) := by decide +kernel
theorem dX12_roams_33 : decode cX12_roams 33 = .ok (.aload_n 0, 1) := by decide +kernel
theorem dX12_roams_34 : decode cX12_roams 34 = .ok (.getfield 61, 3) := by decide +kernel
theorem dX12_roams_37 : decode cX12_roams 37 = .ok (.iload_n 1, 1) := by decide +kernel
theorem dX12_roams_38 : decode cX12_roams 38 = .ok (.laload, 1) := by decide +kernel
theorem dX12_roams_39 : decode cX12_roams 39 = .ok (.ldc2_w 261, 3) := by decide +kernel
theorem dX12_roams_42 : decode cX12_roams 42 = .ok (.lmul, 1) := by decide +kernel
theorem dX12_roams_43 : decode cX12_roams 43 = .ok (.iload_n 2, 1) := by decide +kernel
theorem dX12_roams_44 : decode cX12_roams 44 = .ok (.i2l, 1) := by decide +kernel
theorem dX12_roams_45 : decode cX12_roams 45 = .ok (.ldiv, 1) := by decide +kernel
theorem dX12_roams_46 : decode cX12_roams 46 = .ok (.lstore_n 3, 1) := by decide +kernel
theorem dX12_roams_47 : decode cX12_roams 47 = .ok (.aload_n 0, 1) := by decide +kernel
theorem dX12_roams_48 : decode cX12_roams 48 = .ok (.getfield 65, 3) := by decide +kernel
theorem dX12_roams_51 : decode cX12_roams 51 = .ok (.iload_n 1, 1) := by decide +kernel
theorem dX12_roams_52 : decode cX12_roams 52 = .ok (.dup2, 1) := by decide +kernel
theorem dX12_roams_53 : decode cX12_roams 53 = .ok (.laload, 1) := by decide +kernel
theorem dX12_roams_54 : decode cX12_roams 54 = .ok (.lload_n 3, 1) := by decide +kernel
theorem dX12_roams_55 : decode cX12_roams 55 = .ok (.ladd, 1) := by decide +kernel
theorem dX12_roams_56 : decode cX12_roams 56 = .ok (.lastore, 1) := by decide +kernel
theorem dX12_roams_57 : decode cX12_roams 57 = .ok (.iconst 0, 1) := by decide +kernel
theorem dX12_roams_58 : decode cX12_roams 58 = .ok (.istore 5, 2) := by decide +kernel
theorem dX12_roams_60 : decode cX12_roams 60 = .ok (.iload 5, 2) := by decide +kernel
theorem dX12_roams_62 : decode cX12_roams 62 = .ok (.iconst 4, 1) := by decide +kernel
theorem dX12_roams_63 : decode cX12_roams 63 = .ok (.if_icmp .ge 35, 3) := by decide +kernel
theorem dX12_roams_66 : decode cX12_roams 66 = .ok (.aload_n 0, 1) := by decide +kernel
theorem dX12_roams_67 : decode cX12_roams 67 = .ok (.iload_n 1, 1) := by decide +kernel
theorem dX12_roams_68 : decode cX12_roams 68 = .ok (.iload 5, 2) := by decide +kernel
theorem dX12_roams_70 : decode cX12_roams 70 = .ok (.invokevirtual 184, 3) := by decide +kernel
theorem dX12_roams_73 : decode cX12_roams 73 = .ok (.istore 6, 2) := by decide +kernel
theorem dX12_roams_75 : decode cX12_roams 75 = .ok (.iload 6, 2) := by decide +kernel
theorem dX12_roams_77 : decode cX12_roams 77 = .ok (.iconst (-1), 1) := by decide +kernel
theorem dX12_roams_78 : decode cX12_roams 78 = .ok (.if_icmp .eq 14, 3) := by decide +kernel
theorem dX12_roams_81 : decode cX12_roams 81 = .ok (.aload_n 0, 1) := by decide +kernel
theorem dX12_roams_82 : decode cX12_roams 82 = .ok (.getfield 65, 3) := by decide +kernel
theorem dX12_roams_85 : decode cX12_roams 85 = .ok (.iload 6, 2) := by decide +kernel
theorem dX12_roams_87 : decode cX12_roams 87 = .ok (.dup2, 1) := by decide +kernel
theorem dX12_roams_88 : decode cX12_roams 88 = .ok (.laload, 1) := by decide +kernel
theorem dX12_roams_89 : decode cX12_roams 89 = .ok (.lload_n 3, 1) := by decide +kernel
theorem dX12_roams_90 : decode cX12_roams 90 = .ok (.ladd, 1) := by decide +kernel
theorem dX12_roams_91 : decode cX12_roams 91 = .ok (.lastore, 1) := by decide +kernel
theorem dX12_roams_92 : decode cX12_roams 92 = .ok (.iinc 5 1, 3) := by decide +kernel
theorem dX12_roams_95 : decode cX12_roams 95 = .ok (.goto (-35), 3) := by decide +kernel
theorem dX12_roams_98 : decode cX12_roams 98 = .ok (.return_, 1) := by decide +kernel
theorem dX12_goesNearer_0 : decode cX12_goesNearer 0 = .ok (.iload_n 1, 1) := by decide +kernel
theorem dX12_goesNearer_1 : decode cX12_goesNearer 1 = .ok (.istore_n 2, 1) := by decide +kernel
theorem dX12_goesNearer_2 : decode cX12_goesNearer 2 = .ok (.iconst 3, 1) := by decide +kernel
theorem dX12_goesNearer_3 : decode cX12_goesNearer 3 = .ok (.istore_n 3, 1) := by decide +kernel
theorem dX12_goesNearer_4 : decode cX12_goesNearer 4 = .ok (.iload_n 3, 1) := by decide +kernel
theorem dX12_goesNearer_5 : decode cX12_goesNearer 5 = .ok (.ifCond .lt 46, 3) := by decide +kernel
theorem dX12_goesNearer_8 : decode cX12_goesNearer 8 = .ok (.aload_n 0, 1) := by decide +kernel
theorem dX12_goesNearer_9 : decode cX12_goesNearer 9 = .ok (.iload_n 1, 1) := by decide +kernel
theorem dX12_goesNearer_10 : decode cX12_goesNearer 10 = .ok (.iload_n 3, 1) := by decide +kernel
theorem dX12_goesNearer_11 : decode cX12_goesNearer 11 = .ok (.invokevirtual 184, 3) := by decide +kernel
theorem dX12_goesNearer_14 : decode cX12_goesNearer 14 = .ok (.istore 4, 2) := by decide +kernel
theorem dX12_goesNearer_16 : decode cX12_goesNearer 16 = .ok (.iload 4, 2) := by decide +kernel
theorem dX12_goesNearer_18 : decode cX12_goesNearer 18 = .ok (.iconst (-1), 1) := by decide +kernel
theorem dX12_goesNearer_19 : decode cX12_goesNearer 19 = .ok (.if_icmp .eq 24, 3) := by decide +kernel
theorem dX12_goesNearer_22 : decode cX12_goesNearer 22 = .ok (.aload_n 0, 1) := by decide +kernel
theorem dX12_goesNearer_23 : decode cX12_goesNearer 23 = .ok (.getfield 52, 3) := by decide +kernel
theorem dX12_goesNearer_26 : decode cX12_goesNearer 26 = .ok (.iload 4, 2) := by decide +kernel
theorem dX12_goesNearer_28 : decode cX12_goesNearer 28 = .ok (.iaload, 1) := by decide +kernel
theorem dX12_goesNearer_29 : decode cX12_goesNearer 29 = .ok (.aload_n 0, 1) := by decide +kernel
theorem dX12_goesNearer_30 : decode cX12_goesNearer 30 = .ok (.getfield 52, 3) := by decide +kernel
theorem dX12_goesNearer_33 : decode cX12_goesNearer 33 = .ok (.iload_n 1, 1) := by decide +kernel
theorem dX12_goesNearer_34 : decode cX12_goesNearer 34 = .ok (.iaload, 1) := by decide +kernel
theorem dX12_goesNearer_35 : decode cX12_goesNearer 35 = .ok (.if_icmp .ge 8, 3) := by decide +kernel
theorem dX12_goesNearer_38 : decode cX12_goesNearer 38 = .ok (.iload 4, 2) := by decide +kernel
theorem dX12_goesNearer_40 : decode cX12_goesNearer 40 = .ok (.goto 4, 3) := by decide +kernel
theorem dX12_goesNearer_43 : decode cX12_goesNearer 43 = .ok (.iload_n 2, 1) := by decide +kernel
theorem dX12_goesNearer_44 : decode cX12_goesNearer 44 = .ok (.istore_n 2, 1) := by decide +kernel
theorem dX12_goesNearer_45 : decode cX12_goesNearer 45 = .ok (.iinc 3 (-1), 3) := by decide +kernel
theorem dX12_goesNearer_48 : decode cX12_goesNearer 48 = .ok (.goto (-44), 3) := by decide +kernel
theorem dX12_goesNearer_51 : decode cX12_goesNearer 51 = .ok (.aload_n 0, 1) := by decide +kernel
theorem dX12_goesNearer_52 : decode cX12_goesNearer 52 = .ok (.getfield 65, 3) := by decide +kernel
theorem dX12_goesNearer_55 : decode cX12_goesNearer 55 = .ok (.iload_n 2, 1) := by decide +kernel
theorem dX12_goesNearer_56 : decode cX12_goesNearer 56 = .ok (.dup2, 1) := by decide +kernel
theorem dX12_goesNearer_57 : decode cX12_goesNearer 57 = .ok (.laload, 1) := by decide +kernel
theorem dX12_goesNearer_58 : decode cX12_goesNearer 58 = .ok (.aload_n 0, 1) := by decide +kernel
theorem dX12_goesNearer_59 : decode cX12_goesNearer 59 = .ok (.getfield 61, 3) := by decide +kernel
theorem dX12_goesNearer_62 : decode cX12_goesNearer 62 = .ok (.iload_n 1, 1) := by decide +kernel
theorem dX12_goesNearer_63 : decode cX12_goesNearer 63 = .ok (.laload, 1) := by decide +kernel
theorem dX12_goesNearer_64 : decode cX12_goesNearer 64 = .ok (.ldc2_w 261, 3) := by decide +kernel
theorem dX12_goesNearer_67 : decode cX12_goesNearer 67 = .ok (.lmul, 1) := by decide +kernel
theorem dX12_goesNearer_68 : decode cX12_goesNearer 68 = .ok (.ladd, 1) := by decide +kernel
theorem dX12_goesNearer_69 : decode cX12_goesNearer 69 = .ok (.lastore, 1) := by decide +kernel
theorem dX12_goesNearer_70 : decode cX12_goesNearer 70 = .ok (.return_, 1) := by decide +kernel
theorem dX12_findChances_0 : decode cX12_findChances 0 = .ok (.aload_n 0, 1) := by decide +kernel
theorem dX12_findChances_1 : decode cX12_findChances 1 = .ok (.getfield 37, 3) := by decide +kernel
theorem dX12_findChances_4 : decode cX12_findChances 4 = .ok (.iconst 2, 1) := by decide +kernel
theorem dX12_findChances_5 : decode cX12_findChances 5 = .ok (.iaload, 1) := by decide +kernel
theorem dX12_findChances_6 : decode cX12_findChances 6 = .ok (.istore_n 3, 1) := by decide +kernel
theorem dX12_findChances_7 : decode cX12_findChances 7 = .ok (.aload_n 0, 1) := by decide +kernel
theorem dX12_findChances_8 : decode cX12_findChances 8 = .ok (.aload_n 0, 1) := by decide +kernel
theorem dX12_findChances_9 : decode cX12_findChances 9 = .ok (.getfield 37, 3) := by decide +kernel
theorem dX12_findChances_12 : decode cX12_findChances 12 = .ok (.iconst 1, 1) := by decide +kernel
theorem dX12_findChances_13 : decode cX12_findChances 13 = .ok (.iaload, 1) := by decide +kernel
theorem dX12_findChances_14 : decode cX12_findChances 14 = .ok (.invokevirtual 178, 3) := by decide +kernel
theorem dX12_findChances_17 : decode cX12_findChances 17 = .ok (.ifCond .eq 17, 3) := by decide +kernel
theorem dX12_findChances_20 : decode cX12_findChances 20 = .ok (.aload_n 0, 1) := by decide +kernel
theorem dX12_findChances_21 : decode cX12_findChances 21 = .ok (.aload_n 0, 1) := by decide +kernel
theorem dX12_findChances_22 : decode cX12_findChances 22 = .ok (.getfield 37, 3) := by decide +kernel
theorem dX12_findChances_25 : decode cX12_findChances 25 = .ok (.iconst 1, 1) := by decide +kernel
theorem dX12_findChances_26 : decode cX12_findChances 26 = .ok (.iaload, 1) := by decide +kernel
theorem dX12_findChances_27 : decode cX12_findChances 27 = .ok (.iconst 0, 1) := by decide +kernel
theorem dX12_findChances_28 : decode cX12_findChances 28 = .ok (.invokevirtual 188, 3) := by decide +kernel
theorem dX12_findChances_31 : decode cX12_findChances 31 = .ok (.goto 28, 3) := by decide +kernel
theorem dX12_findChances_34 : decode cX12_findChances 34 = .ok (.iconst 0, 1) := by decide +kernel
theorem dX12_findChances_35 : decode cX12_findChances 35 = .ok (.istore 4, 2) := by decide +kernel
theorem dX12_findChances_37 : decode cX12_findChances 37 = .ok (.iload 4, 2) := by decide +kernel
theorem dX12_findChances_39 : decode cX12_findChances 39 = .ok (.bipush 64, 2) := by decide +kernel
theorem dX12_findChances_41 : decode cX12_findChances 41 = .ok (.if_icmp .ge 18, 3) := by decide +kernel
theorem dX12_findChances_44 : decode cX12_findChances 44 = .ok (.aload_n 0, 1) := by decide +kernel
theorem dX12_findChances_45 : decode cX12_findChances 45 = .ok (.getfield 52, 3) := by decide +kernel
theorem dX12_findChances_48 : decode cX12_findChances 48 = .ok (.iload 4, 2) := by decide +kernel
theorem dX12_findChances_50 : decode cX12_findChances 50 = .ok (.ldc 187, 2) := by decide +kernel
theorem dX12_findChances_52 : decode cX12_findChances 52 = .ok (.iastore, 1) := by decide +kernel
theorem dX12_findChances_53 : decode cX12_findChances 53 = .ok (.iinc 4 1, 3) := by decide +kernel
theorem dX12_findChances_56 : decode cX12_findChances 56 = .ok (.goto (-19), 3) := by decide +kernel
theorem dX12_findChances_59 : decode cX12_findChances 59 = .ok (.iconst 0, 1) := by decide +kernel
theorem dX12_findChances_60 : decode cX12_findChances 60 = .ok (.istore 4, 2) := by decide +kernel
theorem dX12_findChances_62 : decode cX12_findChances 62 = .ok (.iload 4, 2) := by decide +kernel
theorem dX12_findChances_64 : decode cX12_findChances 64 = .ok (.bipush 64, 2) := by decide +kernel
theorem dX12_findChances_66 : decode cX12_findChances 66 = .ok (.if_icmp .ge 27, 3) := by decide +kernel
theorem dX12_findChances_69 : decode cX12_findChances 69 = .ok (.aload_n 0, 1) := by decide +kernel
theorem dX12_findChances_70 : decode cX12_findChances 70 = .ok (.getfield 61, 3) := by decide +kernel
theorem dX12_findChances_73 : decode cX12_findChances 73 = .ok (.iload 4, 2) := by decide +kernel
theorem dX12_findChances_75 : decode cX12_findChances 75 = .ok (.iload 4, 2) := by decide +kernel
theorem dX12_findChances_77 : decode cX12_findChances 77 = .ok (.iload_n 1, 1) := by decide +kernel
theorem dX12_findChances_78 : decode cX12_findChances 78 = .ok (.if_icmp .ne 7, 3) := by decide +kernel
theorem dX12_findChances_81 : decode cX12_findChances 81 = .ok (.lconst 1, 1) := by decide +kernel
theorem dX12_findChances_82 : decode cX12_findChances 82 = .ok (.goto 4, 3) := by decide +kernel
theorem dX12_findChances_85 : decode cX12_findChances 85 = .ok (.lconst 0, 1) := by decide +kernel
theorem dX12_findChances_86 : decode cX12_findChances 86 = .ok (.lastore, 1) := by decide +kernel
theorem dX12_findChances_87 : decode cX12_findChances 87 = .ok (.iinc 4 1, 3) := by decide +kernel
theorem dX12_findChances_90 : decode cX12_findChances 90 = .ok (.goto (-28), 3) := by decide +kernel
theorem dX12_findChances_93 : decode cX12_findChances 93 = .ok (.lconst 1, 1) := by decide +kernel
theorem dX12_findChances_94 : decode cX12_findChances 94 = .ok (.lstore 4, 2) := by decide +kernel
theorem dX12_findChances_96 : decode cX12_findChances 96 = .ok (.iconst 0, 1) := by decide +kernel
theorem dX12_findChances_97 : decode cX12_findChances 97 = .ok (.istore 6, 2) := by decide +kernel
theorem dX12_findChances_99 : decode cX12_findChances 99 = .ok (.iload 6, 2) := by decide +kernel
theorem dX12_findChances_101 : decode cX12_findChances 101 = .ok (.iload_n 2, 1) := by decide +kernel
theorem dX12_findChances_102 : decode cX12_findChances 102 = .ok (.if_icmp .ge 171, 3) := by decide +kernel
theorem dX12_findChances_105 : decode cX12_findChances 105 = .ok (.iconst 0, 1) := by decide +kernel
theorem dX12_findChances_106 : decode cX12_findChances 106 = .ok (.istore 7, 2) := by decide +kernel
theorem dX12_findChances_108 : decode cX12_findChances 108 = .ok (.iload 7, 2) := by decide +kernel
theorem dX12_findChances_110 : decode cX12_findChances 110 = .ok (.bipush 64, 2) := by decide +kernel
theorem dX12_findChances_112 : decode cX12_findChances 112 = .ok (.if_icmp .ge 17, 3) := by decide +kernel
theorem dX12_findChances_115 : decode cX12_findChances 115 = .ok (.aload_n 0, 1) := by decide +kernel
theorem dX12_findChances_116 : decode cX12_findChances 116 = .ok (.getfield 65, 3) := by decide +kernel
theorem dX12_findChances_119 : decode cX12_findChances 119 = .ok (.iload 7, 2) := by decide +kernel
theorem dX12_findChances_121 : decode cX12_findChances 121 = .ok (.lconst 0, 1) := by decide +kernel
theorem dX12_findChances_122 : decode cX12_findChances 122 = .ok (.lastore, 1) := by decide +kernel
theorem dX12_findChances_123 : decode cX12_findChances 123 = .ok (.iinc 7 1, 3) := by decide +kernel
theorem dX12_findChances_126 : decode cX12_findChances 126 = .ok (.goto (-18), 3) := by decide +kernel
theorem dX12_findChances_129 : decode cX12_findChances 129 = .ok (.iconst 0, 1) := by decide +kernel
theorem dX12_findChances_130 : decode cX12_findChances 130 = .ok (.istore 7, 2) := by decide +kernel
theorem dX12_findChances_132 : decode cX12_findChances 132 = .ok (.iload 7, 2) := by decide +kernel
theorem dX12_findChances_134 : decode cX12_findChances 134 = .ok (.bipush 64, 2) := by decide +kernel
theorem dX12_findChances_136 : decode cX12_findChances 136 = .ok (.if_icmp .ge 93, 3) := by decide +kernel
theorem dX12_findChances_139 : decode cX12_findChances 139 = .ok (.aload_n 0, 1) := by decide +kernel
theorem dX12_findChances_140 : decode cX12_findChances 140 = .ok (.getfield 61, 3) := by decide +kernel
theorem dX12_findChances_143 : decode cX12_findChances 143 = .ok (.iload 7, 2) := by decide +kernel
theorem dX12_findChances_145 : decode cX12_findChances 145 = .ok (.laload, 1) := by decide +kernel
theorem dX12_findChances_146 : decode cX12_findChances 146 = .ok (.lconst 0, 1) := by decide +kernel
theorem dX12_findChances_147 : decode cX12_findChances 147 = .ok (.lcmp, 1) := by decide +kernel
theorem dX12_findChances_148 : decode cX12_findChances 148 = .ok (.ifCond .le 31, 3) := by decide +kernel
theorem dX12_findChances_151 : decode cX12_findChances 151 = .ok (.iload_n 3, 1) := by decide +kernel
theorem dX12_findChances_152 : decode cX12_findChances 152 = .ok (.ifCond .ne 27, 3) := by decide +kernel
theorem dX12_findChances_155 : decode cX12_findChances 155 = .ok (.aload_n 0, 1) := by decide +kernel
theorem dX12_findChances_156 : decode cX12_findChances 156 = .ok (.getfield 65, 3) := by decide +kernel
theorem dX12_findChances_159 : decode cX12_findChances 159 = .ok (.iload 7, 2) := by decide +kernel
theorem dX12_findChances_161 : decode cX12_findChances 161 = .ok (.dup2, 1) := by decide +kernel
theorem dX12_findChances_162 : decode cX12_findChances 162 = .ok (.laload, 1) := by decide +kernel
theorem dX12_findChances_163 : decode cX12_findChances 163 = .ok (.aload_n 0, 1) := by decide +kernel
theorem dX12_findChances_164 : decode cX12_findChances 164 = .ok (.getfield 61, 3) := by decide +kernel
theorem dX12_findChances_167 : decode cX12_findChances 167 = .ok (.iload 7, 2) := by decide +kernel
theorem dX12_findChances_169 : decode cX12_findChances 169 = .ok (.laload, 1) := by decide +kernel
theorem dX12_findChances_170 : decode cX12_findChances 170 = .ok (.ldc2_w 261, 3) := by decide +kernel
theorem dX12_findChances_173 : decode cX12_findChances 173 = .ok (.lmul, 1) := by decide +kernel
theorem dX12_findChances_174 : decode cX12_findChances 174 = .ok (.ladd, 1) := by decide +kernel
theorem dX12_findChances_175 : decode cX12_findChances 175 = .ok (.lastore, 1) := by decide +kernel
theorem dX12_findChances_176 : decode cX12_findChances 176 = .ok (.goto 47, 3) := by decide +kernel
theorem dX12_findChances_179 : decode cX12_findChances 179 = .ok (.aload_n 0, 1) := by decide +kernel
theorem dX12_findChances_180 : decode cX12_findChances 180 = .ok (.getfield 61, 3) := by decide +kernel
theorem dX12_findChances_183 : decode cX12_findChances 183 = .ok (.iload 7, 2) := by decide +kernel
theorem dX12_findChances_185 : decode cX12_findChances 185 = .ok (.laload, 1) := by decide +kernel
theorem dX12_findChances_186 : decode cX12_findChances 186 = .ok (.lconst 0, 1) := by decide +kernel
theorem dX12_findChances_187 : decode cX12_findChances 187 = .ok (.lcmp, 1) := by decide +kernel
theorem dX12_findChances_188 : decode cX12_findChances 188 = .ok (.ifCond .le 17, 3) := by decide +kernel
theorem dX12_findChances_191 : decode cX12_findChances 191 = .ok (.iload_n 3, 1) := by decide +kernel
theorem dX12_findChances_192 : decode cX12_findChances 192 = .ok (.iconst 1, 1) := by decide +kernel
theorem dX12_findChances_193 : decode cX12_findChances 193 = .ok (.if_icmp .ne 12, 3) := by decide +kernel
theorem dX12_findChances_196 : decode cX12_findChances 196 = .ok (.aload_n 0, 1) := by decide +kernel
theorem dX12_findChances_197 : decode cX12_findChances 197 = .ok (.iload 7, 2) := by decide +kernel
theorem dX12_findChances_199 : decode cX12_findChances 199 = .ok (.invokevirtual 266, 3) := by decide +kernel
theorem dX12_findChances_202 : decode cX12_findChances 202 = .ok (.goto 21, 3) := by decide +kernel
theorem dX12_findChances_205 : decode cX12_findChances 205 = .ok (.aload_n 0, 1) := by decide +kernel
theorem dX12_findChances_206 : decode cX12_findChances 206 = .ok (.getfield 61, 3) := by decide +kernel
theorem dX12_findChances_209 : decode cX12_findChances 209 = .ok (.iload 7, 2) := by decide +kernel
theorem dX12_findChances_211 : decode cX12_findChances 211 = .ok (.laload, 1) := by decide +kernel
theorem dX12_findChances_212 : decode cX12_findChances 212 = .ok (.lconst 0, 1) := by decide +kernel
theorem dX12_findChances_213 : decode cX12_findChances 213 = .ok (.lcmp, 1) := by decide +kernel
theorem dX12_findChances_214 : decode cX12_findChances 214 = .ok (.ifCond .le 9, 3) := by decide +kernel
theorem dX12_findChances_217 : decode cX12_findChances 217 = .ok (.aload_n 0, 1) := by decide +kernel
theorem dX12_findChances_218 : decode cX12_findChances 218 = .ok (.iload 7, 2) := by decide +kernel
theorem dX12_findChances_220 : decode cX12_findChances 220 = .ok (.invokevirtual 270, 3) := by decide +kernel
theorem dX12_findChances_223 : decode cX12_findChances 223 = .ok (.iinc 7 1, 3) := by decide +kernel
theorem dX12_findChances_226 : decode cX12_findChances 226 = .ok (.goto (-94), 3) := by decide +kernel
theorem dX12_findChances_229 : decode cX12_findChances 229 = .ok (.iconst 0, 1) := by decide +kernel
theorem dX12_findChances_230 : decode cX12_findChances 230 = .ok (.istore 7, 2) := by decide +kernel
theorem dX12_findChances_232 : decode cX12_findChances 232 = .ok (.iload 7, 2) := by decide +kernel
theorem dX12_findChances_234 : decode cX12_findChances 234 = .ok (.bipush 64, 2) := by decide +kernel
theorem dX12_findChances_236 : decode cX12_findChances 236 = .ok (.if_icmp .ge 23, 3) := by decide +kernel
theorem dX12_findChances_239 : decode cX12_findChances 239 = .ok (.aload_n 0, 1) := by decide +kernel
theorem dX12_findChances_240 : decode cX12_findChances 240 = .ok (.getfield 61, 3) := by decide +kernel
theorem dX12_findChances_243 : decode cX12_findChances 243 = .ok (.iload 7, 2) := by decide +kernel
theorem dX12_findChances_245 : decode cX12_findChances 245 = .ok (.aload_n 0, 1) := by decide +kernel
theorem dX12_findChances_246 : decode cX12_findChances 246 = .ok (.getfield 65, 3) := by decide +kernel
theorem dX12_findChances_249 : decode cX12_findChances 249 = .ok (.iload 7, 2) := by decide +kernel
theorem dX12_findChances_251 : decode cX12_findChances 251 = .ok (.laload, 1) := by decide +kernel
theorem dX12_findChances_252 : decode cX12_findChances 252 = .ok (.lastore, 1) := by decide +kernel
theorem dX12_findChances_253 : decode cX12_findChances 253 = .ok (.iinc 7 1, 3) := by decide +kernel
theorem dX12_findChances_256 : decode cX12_findChances 256 = .ok (.goto (-24), 3) := by decide +kernel
theorem dX12_findChances_259 : decode cX12_findChances 259 = .ok (.lload 4, 2) := by decide +kernel
theorem dX12_findChances_261 : decode cX12_findChances 261 = .ok (.ldc2_w 261, 3) := by decide +kernel
theorem dX12_findChances_264 : decode cX12_findChances 264 = .ok (.lmul, 1) := by decide +kernel
theorem dX12_findChances_265 : decode cX12_findChances 265 = .ok (.lstore 4, 2) := by decide +kernel
theorem dX12_findChances_267 : decode cX12_findChances 267 = .ok (.iinc 6 1, 3) := by decide +kernel
theorem dX12_findChances_270 : decode cX12_findChances 270 = .ok (.goto (-171), 3) := by decide +kernel
theorem dX12_findChances_273 : decode cX12_findChances 273 = .ok (.lload 4, 2) := by decide +kernel
theorem dX12_findChances_275 : decode cX12_findChances 275 = .ok (.lreturn, 1) := by decide +kernel
theorem dX12_isOf_0 : decode cX12_isOf 0 = .ok (.aload_n 0, 1) := by decide +kernel
theorem dX12_isOf_1 : decode cX12_isOf 1 = .ok (.iload_n 1, 1) := by decide +kernel
theorem dX12_isOf_2 : decode cX12_isOf 2 = .ok (.iload_n 2, 1) := by decide +kernel
theorem dX12_isOf_3 : decode cX12_isOf 3 = .ok (.invokevirtual 273, 3) := by decide +kernel
theorem dX12_isOf_6 : decode cX12_isOf 6 = .ok (.lstore 5, 2) := by decide +kernel
theorem dX12_isOf_8 : decode cX12_isOf 8 = .ok (.aload_n 0, 1) := by decide +kernel
theorem dX12_isOf_9 : decode cX12_isOf 9 = .ok (.getfield 61, 3) := by decide +kernel
theorem dX12_isOf_12 : decode cX12_isOf 12 = .ok (.iload_n 3, 1) := by decide +kernel
theorem dX12_isOf_13 : decode cX12_isOf 13 = .ok (.laload, 1) := by decide +kernel
theorem dX12_isOf_14 : decode cX12_isOf 14 = .ok (.lload 5, 2) := by decide +kernel
theorem dX12_isOf_16 : decode cX12_isOf 16 = .ok (.iload 4, 2) := by decide +kernel
theorem dX12_isOf_18 : decode cX12_isOf 18 = .ok (.invokestatic 222, 3) := by decide +kernel
theorem dX12_isOf_21 : decode cX12_isOf 21 = .ok (.lreturn, 1) := by decide +kernel
theorem dX12_is_0 : decode cX12_is 0 = .ok (.aload_n 0, 1) := by decide +kernel
theorem dX12_is_1 : decode cX12_is 1 = .ok (.invokevirtual 175, 3) := by decide +kernel
theorem dX12_is_4 : decode cX12_is 4 = .ok (.aload_n 0, 1) := by decide +kernel
theorem dX12_is_5 : decode cX12_is 5 = .ok (.iload_n 1, 1) := by decide +kernel
theorem dX12_is_6 : decode cX12_is 6 = .ok (.invokevirtual 178, 3) := by decide +kernel
theorem dX12_is_9 : decode cX12_is 9 = .ok (.ifCond .eq 43, 3) := by decide +kernel
theorem dX12_is_12 : decode cX12_is 12 = .ok (.iload_n 2, 1) := by decide +kernel
theorem dX12_is_13 : decode cX12_is 13 = .ok (.i2l, 1) := by decide +kernel
theorem dX12_is_14 : decode cX12_is 14 = .ok (.lconst 0, 1) := by decide +kernel
theorem dX12_is_15 : decode cX12_is 15 = .ok (.ldc2_w 277, 3) := by decide +kernel
theorem dX12_is_18 : decode cX12_is 18 = .ok (.invokestatic 82, 3) := by decide +kernel
theorem dX12_is_21 : decode cX12_is 21 = .ok (.ifCond .eq 31, 3) := by decide +kernel
theorem dX12_is_24 : decode cX12_is 24 = .ok (.aload_n 0, 1) := by decide +kernel
theorem dX12_is_25 : decode cX12_is 25 = .ok (.iload_n 3, 1) := by decide +kernel
theorem dX12_is_26 : decode cX12_is 26 = .ok (.invokevirtual 178, 3) := by decide +kernel
theorem dX12_is_29 : decode cX12_is 29 = .ok (.ifCond .eq 23, 3) := by decide +kernel
theorem dX12_is_32 : decode cX12_is 32 = .ok (.iload 4, 2) := by decide +kernel
theorem dX12_is_34 : decode cX12_is 34 = .ok (.invokestatic 167, 3) := by decide +kernel
theorem dX12_is_37 : decode cX12_is 37 = .ok (.ifCond .eq 15, 3) := by decide +kernel
theorem dX12_is_40 : decode cX12_is 40 = .ok (.aload_n 0, 1) := by decide +kernel
theorem dX12_is_41 : decode cX12_is 41 = .ok (.iload_n 1, 1) := by decide +kernel
theorem dX12_is_42 : decode cX12_is 42 = .ok (.iload_n 2, 1) := by decide +kernel
theorem dX12_is_43 : decode cX12_is 43 = .ok (.iload_n 3, 1) := by decide +kernel
theorem dX12_is_44 : decode cX12_is 44 = .ok (.iload 4, 2) := by decide +kernel
theorem dX12_is_46 : decode cX12_is 46 = .ok (.invokevirtual 279, 3) := by decide +kernel
theorem dX12_is_49 : decode cX12_is 49 = .ok (.goto 8, 3) := by decide +kernel
theorem dX12_is_52 : decode cX12_is 52 = .ok (.bipush (-2), 2) := by decide +kernel
theorem dX12_is_54 : decode cX12_is 54 = .ok (.invokestatic 232, 3) := by decide +kernel
theorem dX12_is_57 : decode cX12_is 57 = .ok (.lreturn, 1) := by decide +kernel
theorem dX12_likeliestOf_0 : decode cX12_likeliestOf 0 = .ok (.aload_n 0, 1) := by decide +kernel
theorem dX12_likeliestOf_1 : decode cX12_likeliestOf 1 = .ok (.iload_n 1, 1) := by decide +kernel
theorem dX12_likeliestOf_2 : decode cX12_likeliestOf 2 = .ok (.iload_n 2, 1) := by decide +kernel
theorem dX12_likeliestOf_3 : decode cX12_likeliestOf 3 = .ok (.invokevirtual 273, 3) := by decide +kernel
theorem dX12_likeliestOf_6 : decode cX12_likeliestOf 6 = .ok (.pop2, 1) := by decide +kernel
theorem dX12_likeliestOf_7 : decode cX12_likeliestOf 7 = .ok (.iconst 0, 1) := by decide +kernel
theorem dX12_likeliestOf_8 : decode cX12_likeliestOf 8 = .ok (.istore_n 3, 1) := by decide +kernel
theorem dX12_likeliestOf_9 : decode cX12_likeliestOf 9 = .ok (.iconst 1, 1) := by decide +kernel
theorem dX12_likeliestOf_10 : decode cX12_likeliestOf 10 = .ok (.istore 4, 2) := by decide +kernel
theorem dX12_likeliestOf_12 : decode cX12_likeliestOf 12 = .ok (.iload 4, 2) := by decide +kernel
theorem dX12_likeliestOf_14 : decode cX12_likeliestOf 14 = .ok (.bipush 64, 2) := by decide +kernel
theorem dX12_likeliestOf_16 : decode cX12_likeliestOf 16 = .ok (.if_icmp .ge 33, 3) := by decide +kernel
theorem dX12_likeliestOf_19 : decode cX12_likeliestOf 19 = .ok (.aload_n 0, 1) := by decide +kernel
theorem dX12_likeliestOf_20 : decode cX12_likeliestOf 20 = .ok (.getfield 61, 3) := by decide +kernel
theorem dX12_likeliestOf_23 : decode cX12_likeliestOf 23 = .ok (.iload 4, 2) := by decide +kernel
theorem dX12_likeliestOf_25 : decode cX12_likeliestOf 25 = .ok (.laload, 1) := by decide +kernel
theorem dX12_likeliestOf_26 : decode cX12_likeliestOf 26 = .ok (.aload_n 0, 1) := by decide +kernel
theorem dX12_likeliestOf_27 : decode cX12_likeliestOf 27 = .ok (.getfield 61, 3) := by decide +kernel
theorem dX12_likeliestOf_30 : decode cX12_likeliestOf 30 = .ok (.iload_n 3, 1) := by decide +kernel
theorem dX12_likeliestOf_31 : decode cX12_likeliestOf 31 = .ok (.laload, 1) := by decide +kernel
theorem dX12_likeliestOf_32 : decode cX12_likeliestOf 32 = .ok (.lcmp, 1) := by decide +kernel
theorem dX12_likeliestOf_33 : decode cX12_likeliestOf 33 = .ok (.ifCond .le 8, 3) := by decide +kernel
theorem dX12_likeliestOf_36 : decode cX12_likeliestOf 36 = .ok (.iload 4, 2) := by decide +kernel
theorem dX12_likeliestOf_38 : decode cX12_likeliestOf 38 = .ok (.goto 4, 3) := by decide +kernel
theorem dX12_likeliestOf_41 : decode cX12_likeliestOf 41 = .ok (.iload_n 3, 1) := by decide +kernel
theorem dX12_likeliestOf_42 : decode cX12_likeliestOf 42 = .ok (.istore_n 3, 1) := by decide +kernel
theorem dX12_likeliestOf_43 : decode cX12_likeliestOf 43 = .ok (.iinc 4 1, 3) := by decide +kernel
theorem dX12_likeliestOf_46 : decode cX12_likeliestOf 46 = .ok (.goto (-34), 3) := by decide +kernel
theorem dX12_likeliestOf_49 : decode cX12_likeliestOf 49 = .ok (.iload_n 3, 1) := by decide +kernel
theorem dX12_likeliestOf_50 : decode cX12_likeliestOf 50 = .ok (.ireturn, 1) := by decide +kernel
theorem dX12_likeliest_0 : decode cX12_likeliest 0 = .ok (.aload_n 0, 1) := by decide +kernel
theorem dX12_likeliest_1 : decode cX12_likeliest 1 = .ok (.invokevirtual 175, 3) := by decide +kernel
theorem dX12_likeliest_4 : decode cX12_likeliest 4 = .ok (.aload_n 0, 1) := by decide +kernel
theorem dX12_likeliest_5 : decode cX12_likeliest 5 = .ok (.iload_n 1, 1) := by decide +kernel
theorem dX12_likeliest_6 : decode cX12_likeliest 6 = .ok (.invokevirtual 178, 3) := by decide +kernel
theorem dX12_likeliest_9 : decode cX12_likeliest 9 = .ok (.ifCond .eq 24, 3) := by decide +kernel
theorem dX12_likeliest_12 : decode cX12_likeliest 12 = .ok (.iload_n 2, 1) := by decide +kernel
theorem dX12_likeliest_13 : decode cX12_likeliest 13 = .ok (.i2l, 1) := by decide +kernel
theorem dX12_likeliest_14 : decode cX12_likeliest 14 = .ok (.lconst 0, 1) := by decide +kernel
theorem dX12_likeliest_15 : decode cX12_likeliest 15 = .ok (.ldc2_w 277, 3) := by decide +kernel
theorem dX12_likeliest_18 : decode cX12_likeliest 18 = .ok (.invokestatic 82, 3) := by decide +kernel
theorem dX12_likeliest_21 : decode cX12_likeliest 21 = .ok (.ifCond .eq 12, 3) := by decide +kernel
theorem dX12_likeliest_24 : decode cX12_likeliest 24 = .ok (.aload_n 0, 1) := by decide +kernel
theorem dX12_likeliest_25 : decode cX12_likeliest 25 = .ok (.iload_n 1, 1) := by decide +kernel
theorem dX12_likeliest_26 : decode cX12_likeliest 26 = .ok (.iload_n 2, 1) := by decide +kernel
theorem dX12_likeliest_27 : decode cX12_likeliest 27 = .ok (.invokevirtual 282, 3) := by decide +kernel
theorem dX12_likeliest_30 : decode cX12_likeliest 30 = .ok (.goto 5, 3) := by decide +kernel
theorem dX12_likeliest_33 : decode cX12_likeliest 33 = .ok (.bipush (-2), 2) := by decide +kernel
theorem dX12_likeliest_35 : decode cX12_likeliest 35 = .ok (.ireturn, 1) := by decide +kernel
theorem dX12_look_0 : decode cX12_look 0 = .ok (.iload_n 1, 1) := by decide +kernel
theorem dX12_look_1 : decode cX12_look 1 = .ok (.i2l, 1) := by decide +kernel
theorem dX12_look_2 : decode cX12_look 2 = .ok (.lconst 0, 1) := by decide +kernel
theorem dX12_look_3 : decode cX12_look 3 = .ok (.ldc2_w 160, 3) := by decide +kernel
theorem dX12_look_6 : decode cX12_look 6 = .ok (.invokestatic 82, 3) := by decide +kernel
theorem dX12_look_9 : decode cX12_look 9 = .ok (.ifCond .eq 15, 3) := by decide +kernel
theorem dX12_look_12 : decode cX12_look 12 = .ok (.iload_n 2, 1) := by decide +kernel
theorem dX12_look_13 : decode cX12_look 13 = .ok (.i2l, 1) := by decide +kernel
theorem dX12_look_14 : decode cX12_look 14 = .ok (.lconst 1, 1) := by decide +kernel
theorem dX12_look_15 : decode cX12_look 15 = .ok (.ldc2_w 285, 3) := by decide +kernel
theorem dX12_look_18 : decode cX12_look 18 = .ok (.invokestatic 82, 3) := by decide +kernel
theorem dX12_look_21 : decode cX12_look 21 = .ok (.ifCond .ne 6, 3) := by decide +kernel
theorem dX12_look_24 : decode cX12_look 24 = .ok (.bipush (-2), 2) := by decide +kernel
theorem dX12_look_26 : decode cX12_look 26 = .ok (.ireturn, 1) := by decide +kernel
theorem dX12_look_27 : decode cX12_look 27 = .ok (.aload_n 0, 1) := by decide +kernel
theorem dX12_look_28 : decode cX12_look 28 = .ok (.getfield 287, 3) := by decide +kernel
theorem dX12_look_31 : decode cX12_look 31 = .ok (.iconst 5, 1) := by decide +kernel
theorem dX12_look_32 : decode cX12_look 32 = .ok (.if_icmp .ne 6, 3) := by decide +kernel
theorem dX12_look_35 : decode cX12_look 35 = .ok (.bipush (-4), 2) := by decide +kernel
theorem dX12_look_37 : decode cX12_look 37 = .ok (.ireturn, 1) := by decide +kernel
theorem dX12_look_38 : decode cX12_look 38 = .ok (.aload_n 0, 1) := by decide +kernel
theorem dX12_look_39 : decode cX12_look 39 = .ok (.getfield 68, 3) := by decide +kernel
theorem dX12_look_42 : decode cX12_look 42 = .ok (.iconst 2, 1) := by decide +kernel
theorem dX12_look_43 : decode cX12_look 43 = .ok (.aload_n 0, 1) := by decide +kernel
theorem dX12_look_44 : decode cX12_look 44 = .ok (.getfield 287, 3) := by decide +kernel
theorem dX12_look_47 : decode cX12_look 47 = .ok (.imul, 1) := by decide +kernel
theorem dX12_look_48 : decode cX12_look 48 = .ok (.iload_n 1, 1) := by decide +kernel
theorem dX12_look_49 : decode cX12_look 49 = .ok (.iastore, 1) := by decide +kernel
theorem dX12_look_50 : decode cX12_look 50 = .ok (.aload_n 0, 1) := by decide +kernel
theorem dX12_look_51 : decode cX12_look 51 = .ok (.getfield 68, 3) := by decide +kernel
theorem dX12_look_54 : decode cX12_look 54 = .ok (.iconst 2, 1) := by decide +kernel
theorem dX12_look_55 : decode cX12_look 55 = .ok (.aload_n 0, 1) := by decide +kernel
theorem dX12_look_56 : decode cX12_look 56 = .ok (.getfield 287, 3) := by decide +kernel
theorem dX12_look_59 : decode cX12_look 59 = .ok (.imul, 1) := by decide +kernel
theorem dX12_look_60 : decode cX12_look 60 = .ok (.iconst 1, 1) := by decide +kernel
theorem dX12_look_61 : decode cX12_look 61 = .ok (.iadd, 1) := by decide +kernel
theorem dX12_look_62 : decode cX12_look 62 = .ok (.iload_n 2, 1) := by decide +kernel
theorem dX12_look_63 : decode cX12_look 63 = .ok (.iastore, 1) := by decide +kernel
theorem dX12_look_64 : decode cX12_look 64 = .ok (.aload_n 0, 1) := by decide +kernel
theorem dX12_look_65 : decode cX12_look 65 = .ok (.dup, 1) := by decide +kernel
theorem dX12_look_66 : decode cX12_look 66 = .ok (.getfield 287, 3) := by decide +kernel
theorem dX12_look_69 : decode cX12_look 69 = .ok (.iconst 1, 1) := by decide +kernel
theorem dX12_look_70 : decode cX12_look 70 = .ok (.iadd, 1) := by decide +kernel
theorem dX12_look_71 : decode cX12_look 71 = .ok (.putfield 287, 3) := by decide +kernel
theorem dX12_look_74 : decode cX12_look 74 = .ok (.aload_n 0, 1) := by decide +kernel
theorem dX12_look_75 : decode cX12_look 75 = .ok (.getfield 287, 3) := by decide +kernel
theorem dX12_look_78 : decode cX12_look 78 = .ok (.ireturn, 1) := by decide +kernel
theorem dX12_forget_0 : decode cX12_forget 0 = .ok (.aload_n 0, 1) := by decide +kernel
theorem dX12_forget_1 : decode cX12_forget 1 = .ok (.getfield 287, 3) := by decide +kernel
theorem dX12_forget_4 : decode cX12_forget 4 = .ok (.istore_n 1, 1) := by decide +kernel
theorem dX12_forget_5 : decode cX12_forget 5 = .ok (.aload_n 0, 1) := by decide +kernel
theorem dX12_forget_6 : decode cX12_forget 6 = .ok (.iconst 0, 1) := by decide +kernel
theorem dX12_forget_7 : decode cX12_forget 7 = .ok (.putfield 287, 3) := by decide +kernel
theorem dX12_forget_10 : decode cX12_forget 10 = .ok (.iload_n 1, 1) := by decide +kernel
theorem dX12_forget_11 : decode cX12_forget 11 = .ok (.ireturn, 1) := by decide +kernel
theorem dX12_findWays_0 : decode cX12_findWays 0 = .ok (.aload_n 0, 1) := by decide +kernel
theorem dX12_findWays_1 : decode cX12_findWays 1 = .ok (.getfield 287, 3) := by decide +kernel
theorem dX12_findWays_4 : decode cX12_findWays 4 = .ok (.ifCond .le 20, 3) := by decide +kernel
theorem dX12_findWays_7 : decode cX12_findWays 7 = .ok (.aload_n 0, 1) := by decide +kernel
theorem dX12_findWays_8 : decode cX12_findWays 8 = .ok (.aload_n 0, 1) := by decide +kernel
theorem dX12_findWays_9 : decode cX12_findWays 9 = .ok (.getfield 46, 3) := by decide +kernel
theorem dX12_findWays_12 : decode cX12_findWays 12 = .ok (.iload_n 1, 1) := by decide +kernel
theorem dX12_findWays_13 : decode cX12_findWays 13 = .ok (.iaload, 1) := by decide +kernel
theorem dX12_findWays_14 : decode cX12_findWays 14 = .ok (.invokevirtual 178, 3) := by decide +kernel
theorem dX12_findWays_17 : decode cX12_findWays 17 = .ok (.ifCond .eq 7, 3) := by decide +kernel
theorem dX12_findWays_20 : decode cX12_findWays 20 = .ok (.iconst 1, 1) := by decide +kernel
theorem dX12_findWays_21 : decode cX12_findWays 21 = .ok (.goto 4, 3) := by decide +kernel
theorem dX12_findWays_24 : decode cX12_findWays 24 = .ok (.iconst 0, 1) := by decide +kernel
theorem dX12_findWays_25 : decode cX12_findWays 25 = .ok (.istore_n 2, 1) := by decide +kernel
theorem dX12_findWays_26 : decode cX12_findWays 26 = .ok (.iconst 0, 1) := by decide +kernel
theorem dX12_findWays_27 : decode cX12_findWays 27 = .ok (.istore_n 3, 1) := by decide +kernel
theorem dX12_findWays_28 : decode cX12_findWays 28 = .ok (.iload_n 3, 1) := by decide +kernel
theorem dX12_findWays_29 : decode cX12_findWays 29 = .ok (.aload_n 0, 1) := by decide +kernel
theorem dX12_findWays_30 : decode cX12_findWays 30 = .ok (.getfield 287, 3) := by decide +kernel
theorem dX12_findWays_33 : decode cX12_findWays 33 = .ok (.if_icmp .ge 155, 3) := by decide +kernel
theorem dX12_findWays_36 : decode cX12_findWays 36 = .ok (.iload_n 2, 1) := by decide +kernel
theorem dX12_findWays_37 : decode cX12_findWays 37 = .ok (.ifCond .eq 151, 3) := by decide +kernel
theorem dX12_findWays_40 : decode cX12_findWays 40 = .ok (.aload_n 0, 1) := by decide +kernel
theorem dX12_findWays_41 : decode cX12_findWays 41 = .ok (.aload_n 0, 1) := by decide +kernel
theorem dX12_findWays_42 : decode cX12_findWays 42 = .ok (.getfield 68, 3) := by decide +kernel
theorem dX12_findWays_45 : decode cX12_findWays 45 = .ok (.iconst 2, 1) := by decide +kernel
theorem dX12_findWays_46 : decode cX12_findWays 46 = .ok (.iload_n 3, 1) := by decide +kernel
theorem dX12_findWays_47 : decode cX12_findWays 47 = .ok (.imul, 1) := by decide +kernel
theorem dX12_findWays_48 : decode cX12_findWays 48 = .ok (.iaload, 1) := by decide +kernel
theorem dX12_findWays_49 : decode cX12_findWays 49 = .ok (.invokevirtual 178, 3) := by decide +kernel
theorem dX12_findWays_52 : decode cX12_findWays 52 = .ok (.istore_n 2, 1) := by decide +kernel
theorem dX12_findWays_53 : decode cX12_findWays 53 = .ok (.iload_n 2, 1) := by decide +kernel
theorem dX12_findWays_54 : decode cX12_findWays 54 = .ok (.ifCond .eq 128, 3) := by decide +kernel
theorem dX12_findWays_57 : decode cX12_findWays 57 = .ok (.aload_n 0, 1) := by decide +kernel
theorem dX12_findWays_58 : decode cX12_findWays 58 = .ok (.aload_n 0, 1) := by decide +kernel
theorem dX12_findWays_59 : decode cX12_findWays 59 = .ok (.getfield 68, 3) := by decide +kernel
theorem dX12_findWays_62 : decode cX12_findWays 62 = .ok (.iconst 2, 1) := by decide +kernel
theorem dX12_findWays_63 : decode cX12_findWays 63 = .ok (.iload_n 3, 1) := by decide +kernel
theorem dX12_findWays_64 : decode cX12_findWays 64 = .ok (.imul, 1) := by decide +kernel
theorem dX12_findWays_65 : decode cX12_findWays 65 = .ok (.iaload, 1) := by decide +kernel
theorem dX12_findWays_66 : decode cX12_findWays 66 = .ok (.iconst 0, 1) := by decide +kernel
theorem dX12_findWays_67 : decode cX12_findWays 67 = .ok (.invokevirtual 188, 3) := by decide +kernel
theorem dX12_findWays_70 : decode cX12_findWays 70 = .ok (.aload_n 0, 1) := by decide +kernel
theorem dX12_findWays_71 : decode cX12_findWays 71 = .ok (.getfield 71, 3) := by decide +kernel
theorem dX12_findWays_74 : decode cX12_findWays 74 = .ok (.bipush 25, 2) := by decide +kernel
theorem dX12_findWays_76 : decode cX12_findWays 76 = .ok (.iload_n 3, 1) := by decide +kernel
theorem dX12_findWays_77 : decode cX12_findWays 77 = .ok (.iadd, 1) := by decide +kernel
theorem dX12_findWays_78 : decode cX12_findWays 78 = .ok (.aload_n 0, 1) := by decide +kernel
theorem dX12_findWays_79 : decode cX12_findWays 79 = .ok (.getfield 52, 3) := by decide +kernel
theorem dX12_findWays_82 : decode cX12_findWays 82 = .ok (.aload_n 0, 1) := by decide +kernel
theorem dX12_findWays_83 : decode cX12_findWays 83 = .ok (.getfield 46, 3) := by decide +kernel
theorem dX12_findWays_86 : decode cX12_findWays 86 = .ok (.iload_n 1, 1) := by decide +kernel
theorem dX12_findWays_87 : decode cX12_findWays 87 = .ok (.iaload, 1) := by decide +kernel
theorem dX12_findWays_88 : decode cX12_findWays 88 = .ok (.iaload, 1) := by decide +kernel
theorem dX12_findWays_89 : decode cX12_findWays 89 = .ok (.iastore, 1) := by decide +kernel
theorem dX12_findWays_90 : decode cX12_findWays 90 = .ok (.aload_n 0, 1) := by decide +kernel
theorem dX12_findWays_91 : decode cX12_findWays 91 = .ok (.getfield 71, 3) := by decide +kernel
theorem dX12_findWays_94 : decode cX12_findWays 94 = .ok (.bipush 25, 2) := by decide +kernel
theorem dX12_findWays_96 : decode cX12_findWays 96 = .ok (.iload_n 3, 1) := by decide +kernel
theorem dX12_findWays_97 : decode cX12_findWays 97 = .ok (.iadd, 1) := by decide +kernel
theorem dX12_findWays_98 : decode cX12_findWays 98 = .ok (.iaload, 1) := by decide +kernel
theorem dX12_findWays_99 : decode cX12_findWays 99 = .ok (.ldc 187, 2) := by decide +kernel
theorem dX12_findWays_101 : decode cX12_findWays 101 = .ok (.if_icmp .ge 7, 3) := by decide +kernel
theorem dX12_findWays_104 : decode cX12_findWays 104 = .ok (.iconst 1, 1) := by decide +kernel
theorem dX12_findWays_105 : decode cX12_findWays 105 = .ok (.goto 4, 3) := by decide +kernel
theorem dX12_findWays_108 : decode cX12_findWays 108 = .ok (.iconst 0, 1) := by decide +kernel
theorem dX12_findWays_109 : decode cX12_findWays 109 = .ok (.istore_n 2, 1) := by decide +kernel
theorem dX12_findWays_110 : decode cX12_findWays 110 = .ok (.iconst 0, 1) := by decide +kernel
theorem dX12_findWays_111 : decode cX12_findWays 111 = .ok (.istore 4, 2) := by decide +kernel
theorem dX12_findWays_113 : decode cX12_findWays 113 = .ok (.iload 4, 2) := by decide +kernel
theorem dX12_findWays_115 : decode cX12_findWays 115 = .ok (.aload_n 0, 1) := by decide +kernel
theorem dX12_findWays_116 : decode cX12_findWays 116 = .ok (.getfield 287, 3) := by decide +kernel
theorem dX12_findWays_119 : decode cX12_findWays 119 = .ok (.if_icmp .ge 63, 3) := by decide +kernel
theorem dX12_findWays_122 : decode cX12_findWays 122 = .ok (.iload_n 2, 1) := by decide +kernel
theorem dX12_findWays_123 : decode cX12_findWays 123 = .ok (.ifCond .eq 59, 3) := by decide +kernel
theorem dX12_findWays_126 : decode cX12_findWays 126 = .ok (.aload_n 0, 1) := by decide +kernel
theorem dX12_findWays_127 : decode cX12_findWays 127 = .ok (.getfield 71, 3) := by decide +kernel
theorem dX12_findWays_130 : decode cX12_findWays 130 = .ok (.iconst 5, 1) := by decide +kernel
theorem dX12_findWays_131 : decode cX12_findWays 131 = .ok (.iload 4, 2) := by decide +kernel
theorem dX12_findWays_133 : decode cX12_findWays 133 = .ok (.imul, 1) := by decide +kernel
theorem dX12_findWays_134 : decode cX12_findWays 134 = .ok (.iload_n 3, 1) := by decide +kernel
theorem dX12_findWays_135 : decode cX12_findWays 135 = .ok (.iadd, 1) := by decide +kernel
theorem dX12_findWays_136 : decode cX12_findWays 136 = .ok (.aload_n 0, 1) := by decide +kernel
theorem dX12_findWays_137 : decode cX12_findWays 137 = .ok (.getfield 68, 3) := by decide +kernel
theorem dX12_findWays_140 : decode cX12_findWays 140 = .ok (.iconst 2, 1) := by decide +kernel
theorem dX12_findWays_141 : decode cX12_findWays 141 = .ok (.iload 4, 2) := by decide +kernel
theorem dX12_findWays_143 : decode cX12_findWays 143 = .ok (.imul, 1) := by decide +kernel
theorem dX12_findWays_144 : decode cX12_findWays 144 = .ok (.iaload, 1) := by decide +kernel
theorem dX12_findWays_145 : decode cX12_findWays 145 = .ok (.i2l, 1) := by decide +kernel
theorem dX12_findWays_146 : decode cX12_findWays 146 = .ok (.lconst 0, 1) := by decide +kernel
theorem dX12_findWays_147 : decode cX12_findWays 147 = .ok (.ldc2_w 160, 3) := by decide +kernel
theorem dX12_findWays_150 : decode cX12_findWays 150 = .ok (.invokestatic 82, 3) := by decide +kernel
theorem dX12_findWays_153 : decode cX12_findWays 153 = .ok (.ifCond .eq 20, 3) := by decide +kernel
theorem dX12_findWays_156 : decode cX12_findWays 156 = .ok (.aload_n 0, 1) := by decide +kernel
theorem dX12_findWays_157 : decode cX12_findWays 157 = .ok (.getfield 52, 3) := by decide +kernel
theorem dX12_findWays_160 : decode cX12_findWays 160 = .ok (.aload_n 0, 1) := by decide +kernel
theorem dX12_findWays_161 : decode cX12_findWays 161 = .ok (.getfield 68, 3) := by decide +kernel
theorem dX12_findWays_164 : decode cX12_findWays 164 = .ok (.iconst 2, 1) := by decide +kernel
theorem dX12_findWays_165 : decode cX12_findWays 165 = .ok (.iload 4, 2) := by decide +kernel
theorem dX12_findWays_167 : decode cX12_findWays 167 = .ok (.imul, 1) := by decide +kernel
theorem dX12_findWays_168 : decode cX12_findWays 168 = .ok (.iaload, 1) := by decide +kernel
theorem dX12_findWays_169 : decode cX12_findWays 169 = .ok (.iaload, 1) := by decide +kernel
theorem dX12_findWays_170 : decode cX12_findWays 170 = .ok (.goto 5, 3) := by decide +kernel
theorem dX12_findWays_173 : decode cX12_findWays 173 = .ok (.ldc 187, 2) := by decide +kernel
theorem dX12_findWays_175 : decode cX12_findWays 175 = .ok (.iastore, 1) := by decide +kernel
theorem dX12_findWays_176 : decode cX12_findWays 176 = .ok (.iinc 4 1, 3) := by decide +kernel
theorem dX12_findWays_179 : decode cX12_findWays 179 = .ok (.goto (-66), 3) := by decide +kernel
theorem dX12_findWays_182 : decode cX12_findWays 182 = .ok (.iinc 3 1, 3) := by decide +kernel
theorem dX12_findWays_185 : decode cX12_findWays 185 = .ok (.goto (-157), 3) := by decide +kernel
theorem dX12_findWays_188 : decode cX12_findWays 188 = .ok (.iload_n 2, 1) := by decide +kernel
theorem dX12_findWays_189 : decode cX12_findWays 189 = .ok (.ireturn, 1) := by decide +kernel
theorem dX12_weights_0 : decode cX12_weights 0 = .ok (.iconst 0, 1) := by decide +kernel
theorem dX12_weights_1 : decode cX12_weights 1 = .ok (.istore_n 1, 1) := by decide +kernel
theorem dX12_weights_2 : decode cX12_weights 2 = .ok (.iconst 0, 1) := by decide +kernel
theorem dX12_weights_3 : decode cX12_weights 3 = .ok (.istore_n 2, 1) := by decide +kernel
theorem dX12_weights_4 : decode cX12_weights 4 = .ok (.iload_n 2, 1) := by decide +kernel
theorem dX12_weights_5 : decode cX12_weights 5 = .ok (.aload_n 0, 1) := by decide +kernel
theorem dX12_weights_6 : decode cX12_weights 6 = .ok (.getfield 287, 3) := by decide +kernel
theorem dX12_weights_9 : decode cX12_weights 9 = .ok (.if_icmp .ge 22, 3) := by decide +kernel
theorem dX12_weights_12 : decode cX12_weights 12 = .ok (.iload_n 1, 1) := by decide +kernel
theorem dX12_weights_13 : decode cX12_weights 13 = .ok (.aload_n 0, 1) := by decide +kernel
theorem dX12_weights_14 : decode cX12_weights 14 = .ok (.getfield 68, 3) := by decide +kernel
theorem dX12_weights_17 : decode cX12_weights 17 = .ok (.iconst 2, 1) := by decide +kernel
theorem dX12_weights_18 : decode cX12_weights 18 = .ok (.iload_n 2, 1) := by decide +kernel
theorem dX12_weights_19 : decode cX12_weights 19 = .ok (.imul, 1) := by decide +kernel
theorem dX12_weights_20 : decode cX12_weights 20 = .ok (.iconst 1, 1) := by decide +kernel
theorem dX12_weights_21 : decode cX12_weights 21 = .ok (.iadd, 1) := by decide +kernel
theorem dX12_weights_22 : decode cX12_weights 22 = .ok (.iaload, 1) := by decide +kernel
theorem dX12_weights_23 : decode cX12_weights 23 = .ok (.iadd, 1) := by decide +kernel
theorem dX12_weights_24 : decode cX12_weights 24 = .ok (.istore_n 1, 1) := by decide +kernel
theorem dX12_weights_25 : decode cX12_weights 25 = .ok (.iinc 2 1, 3) := by decide +kernel
theorem dX12_weights_28 : decode cX12_weights 28 = .ok (.goto (-24), 3) := by decide +kernel
theorem dX12_weights_31 : decode cX12_weights 31 = .ok (.iload_n 1, 1) := by decide +kernel
theorem dX12_weights_32 : decode cX12_weights 32 = .ok (.ireturn, 1) := by decide +kernel
theorem dX12_findBest_0 : decode cX12_findBest 0 = .ok (.iload_n 1, 1) := by decide +kernel
theorem dX12_findBest_1 : decode cX12_findBest 1 = .ok (.invokestatic 210, 3) := by decide +kernel
theorem dX12_findBest_4 : decode cX12_findBest 4 = .ok (.istore_n 2, 1) := by decide +kernel
theorem dX12_findBest_5 : decode cX12_findBest 5 = .ok (.iconst 1, 1) := by decide +kernel
theorem dX12_findBest_6 : decode cX12_findBest 6 = .ok (.istore_n 3, 1) := by decide +kernel
theorem dX12_findBest_7 : decode cX12_findBest 7 = .ok (.iconst 0, 1) := by decide +kernel
theorem dX12_findBest_8 : decode cX12_findBest 8 = .ok (.istore 4, 2) := by decide +kernel
theorem dX12_findBest_10 : decode cX12_findBest 10 = .ok (.iload 4, 2) := by decide +kernel
theorem dX12_findBest_12 : decode cX12_findBest 12 = .ok (.iload_n 2, 1) := by decide +kernel
theorem dX12_findBest_13 : decode cX12_findBest 13 = .ok (.if_icmp .ge 13, 3) := by decide +kernel
theorem dX12_findBest_16 : decode cX12_findBest 16 = .ok (.iload_n 3, 1) := by decide +kernel
theorem dX12_findBest_17 : decode cX12_findBest 17 = .ok (.iconst 5, 1) := by decide +kernel
theorem dX12_findBest_18 : decode cX12_findBest 18 = .ok (.imul, 1) := by decide +kernel
theorem dX12_findBest_19 : decode cX12_findBest 19 = .ok (.istore_n 3, 1) := by decide +kernel
theorem dX12_findBest_20 : decode cX12_findBest 20 = .ok (.iinc 4 1, 3) := by decide +kernel
theorem dX12_findBest_23 : decode cX12_findBest 23 = .ok (.goto (-13), 3) := by decide +kernel
theorem dX12_findBest_26 : decode cX12_findBest 26 = .ok (.iconst (-1), 1) := by decide +kernel
theorem dX12_findBest_27 : decode cX12_findBest 27 = .ok (.istore 4, 2) := by decide +kernel
theorem dX12_findBest_29 : decode cX12_findBest 29 = .ok (.iconst 0, 1) := by decide +kernel
theorem dX12_findBest_30 : decode cX12_findBest 30 = .ok (.istore 5, 2) := by decide +kernel
theorem dX12_findBest_32 : decode cX12_findBest 32 = .ok (.iload 5, 2) := by decide +kernel
theorem dX12_findBest_34 : decode cX12_findBest 34 = .ok (.iload_n 3, 1) := by decide +kernel
theorem dX12_findBest_35 : decode cX12_findBest 35 = .ok (.if_icmp .ge 175, 3) := by decide +kernel
theorem dX12_findBest_38 : decode cX12_findBest 38 = .ok (.iload 5, 2) := by decide +kernel
theorem dX12_findBest_40 : decode cX12_findBest 40 = .ok (.istore 6, 2) := by decide +kernel
theorem dX12_findBest_42 : decode cX12_findBest 42 = .ok (.iconst 0, 1) := by decide +kernel
theorem dX12_findBest_43 : decode cX12_findBest 43 = .ok (.istore 7, 2) := by decide +kernel
theorem dX12_findBest_45 : decode cX12_findBest 45 = .ok (.iload_n 2, 1) := by decide +kernel
theorem dX12_findBest_46 : decode cX12_findBest 46 = .ok (.iconst 1, 1) := by decide +kernel
theorem dX12_findBest_47 : decode cX12_findBest 47 = .ok (.isub, 1) := by decide +kernel
theorem dX12_findBest_48 : decode cX12_findBest 48 = .ok (.istore 8, 2) := by decide +kernel
theorem dX12_findBest_50 : decode cX12_findBest 50 = .ok (.iload 8, 2) := by decide +kernel
theorem dX12_findBest_52 : decode cX12_findBest 52 = .ok (.ifCond .lt 40, 3) := by decide +kernel
theorem dX12_findBest_55 : decode cX12_findBest 55 = .ok (.aload_n 0, 1) := by decide +kernel
theorem dX12_findBest_56 : decode cX12_findBest 56 = .ok (.getfield 58, 3) := by decide +kernel
theorem dX12_findBest_59 : decode cX12_findBest 59 = .ok (.iload 8, 2) := by decide +kernel
theorem dX12_findBest_61 : decode cX12_findBest 61 = .ok (.iload 6, 2) := by decide +kernel
theorem dX12_findBest_63 : decode cX12_findBest 63 = .ok (.iconst 5, 1) := by decide +kernel
theorem dX12_findBest_64 : decode cX12_findBest 64 = .ok (.irem, 1) := by decide +kernel
theorem dX12_findBest_65 : decode cX12_findBest 65 = .ok (.iastore, 1) := by decide +kernel
theorem dX12_findBest_66 : decode cX12_findBest 66 = .ok (.iload 6, 2) := by decide +kernel
theorem dX12_findBest_68 : decode cX12_findBest 68 = .ok (.iconst 5, 1) := by decide +kernel
theorem dX12_findBest_69 : decode cX12_findBest 69 = .ok (.idiv, 1) := by decide +kernel
theorem dX12_findBest_70 : decode cX12_findBest 70 = .ok (.istore 6, 2) := by decide +kernel
theorem dX12_findBest_72 : decode cX12_findBest 72 = .ok (.iload 7, 2) := by decide +kernel
theorem dX12_findBest_74 : decode cX12_findBest 74 = .ok (.iconst 1, 1) := by decide +kernel
theorem dX12_findBest_75 : decode cX12_findBest 75 = .ok (.aload_n 0, 1) := by decide +kernel
theorem dX12_findBest_76 : decode cX12_findBest 76 = .ok (.getfield 58, 3) := by decide +kernel
theorem dX12_findBest_79 : decode cX12_findBest 79 = .ok (.iload 8, 2) := by decide +kernel
theorem dX12_findBest_81 : decode cX12_findBest 81 = .ok (.iaload, 1) := by decide +kernel
theorem dX12_findBest_82 : decode cX12_findBest 82 = .ok (.ishl, 1) := by decide +kernel
theorem dX12_findBest_83 : decode cX12_findBest 83 = .ok (.ior, 1) := by decide +kernel
theorem dX12_findBest_84 : decode cX12_findBest 84 = .ok (.istore 7, 2) := by decide +kernel
theorem dX12_findBest_86 : decode cX12_findBest 86 = .ok (.iinc 8 (-1), 3) := by decide +kernel
theorem dX12_findBest_89 : decode cX12_findBest 89 = .ok (.goto (-39), 3) := by decide +kernel
theorem dX12_findBest_92 : decode cX12_findBest 92 = .ok (.iload 7, 2) := by decide +kernel
theorem dX12_findBest_94 : decode cX12_findBest 94 = .ok (.iload_n 1, 1) := by decide +kernel
theorem dX12_findBest_95 : decode cX12_findBest 95 = .ok (.if_icmp .ne 109, 3) := by decide +kernel
theorem dX12_findBest_98 : decode cX12_findBest 98 = .ok (.iconst 0, 1) := by decide +kernel
theorem dX12_findBest_99 : decode cX12_findBest 99 = .ok (.istore 8, 2) := by decide +kernel
theorem dX12_findBest_101 : decode cX12_findBest 101 = .ok (.iconst 0, 1) := by decide +kernel
theorem dX12_findBest_102 : decode cX12_findBest 102 = .ok (.istore 9, 2) := by decide +kernel
theorem dX12_findBest_104 : decode cX12_findBest 104 = .ok (.iconst 0, 1) := by decide +kernel
theorem dX12_findBest_105 : decode cX12_findBest 105 = .ok (.istore 10, 2) := by decide +kernel
theorem dX12_findBest_107 : decode cX12_findBest 107 = .ok (.iload 10, 2) := by decide +kernel
theorem dX12_findBest_109 : decode cX12_findBest 109 = .ok (.iload_n 2, 1) := by decide +kernel
theorem dX12_findBest_110 : decode cX12_findBest 110 = .ok (.if_icmp .ge 71, 3) := by decide +kernel
theorem dX12_findBest_113 : decode cX12_findBest 113 = .ok (.iload 9, 2) := by decide +kernel
theorem dX12_findBest_115 : decode cX12_findBest 115 = .ok (.aload_n 0, 1) := by decide +kernel
theorem dX12_findBest_116 : decode cX12_findBest 116 = .ok (.getfield 71, 3) := by decide +kernel
theorem dX12_findBest_119 : decode cX12_findBest 119 = .ok (.iconst 5, 1) := by decide +kernel
theorem dX12_findBest_120 : decode cX12_findBest 120 = .ok (.iload 10, 2) := by decide +kernel
theorem dX12_findBest_122 : decode cX12_findBest 122 = .ok (.ifCond .ne 7, 3) := by decide +kernel
theorem dX12_findBest_125 : decode cX12_findBest 125 = .ok (.iconst 5, 1) := by decide +kernel
theorem dX12_findBest_126 : decode cX12_findBest 126 = .ok (.goto 12, 3) := by decide +kernel
theorem dX12_findBest_129 : decode cX12_findBest 129 = .ok (.aload_n 0, 1) := by decide +kernel
theorem dX12_findBest_130 : decode cX12_findBest 130 = .ok (.getfield 58, 3) := by decide +kernel
theorem dX12_findBest_133 : decode cX12_findBest 133 = .ok (.iload 10, 2) := by decide +kernel
theorem dX12_findBest_135 : decode cX12_findBest 135 = .ok (.iconst 1, 1) := by decide +kernel
theorem dX12_findBest_136 : decode cX12_findBest 136 = .ok (.isub, 1) := by decide +kernel
theorem dX12_findBest_137 : decode cX12_findBest 137 = .ok (.iaload, 1) := by decide +kernel
theorem dX12_findBest_138 : decode cX12_findBest 138 = .ok (.imul, 1) := by decide +kernel
theorem dX12_findBest_139 : decode cX12_findBest 139 = .ok (.aload_n 0, 1) := by decide +kernel
theorem dX12_findBest_140 : decode cX12_findBest 140 = .ok (.getfield 58, 3) := by decide +kernel
theorem dX12_findBest_143 : decode cX12_findBest 143 = .ok (.iload 10, 2) := by decide +kernel
theorem dX12_findBest_145 : decode cX12_findBest 145 = .ok (.iaload, 1) := by decide +kernel
theorem dX12_findBest_146 : decode cX12_findBest 146 = .ok (.iadd, 1) := by decide +kernel
theorem dX12_findBest_147 : decode cX12_findBest 147 = .ok (.iaload, 1) := by decide +kernel
theorem dX12_findBest_148 : decode cX12_findBest 148 = .ok (.iadd, 1) := by decide +kernel
theorem dX12_findBest_149 : decode cX12_findBest 149 = .ok (.istore 9, 2) := by decide +kernel
theorem dX12_findBest_151 : decode cX12_findBest 151 = .ok (.iload 8, 2) := by decide +kernel
theorem dX12_findBest_153 : decode cX12_findBest 153 = .ok (.iload 9, 2) := by decide +kernel
theorem dX12_findBest_155 : decode cX12_findBest 155 = .ok (.aload_n 0, 1) := by decide +kernel
theorem dX12_findBest_156 : decode cX12_findBest 156 = .ok (.getfield 68, 3) := by decide +kernel
theorem dX12_findBest_159 : decode cX12_findBest 159 = .ok (.iconst 2, 1) := by decide +kernel
theorem dX12_findBest_160 : decode cX12_findBest 160 = .ok (.aload_n 0, 1) := by decide +kernel
theorem dX12_findBest_161 : decode cX12_findBest 161 = .ok (.getfield 58, 3) := by decide +kernel
theorem dX12_findBest_164 : decode cX12_findBest 164 = .ok (.iload 10, 2) := by decide +kernel
theorem dX12_findBest_166 : decode cX12_findBest 166 = .ok (.iaload, 1) := by decide +kernel
theorem dX12_findBest_167 : decode cX12_findBest 167 = .ok (.imul, 1) := by decide +kernel
theorem dX12_findBest_168 : decode cX12_findBest 168 = .ok (.iconst 1, 1) := by decide +kernel
theorem dX12_findBest_169 : decode cX12_findBest 169 = .ok (.iadd, 1) := by decide +kernel
theorem dX12_findBest_170 : decode cX12_findBest 170 = .ok (.iaload, 1) := by decide +kernel
theorem dX12_findBest_171 : decode cX12_findBest 171 = .ok (.imul, 1) := by decide +kernel
theorem dX12_findBest_172 : decode cX12_findBest 172 = .ok (.iadd, 1) := by decide +kernel
theorem dX12_findBest_173 : decode cX12_findBest 173 = .ok (.istore 8, 2) := by decide +kernel
theorem dX12_findBest_175 : decode cX12_findBest 175 = .ok (.iinc 10 1, 3) := by decide +kernel
theorem dX12_findBest_178 : decode cX12_findBest 178 = .ok (.goto (-71), 3) := by decide +kernel
theorem dX12_findBest_181 : decode cX12_findBest 181 = .ok (.iload 4, 2) := by decide +kernel
theorem dX12_findBest_183 : decode cX12_findBest 183 = .ok (.iconst (-1), 1) := by decide +kernel
theorem dX12_findBest_184 : decode cX12_findBest 184 = .ok (.if_icmp .eq 10, 3) := by decide +kernel
theorem dX12_findBest_187 : decode cX12_findBest 187 = .ok (.iload 8, 2) := by decide +kernel
theorem dX12_findBest_189 : decode cX12_findBest 189 = .ok (.iload 4, 2) := by decide +kernel
theorem dX12_findBest_191 : decode cX12_findBest 191 = .ok (.if_icmp .ge 13, 3) := by decide +kernel
theorem dX12_findBest_194 : decode cX12_findBest 194 = .ok (.iload 8, 2) := by decide +kernel
theorem dX12_findBest_196 : decode cX12_findBest 196 = .ok (.istore 4, 2) := by decide +kernel
theorem dX12_findBest_198 : decode cX12_findBest 198 = .ok (.aload_n 0, 1) := by decide +kernel
theorem dX12_findBest_199 : decode cX12_findBest 199 = .ok (.iload 5, 2) := by decide +kernel
theorem dX12_findBest_201 : decode cX12_findBest 201 = .ok (.putfield 290, 3) := by decide +kernel
theorem dX12_findBest_204 : decode cX12_findBest 204 = .ok (.iinc 5 1, 3) := by decide +kernel
theorem dX12_findBest_207 : decode cX12_findBest 207 = .ok (.goto (-175), 3) := by decide +kernel
theorem dX12_findBest_210 : decode cX12_findBest 210 = .ok (.iload 4, 2) := by decide +kernel
theorem dX12_findBest_212 : decode cX12_findBest 212 = .ok (.ireturn, 1) := by decide +kernel
theorem dX12_seekOf_0 : decode cX12_seekOf 0 = .ok (.aload_n 0, 1) := by decide +kernel
theorem dX12_seekOf_1 : decode cX12_seekOf 1 = .ok (.iload_n 1, 1) := by decide +kernel
theorem dX12_seekOf_2 : decode cX12_seekOf 2 = .ok (.invokevirtual 293, 3) := by decide +kernel
theorem dX12_seekOf_5 : decode cX12_seekOf 5 = .ok (.ifCond .ne 9, 3) := by decide +kernel
theorem dX12_seekOf_8 : decode cX12_seekOf 8 = .ok (.bipush (-3), 2) := by decide +kernel
theorem dX12_seekOf_10 : decode cX12_seekOf 10 = .ok (.invokestatic 232, 3) := by decide +kernel
theorem dX12_seekOf_13 : decode cX12_seekOf 13 = .ok (.lreturn, 1) := by decide +kernel
theorem dX12_seekOf_14 : decode cX12_seekOf 14 = .ok (.aload_n 0, 1) := by decide +kernel
theorem dX12_seekOf_15 : decode cX12_seekOf 15 = .ok (.iconst 1, 1) := by decide +kernel
theorem dX12_seekOf_16 : decode cX12_seekOf 16 = .ok (.aload_n 0, 1) := by decide +kernel
theorem dX12_seekOf_17 : decode cX12_seekOf 17 = .ok (.getfield 287, 3) := by decide +kernel
theorem dX12_seekOf_20 : decode cX12_seekOf 20 = .ok (.ishl, 1) := by decide +kernel
theorem dX12_seekOf_21 : decode cX12_seekOf 21 = .ok (.iconst 1, 1) := by decide +kernel
theorem dX12_seekOf_22 : decode cX12_seekOf 22 = .ok (.isub, 1) := by decide +kernel
theorem dX12_seekOf_23 : decode cX12_seekOf 23 = .ok (.invokevirtual 296, 3) := by decide +kernel
theorem dX12_seekOf_26 : decode cX12_seekOf 26 = .ok (.istore_n 3, 1) := by decide +kernel
theorem dX12_seekOf_27 : decode cX12_seekOf 27 = .ok (.iload_n 2, 1) := by decide +kernel
theorem dX12_seekOf_28 : decode cX12_seekOf 28 = .ok (.ifCond .ge 17, 3) := by decide +kernel
theorem dX12_seekOf_31 : decode cX12_seekOf 31 = .ok (.iload_n 3, 1) := by decide +kernel
theorem dX12_seekOf_32 : decode cX12_seekOf 32 = .ok (.i2l, 1) := by decide +kernel
theorem dX12_seekOf_33 : decode cX12_seekOf 33 = .ok (.aload_n 0, 1) := by decide +kernel
theorem dX12_seekOf_34 : decode cX12_seekOf 34 = .ok (.invokevirtual 299, 3) := by decide +kernel
theorem dX12_seekOf_37 : decode cX12_seekOf 37 = .ok (.i2l, 1) := by decide +kernel
theorem dX12_seekOf_38 : decode cX12_seekOf 38 = .ok (.iload_n 2, 1) := by decide +kernel
theorem dX12_seekOf_39 : decode cX12_seekOf 39 = .ok (.iconst 2, 1) := by decide +kernel
theorem dX12_seekOf_40 : decode cX12_seekOf 40 = .ok (.iadd, 1) := by decide +kernel
theorem dX12_seekOf_41 : decode cX12_seekOf 41 = .ok (.invokestatic 222, 3) := by decide +kernel
theorem dX12_seekOf_44 : decode cX12_seekOf 44 = .ok (.lreturn, 1) := by decide +kernel
theorem dX12_seekOf_45 : decode cX12_seekOf 45 = .ok (.aload_n 0, 1) := by decide +kernel
theorem dX12_seekOf_46 : decode cX12_seekOf 46 = .ok (.getfield 290, 3) := by decide +kernel
theorem dX12_seekOf_49 : decode cX12_seekOf 49 = .ok (.istore 4, 2) := by decide +kernel
theorem dX12_seekOf_51 : decode cX12_seekOf 51 = .ok (.aload_n 0, 1) := by decide +kernel
theorem dX12_seekOf_52 : decode cX12_seekOf 52 = .ok (.getfield 287, 3) := by decide +kernel
theorem dX12_seekOf_55 : decode cX12_seekOf 55 = .ok (.iconst 1, 1) := by decide +kernel
theorem dX12_seekOf_56 : decode cX12_seekOf 56 = .ok (.isub, 1) := by decide +kernel
theorem dX12_seekOf_57 : decode cX12_seekOf 57 = .ok (.istore 5, 2) := by decide +kernel
theorem dX12_seekOf_59 : decode cX12_seekOf 59 = .ok (.iload 5, 2) := by decide +kernel
theorem dX12_seekOf_61 : decode cX12_seekOf 61 = .ok (.iload_n 2, 1) := by decide +kernel
theorem dX12_seekOf_62 : decode cX12_seekOf 62 = .ok (.if_icmp .le 15, 3) := by decide +kernel
theorem dX12_seekOf_65 : decode cX12_seekOf 65 = .ok (.iload 4, 2) := by decide +kernel
theorem dX12_seekOf_67 : decode cX12_seekOf 67 = .ok (.iconst 5, 1) := by decide +kernel
theorem dX12_seekOf_68 : decode cX12_seekOf 68 = .ok (.idiv, 1) := by decide +kernel
theorem dX12_seekOf_69 : decode cX12_seekOf 69 = .ok (.istore 4, 2) := by decide +kernel
theorem dX12_seekOf_71 : decode cX12_seekOf 71 = .ok (.iinc 5 (-1), 3) := by decide +kernel
theorem dX12_seekOf_74 : decode cX12_seekOf 74 = .ok (.goto (-15), 3) := by decide +kernel
theorem dX12_seekOf_77 : decode cX12_seekOf 77 = .ok (.iload_n 2, 1) := by decide +kernel
theorem dX12_seekOf_78 : decode cX12_seekOf 78 = .ok (.aload_n 0, 1) := by decide +kernel
theorem dX12_seekOf_79 : decode cX12_seekOf 79 = .ok (.getfield 287, 3) := by decide +kernel
theorem dX12_seekOf_82 : decode cX12_seekOf 82 = .ok (.if_icmp .ge 11, 3) := by decide +kernel
theorem dX12_seekOf_85 : decode cX12_seekOf 85 = .ok (.iload 4, 2) := by decide +kernel
theorem dX12_seekOf_87 : decode cX12_seekOf 87 = .ok (.iconst 5, 1) := by decide +kernel
theorem dX12_seekOf_88 : decode cX12_seekOf 88 = .ok (.irem, 1) := by decide +kernel
theorem dX12_seekOf_89 : decode cX12_seekOf 89 = .ok (.i2l, 1) := by decide +kernel
theorem dX12_seekOf_90 : decode cX12_seekOf 90 = .ok (.goto 6, 3) := by decide +kernel
theorem dX12_seekOf_93 : decode cX12_seekOf 93 = .ok (.ldc2_w 215, 3) := by decide +kernel
theorem dX12_seekOf_96 : decode cX12_seekOf 96 = .ok (.lreturn, 1) := by decide +kernel
theorem dX12_seek_0 : decode cX12_seek 0 = .ok (.aload_n 0, 1) := by decide +kernel
theorem dX12_seek_1 : decode cX12_seek 1 = .ok (.invokevirtual 175, 3) := by decide +kernel
theorem dX12_seek_4 : decode cX12_seek 4 = .ok (.iload_n 1, 1) := by decide +kernel
theorem dX12_seek_5 : decode cX12_seek 5 = .ok (.invokestatic 162, 3) := by decide +kernel
theorem dX12_seek_8 : decode cX12_seek 8 = .ok (.ifCond .eq 26, 3) := by decide +kernel
theorem dX12_seek_11 : decode cX12_seek 11 = .ok (.iload_n 2, 1) := by decide +kernel
theorem dX12_seek_12 : decode cX12_seek 12 = .ok (.i2l, 1) := by decide +kernel
theorem dX12_seek_13 : decode cX12_seek 13 = .ok (.ldc2_w 302, 3) := by decide +kernel
theorem dX12_seek_16 : decode cX12_seek 16 = .ok (.ldc2_w 135, 3) := by decide +kernel
theorem dX12_seek_19 : decode cX12_seek 19 = .ok (.invokestatic 82, 3) := by decide +kernel
theorem dX12_seek_22 : decode cX12_seek 22 = .ok (.ifCond .eq 12, 3) := by decide +kernel
theorem dX12_seek_25 : decode cX12_seek 25 = .ok (.aload_n 0, 1) := by decide +kernel
theorem dX12_seek_26 : decode cX12_seek 26 = .ok (.iload_n 1, 1) := by decide +kernel
theorem dX12_seek_27 : decode cX12_seek 27 = .ok (.iload_n 2, 1) := by decide +kernel
theorem dX12_seek_28 : decode cX12_seek 28 = .ok (.invokevirtual 304, 3) := by decide +kernel
theorem dX12_seek_31 : decode cX12_seek 31 = .ok (.goto 8, 3) := by decide +kernel
theorem dX12_seek_34 : decode cX12_seek 34 = .ok (.bipush (-2), 2) := by decide +kernel
theorem dX12_seek_36 : decode cX12_seek 36 = .ok (.invokestatic 232, 3) := by decide +kernel
theorem dX12_seek_39 : decode cX12_seek 39 = .ok (.lreturn, 1) := by decide +kernel
theorem dX12_partedOf_0 : decode cX12_partedOf 0 = .ok (.aload_n 0, 1) := by decide +kernel
theorem dX12_partedOf_1 : decode cX12_partedOf 1 = .ok (.iload_n 2, 1) := by decide +kernel
theorem dX12_partedOf_2 : decode cX12_partedOf 2 = .ok (.invokevirtual 293, 3) := by decide +kernel
theorem dX12_partedOf_5 : decode cX12_partedOf 5 = .ok (.ifCond .eq 11, 3) := by decide +kernel
theorem dX12_partedOf_8 : decode cX12_partedOf 8 = .ok (.aload_n 0, 1) := by decide +kernel
theorem dX12_partedOf_9 : decode cX12_partedOf 9 = .ok (.iload_n 1, 1) := by decide +kernel
theorem dX12_partedOf_10 : decode cX12_partedOf 10 = .ok (.invokevirtual 293, 3) := by decide +kernel
theorem dX12_partedOf_13 : decode cX12_partedOf 13 = .ok (.ifCond .ne 9, 3) := by decide +kernel
theorem dX12_partedOf_16 : decode cX12_partedOf 16 = .ok (.bipush (-3), 2) := by decide +kernel
theorem dX12_partedOf_18 : decode cX12_partedOf 18 = .ok (.invokestatic 232, 3) := by decide +kernel
theorem dX12_partedOf_21 : decode cX12_partedOf 21 = .ok (.lreturn, 1) := by decide +kernel
theorem dX12_partedOf_22 : decode cX12_partedOf 22 = .ok (.iconst 1, 1) := by decide +kernel
theorem dX12_partedOf_23 : decode cX12_partedOf 23 = .ok (.aload_n 0, 1) := by decide +kernel
theorem dX12_partedOf_24 : decode cX12_partedOf 24 = .ok (.getfield 287, 3) := by decide +kernel
theorem dX12_partedOf_27 : decode cX12_partedOf 27 = .ok (.ishl, 1) := by decide +kernel
theorem dX12_partedOf_28 : decode cX12_partedOf 28 = .ok (.iconst 1, 1) := by decide +kernel
theorem dX12_partedOf_29 : decode cX12_partedOf 29 = .ok (.isub, 1) := by decide +kernel
theorem dX12_partedOf_30 : decode cX12_partedOf 30 = .ok (.istore 4, 2) := by decide +kernel
theorem dX12_partedOf_32 : decode cX12_partedOf 32 = .ok (.iconst 0, 1) := by decide +kernel
theorem dX12_partedOf_33 : decode cX12_partedOf 33 = .ok (.istore 5, 2) := by decide +kernel
theorem dX12_partedOf_35 : decode cX12_partedOf 35 = .ok (.iload 5, 2) := by decide +kernel
theorem dX12_partedOf_37 : decode cX12_partedOf 37 = .ok (.iload 4, 2) := by decide +kernel
theorem dX12_partedOf_39 : decode cX12_partedOf 39 = .ok (.if_icmp .gt 22, 3) := by decide +kernel
theorem dX12_partedOf_42 : decode cX12_partedOf 42 = .ok (.aload_n 0, 1) := by decide +kernel
theorem dX12_partedOf_43 : decode cX12_partedOf 43 = .ok (.getfield 77, 3) := by decide +kernel
theorem dX12_partedOf_46 : decode cX12_partedOf 46 = .ok (.iload 5, 2) := by decide +kernel
theorem dX12_partedOf_48 : decode cX12_partedOf 48 = .ok (.aload_n 0, 1) := by decide +kernel
theorem dX12_partedOf_49 : decode cX12_partedOf 49 = .ok (.iload 5, 2) := by decide +kernel
theorem dX12_partedOf_51 : decode cX12_partedOf 51 = .ok (.invokevirtual 296, 3) := by decide +kernel
theorem dX12_partedOf_54 : decode cX12_partedOf 54 = .ok (.iastore, 1) := by decide +kernel
theorem dX12_partedOf_55 : decode cX12_partedOf 55 = .ok (.iinc 5 1, 3) := by decide +kernel
theorem dX12_partedOf_58 : decode cX12_partedOf 58 = .ok (.goto (-23), 3) := by decide +kernel
theorem dX12_partedOf_61 : decode cX12_partedOf 61 = .ok (.aload_n 0, 1) := by decide +kernel
theorem dX12_partedOf_62 : decode cX12_partedOf 62 = .ok (.iload_n 2, 1) := by decide +kernel
theorem dX12_partedOf_63 : decode cX12_partedOf 63 = .ok (.invokevirtual 293, 3) := by decide +kernel
theorem dX12_partedOf_66 : decode cX12_partedOf 66 = .ok (.pop, 1) := by decide +kernel
theorem dX12_partedOf_67 : decode cX12_partedOf 67 = .ok (.iconst (-1), 1) := by decide +kernel
theorem dX12_partedOf_68 : decode cX12_partedOf 68 = .ok (.istore 5, 2) := by decide +kernel
theorem dX12_partedOf_70 : decode cX12_partedOf 70 = .ok (.iconst 0, 1) := by decide +kernel
theorem dX12_partedOf_71 : decode cX12_partedOf 71 = .ok (.istore 6, 2) := by decide +kernel
theorem dX12_partedOf_73 : decode cX12_partedOf 73 = .ok (.iconst 0, 1) := by decide +kernel
theorem dX12_partedOf_74 : decode cX12_partedOf 74 = .ok (.istore 7, 2) := by decide +kernel
theorem dX12_partedOf_76 : decode cX12_partedOf 76 = .ok (.iload 7, 2) := by decide +kernel
theorem dX12_partedOf_78 : decode cX12_partedOf 78 = .ok (.iload 4, 2) := by decide +kernel
theorem dX12_partedOf_80 : decode cX12_partedOf 80 = .ok (.if_icmp .gt 51, 3) := by decide +kernel
theorem dX12_partedOf_83 : decode cX12_partedOf 83 = .ok (.aload_n 0, 1) := by decide +kernel
theorem dX12_partedOf_84 : decode cX12_partedOf 84 = .ok (.getfield 77, 3) := by decide +kernel
theorem dX12_partedOf_87 : decode cX12_partedOf 87 = .ok (.iload 7, 2) := by decide +kernel
theorem dX12_partedOf_89 : decode cX12_partedOf 89 = .ok (.iaload, 1) := by decide +kernel
theorem dX12_partedOf_90 : decode cX12_partedOf 90 = .ok (.aload_n 0, 1) := by decide +kernel
theorem dX12_partedOf_91 : decode cX12_partedOf 91 = .ok (.iload 4, 2) := by decide +kernel
theorem dX12_partedOf_93 : decode cX12_partedOf 93 = .ok (.iload 7, 2) := by decide +kernel
theorem dX12_partedOf_95 : decode cX12_partedOf 95 = .ok (.iconst (-1), 1) := by decide +kernel
theorem dX12_partedOf_96 : decode cX12_partedOf 96 = .ok (.ixor, 1) := by decide +kernel
theorem dX12_partedOf_97 : decode cX12_partedOf 97 = .ok (.iand, 1) := by decide +kernel
theorem dX12_partedOf_98 : decode cX12_partedOf 98 = .ok (.invokevirtual 296, 3) := by decide +kernel
theorem dX12_partedOf_101 : decode cX12_partedOf 101 = .ok (.iadd, 1) := by decide +kernel
theorem dX12_partedOf_102 : decode cX12_partedOf 102 = .ok (.istore 8, 2) := by decide +kernel
theorem dX12_partedOf_104 : decode cX12_partedOf 104 = .ok (.iload 5, 2) := by decide +kernel
theorem dX12_partedOf_106 : decode cX12_partedOf 106 = .ok (.iconst (-1), 1) := by decide +kernel
theorem dX12_partedOf_107 : decode cX12_partedOf 107 = .ok (.if_icmp .eq 10, 3) := by decide +kernel
theorem dX12_partedOf_110 : decode cX12_partedOf 110 = .ok (.iload 8, 2) := by decide +kernel
theorem dX12_partedOf_112 : decode cX12_partedOf 112 = .ok (.iload 6, 2) := by decide +kernel
theorem dX12_partedOf_114 : decode cX12_partedOf 114 = .ok (.if_icmp .ge 11, 3) := by decide +kernel
theorem dX12_partedOf_117 : decode cX12_partedOf 117 = .ok (.iload 7, 2) := by decide +kernel
theorem dX12_partedOf_119 : decode cX12_partedOf 119 = .ok (.istore 5, 2) := by decide +kernel
theorem dX12_partedOf_121 : decode cX12_partedOf 121 = .ok (.iload 8, 2) := by decide +kernel
theorem dX12_partedOf_123 : decode cX12_partedOf 123 = .ok (.istore 6, 2) := by decide +kernel
theorem dX12_partedOf_125 : decode cX12_partedOf 125 = .ok (.iinc 7 1, 3) := by decide +kernel
theorem dX12_partedOf_128 : decode cX12_partedOf 128 = .ok (.goto (-52), 3) := by decide +kernel
theorem dX12_partedOf_131 : decode cX12_partedOf 131 = .ok (.iload_n 3, 1) := by decide +kernel
theorem dX12_partedOf_132 : decode cX12_partedOf 132 = .ok (.iconst 2, 1) := by decide +kernel
theorem dX12_partedOf_133 : decode cX12_partedOf 133 = .ok (.if_icmp .ne 9, 3) := by decide +kernel
theorem dX12_partedOf_136 : decode cX12_partedOf 136 = .ok (.iload 5, 2) := by decide +kernel
theorem dX12_partedOf_138 : decode cX12_partedOf 138 = .ok (.i2l, 1) := by decide +kernel
theorem dX12_partedOf_139 : decode cX12_partedOf 139 = .ok (.goto 15, 3) := by decide +kernel
theorem dX12_partedOf_142 : decode cX12_partedOf 142 = .ok (.iload 6, 2) := by decide +kernel
theorem dX12_partedOf_144 : decode cX12_partedOf 144 = .ok (.i2l, 1) := by decide +kernel
theorem dX12_partedOf_145 : decode cX12_partedOf 145 = .ok (.aload_n 0, 1) := by decide +kernel
theorem dX12_partedOf_146 : decode cX12_partedOf 146 = .ok (.invokevirtual 299, 3) := by decide +kernel
theorem dX12_partedOf_149 : decode cX12_partedOf 149 = .ok (.i2l, 1) := by decide +kernel
theorem dX12_partedOf_150 : decode cX12_partedOf 150 = .ok (.iload_n 3, 1) := by decide +kernel
theorem dX12_partedOf_151 : decode cX12_partedOf 151 = .ok (.invokestatic 222, 3) := by decide +kernel
theorem dX12_partedOf_154 : decode cX12_partedOf 154 = .ok (.lreturn, 1) := by decide +kernel
theorem dX12_parted_0 : decode cX12_parted 0 = .ok (.aload_n 0, 1) := by decide +kernel
theorem dX12_parted_1 : decode cX12_parted 1 = .ok (.invokevirtual 175, 3) := by decide +kernel
theorem dX12_parted_4 : decode cX12_parted 4 = .ok (.iload_n 1, 1) := by decide +kernel
theorem dX12_parted_5 : decode cX12_parted 5 = .ok (.invokestatic 162, 3) := by decide +kernel
theorem dX12_parted_8 : decode cX12_parted 8 = .ok (.ifCond .eq 37, 3) := by decide +kernel
theorem dX12_parted_11 : decode cX12_parted 11 = .ok (.iload_n 2, 1) := by decide +kernel
theorem dX12_parted_12 : decode cX12_parted 12 = .ok (.invokestatic 162, 3) := by decide +kernel
theorem dX12_parted_15 : decode cX12_parted 15 = .ok (.ifCond .eq 30, 3) := by decide +kernel
theorem dX12_parted_18 : decode cX12_parted 18 = .ok (.iload_n 1, 1) := by decide +kernel
theorem dX12_parted_19 : decode cX12_parted 19 = .ok (.iload_n 2, 1) := by decide +kernel
theorem dX12_parted_20 : decode cX12_parted 20 = .ok (.if_icmp .eq 25, 3) := by decide +kernel
theorem dX12_parted_23 : decode cX12_parted 23 = .ok (.iload_n 3, 1) := by decide +kernel
theorem dX12_parted_24 : decode cX12_parted 24 = .ok (.i2l, 1) := by decide +kernel
theorem dX12_parted_25 : decode cX12_parted 25 = .ok (.lconst 0, 1) := by decide +kernel
theorem dX12_parted_26 : decode cX12_parted 26 = .ok (.ldc2_w 96, 3) := by decide +kernel
theorem dX12_parted_29 : decode cX12_parted 29 = .ok (.invokestatic 82, 3) := by decide +kernel
theorem dX12_parted_32 : decode cX12_parted 32 = .ok (.ifCond .eq 13, 3) := by decide +kernel
theorem dX12_parted_35 : decode cX12_parted 35 = .ok (.aload_n 0, 1) := by decide +kernel
theorem dX12_parted_36 : decode cX12_parted 36 = .ok (.iload_n 1, 1) := by decide +kernel
theorem dX12_parted_37 : decode cX12_parted 37 = .ok (.iload_n 2, 1) := by decide +kernel
theorem dX12_parted_38 : decode cX12_parted 38 = .ok (.iload_n 3, 1) := by decide +kernel
theorem dX12_parted_39 : decode cX12_parted 39 = .ok (.invokevirtual 307, 3) := by decide +kernel
theorem dX12_parted_42 : decode cX12_parted 42 = .ok (.goto 8, 3) := by decide +kernel
theorem dX12_parted_45 : decode cX12_parted 45 = .ok (.bipush (-2), 2) := by decide +kernel
theorem dX12_parted_47 : decode cX12_parted 47 = .ok (.invokestatic 232, 3) := by decide +kernel
theorem dX12_parted_50 : decode cX12_parted 50 = .ok (.lreturn, 1) := by decide +kernel
theorem dX12_meetOf_0 : decode cX12_meetOf 0 = .ok (.iconst (-1), 1) := by decide +kernel
theorem dX12_meetOf_1 : decode cX12_meetOf 1 = .ok (.istore_n 3, 1) := by decide +kernel
theorem dX12_meetOf_2 : decode cX12_meetOf 2 = .ok (.ldc 187, 2) := by decide +kernel
theorem dX12_meetOf_4 : decode cX12_meetOf 4 = .ok (.istore 4, 2) := by decide +kernel
theorem dX12_meetOf_6 : decode cX12_meetOf 6 = .ok (.iconst 0, 1) := by decide +kernel
theorem dX12_meetOf_7 : decode cX12_meetOf 7 = .ok (.istore 5, 2) := by decide +kernel
theorem dX12_meetOf_9 : decode cX12_meetOf 9 = .ok (.iload 5, 2) := by decide +kernel
theorem dX12_meetOf_11 : decode cX12_meetOf 11 = .ok (.bipush 64, 2) := by decide +kernel
theorem dX12_meetOf_13 : decode cX12_meetOf 13 = .ok (.if_icmp .ge 138, 3) := by decide +kernel
theorem dX12_meetOf_16 : decode cX12_meetOf 16 = .ok (.aload_n 0, 1) := by decide +kernel
theorem dX12_meetOf_17 : decode cX12_meetOf 17 = .ok (.getfield 28, 3) := by decide +kernel
theorem dX12_meetOf_20 : decode cX12_meetOf 20 = .ok (.iload 5, 2) := by decide +kernel
theorem dX12_meetOf_22 : decode cX12_meetOf 22 = .ok (.iaload, 1) := by decide +kernel
theorem dX12_meetOf_23 : decode cX12_meetOf 23 = .ok (.bipush 99, 2) := by decide +kernel
theorem dX12_meetOf_25 : decode cX12_meetOf 25 = .ok (.if_icmp .eq 120, 3) := by decide +kernel
theorem dX12_meetOf_28 : decode cX12_meetOf 28 = .ok (.aload_n 0, 1) := by decide +kernel
theorem dX12_meetOf_29 : decode cX12_meetOf 29 = .ok (.iload 5, 2) := by decide +kernel
theorem dX12_meetOf_31 : decode cX12_meetOf 31 = .ok (.iconst 0, 1) := by decide +kernel
theorem dX12_meetOf_32 : decode cX12_meetOf 32 = .ok (.invokevirtual 188, 3) := by decide +kernel
theorem dX12_meetOf_35 : decode cX12_meetOf 35 = .ok (.iconst 0, 1) := by decide +kernel
theorem dX12_meetOf_36 : decode cX12_meetOf 36 = .ok (.istore 6, 2) := by decide +kernel
theorem dX12_meetOf_38 : decode cX12_meetOf 38 = .ok (.iconst 0, 1) := by decide +kernel
theorem dX12_meetOf_39 : decode cX12_meetOf 39 = .ok (.istore 7, 2) := by decide +kernel
theorem dX12_meetOf_41 : decode cX12_meetOf 41 = .ok (.iload 7, 2) := by decide +kernel
theorem dX12_meetOf_43 : decode cX12_meetOf 43 = .ok (.iconst 5, 1) := by decide +kernel
theorem dX12_meetOf_44 : decode cX12_meetOf 44 = .ok (.if_icmp .ge 71, 3) := by decide +kernel
theorem dX12_meetOf_47 : decode cX12_meetOf 47 = .ok (.iload_n 1, 1) := by decide +kernel
theorem dX12_meetOf_48 : decode cX12_meetOf 48 = .ok (.iload 7, 2) := by decide +kernel
theorem dX12_meetOf_50 : decode cX12_meetOf 50 = .ok (.invokestatic 137, 3) := by decide +kernel
theorem dX12_meetOf_53 : decode cX12_meetOf 53 = .ok (.ifCond .ne 7, 3) := by decide +kernel
theorem dX12_meetOf_56 : decode cX12_meetOf 56 = .ok (.iconst 0, 1) := by decide +kernel
theorem dX12_meetOf_57 : decode cX12_meetOf 57 = .ok (.goto 34, 3) := by decide +kernel
theorem dX12_meetOf_60 : decode cX12_meetOf 60 = .ok (.aload_n 0, 1) := by decide +kernel
theorem dX12_meetOf_61 : decode cX12_meetOf 61 = .ok (.aload_n 0, 1) := by decide +kernel
theorem dX12_meetOf_62 : decode cX12_meetOf 62 = .ok (.getfield 46, 3) := by decide +kernel
theorem dX12_meetOf_65 : decode cX12_meetOf 65 = .ok (.iload 7, 2) := by decide +kernel
theorem dX12_meetOf_67 : decode cX12_meetOf 67 = .ok (.iaload, 1) := by decide +kernel
theorem dX12_meetOf_68 : decode cX12_meetOf 68 = .ok (.invokevirtual 178, 3) := by decide +kernel
theorem dX12_meetOf_71 : decode cX12_meetOf 71 = .ok (.ifCond .eq 18, 3) := by decide +kernel
theorem dX12_meetOf_74 : decode cX12_meetOf 74 = .ok (.aload_n 0, 1) := by decide +kernel
theorem dX12_meetOf_75 : decode cX12_meetOf 75 = .ok (.getfield 52, 3) := by decide +kernel
theorem dX12_meetOf_78 : decode cX12_meetOf 78 = .ok (.aload_n 0, 1) := by decide +kernel
theorem dX12_meetOf_79 : decode cX12_meetOf 79 = .ok (.getfield 46, 3) := by decide +kernel
theorem dX12_meetOf_82 : decode cX12_meetOf 82 = .ok (.iload 7, 2) := by decide +kernel
theorem dX12_meetOf_84 : decode cX12_meetOf 84 = .ok (.iaload, 1) := by decide +kernel
theorem dX12_meetOf_85 : decode cX12_meetOf 85 = .ok (.iaload, 1) := by decide +kernel
theorem dX12_meetOf_86 : decode cX12_meetOf 86 = .ok (.goto 5, 3) := by decide +kernel
theorem dX12_meetOf_89 : decode cX12_meetOf 89 = .ok (.ldc 187, 2) := by decide +kernel
theorem dX12_meetOf_91 : decode cX12_meetOf 91 = .ok (.istore 8, 2) := by decide +kernel
theorem dX12_meetOf_93 : decode cX12_meetOf 93 = .ok (.iload 8, 2) := by decide +kernel
theorem dX12_meetOf_95 : decode cX12_meetOf 95 = .ok (.iload 6, 2) := by decide +kernel
theorem dX12_meetOf_97 : decode cX12_meetOf 97 = .ok (.if_icmp .le 8, 3) := by decide +kernel
theorem dX12_meetOf_100 : decode cX12_meetOf 100 = .ok (.iload 8, 2) := by decide +kernel
theorem dX12_meetOf_102 : decode cX12_meetOf 102 = .ok (.goto 5, 3) := by decide +kernel
theorem dX12_meetOf_105 : decode cX12_meetOf 105 = .ok (.iload 6, 2) := by decide +kernel
theorem dX12_meetOf_107 : decode cX12_meetOf 107 = .ok (.istore 6, 2) := by decide +kernel
theorem dX12_meetOf_109 : decode cX12_meetOf 109 = .ok (.iinc 7 1, 3) := by decide +kernel
theorem dX12_meetOf_112 : decode cX12_meetOf 112 = .ok (.goto (-71), 3) := by decide +kernel
theorem dX12_meetOf_115 : decode cX12_meetOf 115 = .ok (.iload 6, 2) := by decide +kernel
theorem dX12_meetOf_117 : decode cX12_meetOf 117 = .ok (.iload 4, 2) := by decide +kernel
theorem dX12_meetOf_119 : decode cX12_meetOf 119 = .ok (.if_icmp .ge 8, 3) := by decide +kernel
theorem dX12_meetOf_122 : decode cX12_meetOf 122 = .ok (.iload 5, 2) := by decide +kernel
theorem dX12_meetOf_124 : decode cX12_meetOf 124 = .ok (.goto 4, 3) := by decide +kernel
theorem dX12_meetOf_127 : decode cX12_meetOf 127 = .ok (.iload_n 3, 1) := by decide +kernel
theorem dX12_meetOf_128 : decode cX12_meetOf 128 = .ok (.istore_n 3, 1) := by decide +kernel
theorem dX12_meetOf_129 : decode cX12_meetOf 129 = .ok (.iload 6, 2) := by decide +kernel
theorem dX12_meetOf_131 : decode cX12_meetOf 131 = .ok (.iload 4, 2) := by decide +kernel
theorem dX12_meetOf_133 : decode cX12_meetOf 133 = .ok (.if_icmp .ge 8, 3) := by decide +kernel
theorem dX12_meetOf_136 : decode cX12_meetOf 136 = .ok (.iload 6, 2) := by decide +kernel
theorem dX12_meetOf_138 : decode cX12_meetOf 138 = .ok (.goto 5, 3) := by decide +kernel
theorem dX12_meetOf_141 : decode cX12_meetOf 141 = .ok (.iload 4, 2) := by decide +kernel
theorem dX12_meetOf_143 : decode cX12_meetOf 143 = .ok (.istore 4, 2) := by decide +kernel
theorem dX12_meetOf_145 : decode cX12_meetOf 145 = .ok (.iinc 5 1, 3) := by decide +kernel
theorem dX12_meetOf_148 : decode cX12_meetOf 148 = .ok (.goto (-139), 3) := by decide +kernel
theorem dX12_meetOf_151 : decode cX12_meetOf 151 = .ok (.iload_n 2, 1) := by decide +kernel
theorem dX12_meetOf_152 : decode cX12_meetOf 152 = .ok (.ifCond .eq 8, 3) := by decide +kernel
theorem dX12_meetOf_155 : decode cX12_meetOf 155 = .ok (.iload_n 3, 1) := by decide +kernel
theorem dX12_meetOf_156 : decode cX12_meetOf 156 = .ok (.iconst (-1), 1) := by decide +kernel
theorem dX12_meetOf_157 : decode cX12_meetOf 157 = .ok (.if_icmp .ne 7, 3) := by decide +kernel
theorem dX12_meetOf_160 : decode cX12_meetOf 160 = .ok (.iload_n 3, 1) := by decide +kernel
theorem dX12_meetOf_161 : decode cX12_meetOf 161 = .ok (.goto 5, 3) := by decide +kernel
theorem dX12_meetOf_164 : decode cX12_meetOf 164 = .ok (.iload 4, 2) := by decide +kernel
theorem dX12_meetOf_166 : decode cX12_meetOf 166 = .ok (.ireturn, 1) := by decide +kernel
theorem dX12_meet_0 : decode cX12_meet 0 = .ok (.aload_n 0, 1) := by decide +kernel
theorem dX12_meet_1 : decode cX12_meet 1 = .ok (.invokevirtual 175, 3) := by decide +kernel
theorem dX12_meet_4 : decode cX12_meet 4 = .ok (.iload_n 1, 1) := by decide +kernel
theorem dX12_meet_5 : decode cX12_meet 5 = .ok (.i2l, 1) := by decide +kernel
theorem dX12_meet_6 : decode cX12_meet 6 = .ok (.lconst 1, 1) := by decide +kernel
theorem dX12_meet_7 : decode cX12_meet 7 = .ok (.ldc2_w 213, 3) := by decide +kernel
theorem dX12_meet_10 : decode cX12_meet 10 = .ok (.invokestatic 82, 3) := by decide +kernel
theorem dX12_meet_13 : decode cX12_meet 13 = .ok (.ifCond .eq 19, 3) := by decide +kernel
theorem dX12_meet_16 : decode cX12_meet 16 = .ok (.iload_n 2, 1) := by decide +kernel
theorem dX12_meet_17 : decode cX12_meet 17 = .ok (.invokestatic 167, 3) := by decide +kernel
theorem dX12_meet_20 : decode cX12_meet 20 = .ok (.ifCond .eq 12, 3) := by decide +kernel
theorem dX12_meet_23 : decode cX12_meet 23 = .ok (.aload_n 0, 1) := by decide +kernel
theorem dX12_meet_24 : decode cX12_meet 24 = .ok (.iload_n 1, 1) := by decide +kernel
theorem dX12_meet_25 : decode cX12_meet 25 = .ok (.iload_n 2, 1) := by decide +kernel
theorem dX12_meet_26 : decode cX12_meet 26 = .ok (.invokevirtual 311, 3) := by decide +kernel
theorem dX12_meet_29 : decode cX12_meet 29 = .ok (.goto 5, 3) := by decide +kernel
theorem dX12_meet_32 : decode cX12_meet 32 = .ok (.bipush (-2), 2) := by decide +kernel
theorem dX12_meet_34 : decode cX12_meet 34 = .ok (.ireturn, 1) := by decide +kernel
theorem dX12_countsOf_0 : decode cX12_countsOf 0 = .ok (.iconst 1, 1) := by decide +kernel
theorem dX12_countsOf_1 : decode cX12_countsOf 1 = .ok (.istore_n 3, 1) := by decide +kernel
theorem dX12_countsOf_2 : decode cX12_countsOf 2 = .ok (.iconst 0, 1) := by decide +kernel
theorem dX12_countsOf_3 : decode cX12_countsOf 3 = .ok (.istore 4, 2) := by decide +kernel
theorem dX12_countsOf_5 : decode cX12_countsOf 5 = .ok (.iconst 1, 1) := by decide +kernel
theorem dX12_countsOf_6 : decode cX12_countsOf 6 = .ok (.istore 5, 2) := by decide +kernel
theorem dX12_countsOf_8 : decode cX12_countsOf 8 = .ok (.iload 5, 2) := by decide +kernel
theorem dX12_countsOf_10 : decode cX12_countsOf 10 = .ok (.bipush 61, 2) := by decide +kernel
theorem dX12_countsOf_12 : decode cX12_countsOf 12 = .ok (.if_icmp .ge 64, 3) := by decide +kernel
theorem dX12_countsOf_15 : decode cX12_countsOf 15 = .ok (.iload_n 1, 1) := by decide +kernel
theorem dX12_countsOf_16 : decode cX12_countsOf 16 = .ok (.iload_n 0, 1) := by decide +kernel
theorem dX12_countsOf_17 : decode cX12_countsOf 17 = .ok (.iload 5, 2) := by decide +kernel
theorem dX12_countsOf_19 : decode cX12_countsOf 19 = .ok (.iadd, 1) := by decide +kernel
theorem dX12_countsOf_20 : decode cX12_countsOf 20 = .ok (.iconst 1, 1) := by decide +kernel
theorem dX12_countsOf_21 : decode cX12_countsOf 21 = .ok (.isub, 1) := by decide +kernel
theorem dX12_countsOf_22 : decode cX12_countsOf 22 = .ok (.iload 5, 2) := by decide +kernel
theorem dX12_countsOf_24 : decode cX12_countsOf 24 = .ok (.idiv, 1) := by decide +kernel
theorem dX12_countsOf_25 : decode cX12_countsOf 25 = .ok (.imul, 1) := by decide +kernel
theorem dX12_countsOf_26 : decode cX12_countsOf 26 = .ok (.iload_n 2, 1) := by decide +kernel
theorem dX12_countsOf_27 : decode cX12_countsOf 27 = .ok (.iload 5, 2) := by decide +kernel
theorem dX12_countsOf_29 : decode cX12_countsOf 29 = .ok (.iconst 1, 1) := by decide +kernel
theorem dX12_countsOf_30 : decode cX12_countsOf 30 = .ok (.isub, 1) := by decide +kernel
theorem dX12_countsOf_31 : decode cX12_countsOf 31 = .ok (.imul, 1) := by decide +kernel
theorem dX12_countsOf_32 : decode cX12_countsOf 32 = .ok (.iadd, 1) := by decide +kernel
theorem dX12_countsOf_33 : decode cX12_countsOf 33 = .ok (.istore 6, 2) := by decide +kernel
theorem dX12_countsOf_35 : decode cX12_countsOf 35 = .ok (.iload 5, 2) := by decide +kernel
theorem dX12_countsOf_37 : decode cX12_countsOf 37 = .ok (.iconst 1, 1) := by decide +kernel
theorem dX12_countsOf_38 : decode cX12_countsOf 38 = .ok (.if_icmp .eq 10, 3) := by decide +kernel
theorem dX12_countsOf_41 : decode cX12_countsOf 41 = .ok (.iload 6, 2) := by decide +kernel
theorem dX12_countsOf_43 : decode cX12_countsOf 43 = .ok (.iload 4, 2) := by decide +kernel
theorem dX12_countsOf_45 : decode cX12_countsOf 45 = .ok (.if_icmp .ge 8, 3) := by decide +kernel
theorem dX12_countsOf_48 : decode cX12_countsOf 48 = .ok (.iload 5, 2) := by decide +kernel
theorem dX12_countsOf_50 : decode cX12_countsOf 50 = .ok (.goto 4, 3) := by decide +kernel
theorem dX12_countsOf_53 : decode cX12_countsOf 53 = .ok (.iload_n 3, 1) := by decide +kernel
theorem dX12_countsOf_54 : decode cX12_countsOf 54 = .ok (.istore_n 3, 1) := by decide +kernel
theorem dX12_countsOf_55 : decode cX12_countsOf 55 = .ok (.iload_n 3, 1) := by decide +kernel
theorem dX12_countsOf_56 : decode cX12_countsOf 56 = .ok (.iload 5, 2) := by decide +kernel
theorem dX12_countsOf_58 : decode cX12_countsOf 58 = .ok (.if_icmp .ne 8, 3) := by decide +kernel
theorem dX12_countsOf_61 : decode cX12_countsOf 61 = .ok (.iload 6, 2) := by decide +kernel
theorem dX12_countsOf_63 : decode cX12_countsOf 63 = .ok (.goto 5, 3) := by decide +kernel
theorem dX12_countsOf_66 : decode cX12_countsOf 66 = .ok (.iload 4, 2) := by decide +kernel
theorem dX12_countsOf_68 : decode cX12_countsOf 68 = .ok (.istore 4, 2) := by decide +kernel
theorem dX12_countsOf_70 : decode cX12_countsOf 70 = .ok (.iinc 5 1, 3) := by decide +kernel
theorem dX12_countsOf_73 : decode cX12_countsOf 73 = .ok (.goto (-65), 3) := by decide +kernel
theorem dX12_countsOf_76 : decode cX12_countsOf 76 = .ok (.iload_n 3, 1) := by decide +kernel
theorem dX12_countsOf_77 : decode cX12_countsOf 77 = .ok (.ireturn, 1) := by decide +kernel
theorem dX12_counts_0 : decode cX12_counts 0 = .ok (.iload_n 1, 1) := by decide +kernel
theorem dX12_counts_1 : decode cX12_counts 1 = .ok (.i2l, 1) := by decide +kernel
theorem dX12_counts_2 : decode cX12_counts 2 = .ok (.lconst 1, 1) := by decide +kernel
theorem dX12_counts_3 : decode cX12_counts 3 = .ok (.ldc2_w 314, 3) := by decide +kernel
theorem dX12_counts_6 : decode cX12_counts 6 = .ok (.invokestatic 82, 3) := by decide +kernel
theorem dX12_counts_9 : decode cX12_counts 9 = .ok (.ifCond .eq 36, 3) := by decide +kernel
theorem dX12_counts_12 : decode cX12_counts 12 = .ok (.iload_n 2, 1) := by decide +kernel
theorem dX12_counts_13 : decode cX12_counts 13 = .ok (.i2l, 1) := by decide +kernel
theorem dX12_counts_14 : decode cX12_counts 14 = .ok (.lconst 0, 1) := by decide +kernel
theorem dX12_counts_15 : decode cX12_counts 15 = .ok (.ldc2_w 314, 3) := by decide +kernel
theorem dX12_counts_18 : decode cX12_counts 18 = .ok (.invokestatic 82, 3) := by decide +kernel
theorem dX12_counts_21 : decode cX12_counts 21 = .ok (.ifCond .eq 24, 3) := by decide +kernel
theorem dX12_counts_24 : decode cX12_counts 24 = .ok (.iload_n 3, 1) := by decide +kernel
theorem dX12_counts_25 : decode cX12_counts 25 = .ok (.i2l, 1) := by decide +kernel
theorem dX12_counts_26 : decode cX12_counts 26 = .ok (.lconst 0, 1) := by decide +kernel
theorem dX12_counts_27 : decode cX12_counts 27 = .ok (.ldc2_w 314, 3) := by decide +kernel
theorem dX12_counts_30 : decode cX12_counts 30 = .ok (.invokestatic 82, 3) := by decide +kernel
theorem dX12_counts_33 : decode cX12_counts 33 = .ok (.ifCond .eq 12, 3) := by decide +kernel
theorem dX12_counts_36 : decode cX12_counts 36 = .ok (.iload_n 1, 1) := by decide +kernel
theorem dX12_counts_37 : decode cX12_counts 37 = .ok (.iload_n 2, 1) := by decide +kernel
theorem dX12_counts_38 : decode cX12_counts 38 = .ok (.iload_n 3, 1) := by decide +kernel
theorem dX12_counts_39 : decode cX12_counts 39 = .ok (.invokestatic 316, 3) := by decide +kernel
theorem dX12_counts_42 : decode cX12_counts 42 = .ok (.goto 5, 3) := by decide +kernel
theorem dX12_counts_45 : decode cX12_counts 45 = .ok (.bipush (-2), 2) := by decide +kernel
theorem dX12_counts_47 : decode cX12_counts 47 = .ok (.ireturn, 1) := by decide +kernel
theorem dX12_write_0 : decode cX12_write 0 = .ok (.aload_n 0, 1) := by decide +kernel
theorem dX12_write_1 : decode cX12_write 1 = .ok (.invokevirtual 175, 3) := by decide +kernel
theorem dX12_write_4 : decode cX12_write 4 = .ok (.aload_n 0, 1) := by decide +kernel
theorem dX12_write_5 : decode cX12_write 5 = .ok (.iload_n 1, 1) := by decide +kernel
theorem dX12_write_6 : decode cX12_write 6 = .ok (.invokevirtual 178, 3) := by decide +kernel
theorem dX12_write_9 : decode cX12_write 9 = .ok (.ifCond .eq 10, 3) := by decide +kernel
theorem dX12_write_12 : decode cX12_write 12 = .ok (.iload_n 2, 1) := by decide +kernel
theorem dX12_write_13 : decode cX12_write 13 = .ok (.invokestatic 92, 3) := by decide +kernel
theorem dX12_write_16 : decode cX12_write 16 = .ok (.ifCond .ne 6, 3) := by decide +kernel
theorem dX12_write_19 : decode cX12_write 19 = .ok (.bipush (-2), 2) := by decide +kernel
theorem dX12_write_21 : decode cX12_write 21 = .ok (.ireturn, 1) := by decide +kernel
theorem dX12_write_22 : decode cX12_write 22 = .ok (.aload_n 0, 1) := by decide +kernel
theorem dX12_write_23 : decode cX12_write 23 = .ok (.getfield 7, 3) := by decide +kernel
theorem dX12_write_26 : decode cX12_write 26 = .ok (.iload_n 2, 1) := by decide +kernel
theorem dX12_write_27 : decode cX12_write 27 = .ok (.iaload, 1) := by decide +kernel
theorem dX12_write_28 : decode cX12_write 28 = .ok (.ifCond .ge 9, 3) := by decide +kernel
theorem dX12_write_31 : decode cX12_write 31 = .ok (.aload_n 0, 1) := by decide +kernel
theorem dX12_write_32 : decode cX12_write 32 = .ok (.iconst 1, 1) := by decide +kernel
theorem dX12_write_33 : decode cX12_write 33 = .ok (.invokevirtual 98, 3) := by decide +kernel
theorem dX12_write_36 : decode cX12_write 36 = .ok (.ireturn, 1) := by decide +kernel
theorem dX12_write_37 : decode cX12_write 37 = .ok (.aload_n 0, 1) := by decide +kernel
theorem dX12_write_38 : decode cX12_write 38 = .ok (.iload_n 1, 1) := by decide +kernel
theorem dX12_write_39 : decode cX12_write 39 = .ok (.iconst 0, 1) := by decide +kernel
theorem dX12_write_40 : decode cX12_write 40 = .ok (.invokevirtual 188, 3) := by decide +kernel
theorem dX12_write_43 : decode cX12_write 43 = .ok (.iconst 0, 1) := by decide +kernel
theorem dX12_write_44 : decode cX12_write 44 = .ok (.istore_n 3, 1) := by decide +kernel
theorem dX12_write_45 : decode cX12_write 45 = .ok (.iload_n 3, 1) := by decide +kernel
theorem dX12_write_46 : decode cX12_write 46 = .ok (.aload_n 0, 1) := by decide +kernel
theorem dX12_write_47 : decode cX12_write 47 = .ok (.getfield 13, 3) := by decide +kernel
theorem dX12_write_50 : decode cX12_write 50 = .ok (.iload_n 2, 1) := by decide +kernel
theorem dX12_write_51 : decode cX12_write 51 = .ok (.iaload, 1) := by decide +kernel
theorem dX12_write_52 : decode cX12_write 52 = .ok (.if_icmp .ge 61, 3) := by decide +kernel
theorem dX12_write_55 : decode cX12_write 55 = .ok (.aload_n 0, 1) := by decide +kernel
theorem dX12_write_56 : decode cX12_write 56 = .ok (.getfield 16, 3) := by decide +kernel
theorem dX12_write_59 : decode cX12_write 59 = .ok (.bipush 64, 2) := by decide +kernel
theorem dX12_write_61 : decode cX12_write 61 = .ok (.iload_n 2, 1) := by decide +kernel
theorem dX12_write_62 : decode cX12_write 62 = .ok (.imul, 1) := by decide +kernel
theorem dX12_write_63 : decode cX12_write 63 = .ok (.iload_n 3, 1) := by decide +kernel
theorem dX12_write_64 : decode cX12_write 64 = .ok (.iadd, 1) := by decide +kernel
theorem dX12_write_65 : decode cX12_write 65 = .ok (.aload_n 0, 1) := by decide +kernel
theorem dX12_write_66 : decode cX12_write 66 = .ok (.getfield 7, 3) := by decide +kernel
theorem dX12_write_69 : decode cX12_write 69 = .ok (.iload_n 2, 1) := by decide +kernel
theorem dX12_write_70 : decode cX12_write 70 = .ok (.iaload, 1) := by decide +kernel
theorem dX12_write_71 : decode cX12_write 71 = .ok (.aload_n 0, 1) := by decide +kernel
theorem dX12_write_72 : decode cX12_write 72 = .ok (.getfield 28, 3) := by decide +kernel
theorem dX12_write_75 : decode cX12_write 75 = .ok (.iload_n 3, 1) := by decide +kernel
theorem dX12_write_76 : decode cX12_write 76 = .ok (.iaload, 1) := by decide +kernel
theorem dX12_write_77 : decode cX12_write 77 = .ok (.bipush 99, 2) := by decide +kernel
theorem dX12_write_79 : decode cX12_write 79 = .ok (.if_icmp .eq 14, 3) := by decide +kernel
theorem dX12_write_82 : decode cX12_write 82 = .ok (.aload_n 0, 1) := by decide +kernel
theorem dX12_write_83 : decode cX12_write 83 = .ok (.getfield 52, 3) := by decide +kernel
theorem dX12_write_86 : decode cX12_write 86 = .ok (.iload_n 3, 1) := by decide +kernel
theorem dX12_write_87 : decode cX12_write 87 = .ok (.iaload, 1) := by decide +kernel
theorem dX12_write_88 : decode cX12_write 88 = .ok (.ldc 187, 2) := by decide +kernel
theorem dX12_write_90 : decode cX12_write 90 = .ok (.if_icmp .lt 7, 3) := by decide +kernel
theorem dX12_write_93 : decode cX12_write 93 = .ok (.iconst (-1), 1) := by decide +kernel
theorem dX12_write_94 : decode cX12_write 94 = .ok (.goto 9, 3) := by decide +kernel
theorem dX12_write_97 : decode cX12_write 97 = .ok (.aload_n 0, 1) := by decide +kernel
theorem dX12_write_98 : decode cX12_write 98 = .ok (.getfield 52, 3) := by decide +kernel
theorem dX12_write_101 : decode cX12_write 101 = .ok (.iload_n 3, 1) := by decide +kernel
theorem dX12_write_102 : decode cX12_write 102 = .ok (.iaload, 1) := by decide +kernel
theorem dX12_write_103 : decode cX12_write 103 = .ok (.invokestatic 106, 3) := by decide +kernel
theorem dX12_write_106 : decode cX12_write 106 = .ok (.iastore, 1) := by decide +kernel
theorem dX12_write_107 : decode cX12_write 107 = .ok (.iinc 3 1, 3) := by decide +kernel
theorem dX12_write_110 : decode cX12_write 110 = .ok (.goto (-65), 3) := by decide +kernel
theorem dX12_write_113 : decode cX12_write 113 = .ok (.aload_n 0, 1) := by decide +kernel
theorem dX12_write_114 : decode cX12_write 114 = .ok (.getfield 13, 3) := by decide +kernel
theorem dX12_write_117 : decode cX12_write 117 = .ok (.iload_n 2, 1) := by decide +kernel
theorem dX12_write_118 : decode cX12_write 118 = .ok (.iaload, 1) := by decide +kernel
theorem dX12_write_119 : decode cX12_write 119 = .ok (.ireturn, 1) := by decide +kernel
theorem dX12_count_0 : decode cX12_count 0 = .ok (.iconst 0, 1) := by decide +kernel
theorem dX12_count_1 : decode cX12_count 1 = .ok (.istore_n 2, 1) := by decide +kernel
theorem dX12_count_2 : decode cX12_count 2 = .ok (.aload_n 0, 1) := by decide +kernel
theorem dX12_count_3 : decode cX12_count 3 = .ok (.invokevirtual 175, 3) := by decide +kernel
theorem dX12_count_6 : decode cX12_count 6 = .ok (.iload_n 1, 1) := by decide +kernel
theorem dX12_count_7 : decode cX12_count 7 = .ok (.tableswitch 118 0 8 #[49, 84, 89, 94, 99, 99, 99, 108, 113], 49) := by decide +kernel
theorem dX12_count_56 : decode cX12_count 56 = .ok (.iconst 0, 1) := by decide +kernel
theorem dX12_count_57 : decode cX12_count 57 = .ok (.istore_n 3, 1) := by decide +kernel
theorem dX12_count_58 : decode cX12_count 58 = .ok (.iload_n 3, 1) := by decide +kernel
theorem dX12_count_59 : decode cX12_count 59 = .ok (.bipush 64, 2) := by decide +kernel
theorem dX12_count_61 : decode cX12_count 61 = .ok (.if_icmp .ge 28, 3) := by decide +kernel
theorem dX12_count_64 : decode cX12_count 64 = .ok (.iload_n 2, 1) := by decide +kernel
theorem dX12_count_65 : decode cX12_count 65 = .ok (.aload_n 0, 1) := by decide +kernel
theorem dX12_count_66 : decode cX12_count 66 = .ok (.getfield 28, 3) := by decide +kernel
theorem dX12_count_69 : decode cX12_count 69 = .ok (.iload_n 3, 1) := by decide +kernel
theorem dX12_count_70 : decode cX12_count 70 = .ok (.iaload, 1) := by decide +kernel
theorem dX12_count_71 : decode cX12_count 71 = .ok (.bipush 99, 2) := by decide +kernel
theorem dX12_count_73 : decode cX12_count 73 = .ok (.if_icmp .ne 7, 3) := by decide +kernel
theorem dX12_count_76 : decode cX12_count 76 = .ok (.iconst 0, 1) := by decide +kernel
theorem dX12_count_77 : decode cX12_count 77 = .ok (.goto 4, 3) := by decide +kernel
theorem dX12_count_80 : decode cX12_count 80 = .ok (.iconst 1, 1) := by decide +kernel
theorem dX12_count_81 : decode cX12_count 81 = .ok (.iadd, 1) := by decide +kernel
theorem dX12_count_82 : decode cX12_count 82 = .ok (.istore_n 2, 1) := by decide +kernel
theorem dX12_count_83 : decode cX12_count 83 = .ok (.iinc 3 1, 3) := by decide +kernel
theorem dX12_count_86 : decode cX12_count 86 = .ok (.goto (-28), 3) := by decide +kernel
theorem dX12_count_89 : decode cX12_count 89 = .ok (.iload_n 2, 1) := by decide +kernel
theorem dX12_count_90 : decode cX12_count 90 = .ok (.ireturn, 1) := by decide +kernel
theorem dX12_count_91 : decode cX12_count 91 = .ok (.aload_n 0, 1) := by decide +kernel
theorem dX12_count_92 : decode cX12_count 92 = .ok (.getfield 132, 3) := by decide +kernel
theorem dX12_count_95 : decode cX12_count 95 = .ok (.ireturn, 1) := by decide +kernel
theorem dX12_count_96 : decode cX12_count 96 = .ok (.aload_n 0, 1) := by decide +kernel
theorem dX12_count_97 : decode cX12_count 97 = .ok (.getfield 141, 3) := by decide +kernel
theorem dX12_count_100 : decode cX12_count 100 = .ok (.ireturn, 1) := by decide +kernel
theorem dX12_count_101 : decode cX12_count 101 = .ok (.aload_n 0, 1) := by decide +kernel
theorem dX12_count_102 : decode cX12_count 102 = .ok (.getfield 181, 3) := by decide +kernel
theorem dX12_count_105 : decode cX12_count 105 = .ok (.ireturn, 1) := by decide +kernel
theorem dX12_count_106 : decode cX12_count 106 = .ok (.aload_n 0, 1) := by decide +kernel
theorem dX12_count_107 : decode cX12_count 107 = .ok (.getfield 25, 3) := by decide +kernel
theorem dX12_count_110 : decode cX12_count 110 = .ok (.iload_n 1, 1) := by decide +kernel
theorem dX12_count_111 : decode cX12_count 111 = .ok (.iconst 4, 1) := by decide +kernel
theorem dX12_count_112 : decode cX12_count 112 = .ok (.isub, 1) := by decide +kernel
theorem dX12_count_113 : decode cX12_count 113 = .ok (.iaload, 1) := by decide +kernel
theorem dX12_count_114 : decode cX12_count 114 = .ok (.ireturn, 1) := by decide +kernel
theorem dX12_count_115 : decode cX12_count 115 = .ok (.aload_n 0, 1) := by decide +kernel
theorem dX12_count_116 : decode cX12_count 116 = .ok (.getfield 287, 3) := by decide +kernel
theorem dX12_count_119 : decode cX12_count 119 = .ok (.ireturn, 1) := by decide +kernel
theorem dX12_count_120 : decode cX12_count 120 = .ok (.aload_n 0, 1) := by decide +kernel
theorem dX12_count_121 : decode cX12_count 121 = .ok (.getfield 86, 3) := by decide +kernel
theorem dX12_count_124 : decode cX12_count 124 = .ok (.ireturn, 1) := by decide +kernel
theorem dX12_count_125 : decode cX12_count 125 = .ok (.bipush (-2), 2) := by decide +kernel
theorem dX12_count_127 : decode cX12_count 127 = .ok (.ireturn, 1) := by decide +kernel
theorem dX12_digest_0 : decode cX12_digest 0 = .ok (.ldc2_w 319, 3) := by decide +kernel
theorem dX12_digest_3 : decode cX12_digest 3 = .ok (.lstore_n 1, 1) := by decide +kernel
theorem dX12_digest_4 : decode cX12_digest 4 = .ok (.iconst 0, 1) := by decide +kernel
theorem dX12_digest_5 : decode cX12_digest 5 = .ok (.istore_n 3, 1) := by decide +kernel
theorem dX12_digest_6 : decode cX12_digest 6 = .ok (.iload_n 3, 1) := by decide +kernel
theorem dX12_digest_7 : decode cX12_digest 7 = .ok (.bipush 8, 2) := by decide +kernel
theorem dX12_digest_9 : decode cX12_digest 9 = .ok (.if_icmp .ge 22, 3) := by decide +kernel
theorem dX12_digest_12 : decode cX12_digest 12 = .ok (.ldc2_w 213, 3) := by decide +kernel
theorem dX12_digest_15 : decode cX12_digest 15 = .ok (.lload_n 1, 1) := by decide +kernel
theorem dX12_digest_16 : decode cX12_digest 16 = .ok (.lmul, 1) := by decide +kernel
theorem dX12_digest_17 : decode cX12_digest 17 = .ok (.aload_n 0, 1) := by decide +kernel
theorem dX12_digest_18 : decode cX12_digest 18 = .ok (.iload_n 3, 1) := by decide +kernel
theorem dX12_digest_19 : decode cX12_digest 19 = .ok (.invokevirtual 321, 3) := by decide +kernel
theorem dX12_digest_22 : decode cX12_digest 22 = .ok (.i2l, 1) := by decide +kernel
theorem dX12_digest_23 : decode cX12_digest 23 = .ok (.ladd, 1) := by decide +kernel
theorem dX12_digest_24 : decode cX12_digest 24 = .ok (.lstore_n 1, 1) := by decide +kernel
theorem dX12_digest_25 : decode cX12_digest 25 = .ok (.iinc 3 1, 3) := by decide +kernel
theorem dX12_digest_28 : decode cX12_digest 28 = .ok (.goto (-22), 3) := by decide +kernel
theorem dX12_digest_31 : decode cX12_digest 31 = .ok (.iconst 0, 1) := by decide +kernel
theorem dX12_digest_32 : decode cX12_digest 32 = .ok (.istore_n 3, 1) := by decide +kernel
theorem dX12_digest_33 : decode cX12_digest 33 = .ok (.iload_n 3, 1) := by decide +kernel
theorem dX12_digest_34 : decode cX12_digest 34 = .ok (.iconst 3, 1) := by decide +kernel
theorem dX12_digest_35 : decode cX12_digest 35 = .ok (.if_icmp .ge 22, 3) := by decide +kernel
theorem dX12_digest_38 : decode cX12_digest 38 = .ok (.ldc2_w 213, 3) := by decide +kernel
theorem dX12_digest_41 : decode cX12_digest 41 = .ok (.lload_n 1, 1) := by decide +kernel
theorem dX12_digest_42 : decode cX12_digest 42 = .ok (.lmul, 1) := by decide +kernel
theorem dX12_digest_43 : decode cX12_digest 43 = .ok (.aload_n 0, 1) := by decide +kernel
theorem dX12_digest_44 : decode cX12_digest 44 = .ok (.iload_n 3, 1) := by decide +kernel
theorem dX12_digest_45 : decode cX12_digest 45 = .ok (.invokevirtual 324, 3) := by decide +kernel
theorem dX12_digest_48 : decode cX12_digest 48 = .ok (.i2l, 1) := by decide +kernel
theorem dX12_digest_49 : decode cX12_digest 49 = .ok (.ladd, 1) := by decide +kernel
theorem dX12_digest_50 : decode cX12_digest 50 = .ok (.lstore_n 1, 1) := by decide +kernel
theorem dX12_digest_51 : decode cX12_digest 51 = .ok (.iinc 3 1, 3) := by decide +kernel
theorem dX12_digest_54 : decode cX12_digest 54 = .ok (.goto (-21), 3) := by decide +kernel
theorem dX12_digest_57 : decode cX12_digest 57 = .ok (.ldc2_w 213, 3) := by decide +kernel
theorem dX12_digest_60 : decode cX12_digest 60 = .ok (.lload_n 1, 1) := by decide +kernel
theorem dX12_digest_61 : decode cX12_digest 61 = .ok (.lmul, 1) := by decide +kernel
theorem dX12_digest_62 : decode cX12_digest 62 = .ok (.aload_n 0, 1) := by decide +kernel
theorem dX12_digest_63 : decode cX12_digest 63 = .ok (.invokevirtual 327, 3) := by decide +kernel
theorem dX12_digest_66 : decode cX12_digest 66 = .ok (.i2l, 1) := by decide +kernel
theorem dX12_digest_67 : decode cX12_digest 67 = .ok (.ladd, 1) := by decide +kernel
theorem dX12_digest_68 : decode cX12_digest 68 = .ok (.lstore_n 1, 1) := by decide +kernel
theorem dX12_digest_69 : decode cX12_digest 69 = .ok (.ldc2_w 213, 3) := by decide +kernel
theorem dX12_digest_72 : decode cX12_digest 72 = .ok (.lload_n 1, 1) := by decide +kernel
theorem dX12_digest_73 : decode cX12_digest 73 = .ok (.lmul, 1) := by decide +kernel
theorem dX12_digest_74 : decode cX12_digest 74 = .ok (.aload_n 0, 1) := by decide +kernel
theorem dX12_digest_75 : decode cX12_digest 75 = .ok (.aload_n 0, 1) := by decide +kernel
theorem dX12_digest_76 : decode cX12_digest 76 = .ok (.getfield 181, 3) := by decide +kernel
theorem dX12_digest_79 : decode cX12_digest 79 = .ok (.invokevirtual 330, 3) := by decide +kernel
theorem dX12_digest_82 : decode cX12_digest 82 = .ok (.i2l, 1) := by decide +kernel
theorem dX12_digest_83 : decode cX12_digest 83 = .ok (.ladd, 1) := by decide +kernel
theorem dX12_digest_84 : decode cX12_digest 84 = .ok (.lstore_n 1, 1) := by decide +kernel
theorem dX12_digest_85 : decode cX12_digest 85 = .ok (.ldc2_w 213, 3) := by decide +kernel
theorem dX12_digest_88 : decode cX12_digest 88 = .ok (.lload_n 1, 1) := by decide +kernel
theorem dX12_digest_89 : decode cX12_digest 89 = .ok (.lmul, 1) := by decide +kernel
theorem dX12_digest_90 : decode cX12_digest 90 = .ok (.aload_n 0, 1) := by decide +kernel
theorem dX12_digest_91 : decode cX12_digest 91 = .ok (.invokevirtual 204, 3) := by decide +kernel
theorem dX12_digest_94 : decode cX12_digest 94 = .ok (.i2l, 1) := by decide +kernel
theorem dX12_digest_95 : decode cX12_digest 95 = .ok (.ladd, 1) := by decide +kernel
theorem dX12_digest_96 : decode cX12_digest 96 = .ok (.lstore_n 1, 1) := by decide +kernel
theorem dX12_digest_97 : decode cX12_digest 97 = .ok (.ldc2_w 213, 3) := by decide +kernel
theorem dX12_digest_100 : decode cX12_digest 100 = .ok (.lload_n 1, 1) := by decide +kernel
theorem dX12_digest_101 : decode cX12_digest 101 = .ok (.lmul, 1) := by decide +kernel
theorem dX12_digest_102 : decode cX12_digest 102 = .ok (.aload_n 0, 1) := by decide +kernel
theorem dX12_digest_103 : decode cX12_digest 103 = .ok (.invokevirtual 207, 3) := by decide +kernel
theorem dX12_digest_106 : decode cX12_digest 106 = .ok (.i2l, 1) := by decide +kernel
theorem dX12_digest_107 : decode cX12_digest 107 = .ok (.ladd, 1) := by decide +kernel
theorem dX12_digest_108 : decode cX12_digest 108 = .ok (.lstore_n 1, 1) := by decide +kernel
theorem dX12_digest_109 : decode cX12_digest 109 = .ok (.iconst 0, 1) := by decide +kernel
theorem dX12_digest_110 : decode cX12_digest 110 = .ok (.istore_n 3, 1) := by decide +kernel
theorem dX12_digest_111 : decode cX12_digest 111 = .ok (.iload_n 3, 1) := by decide +kernel
theorem dX12_digest_112 : decode cX12_digest 112 = .ok (.iconst 2, 1) := by decide +kernel
theorem dX12_digest_113 : decode cX12_digest 113 = .ok (.if_icmp .ge 21, 3) := by decide +kernel
theorem dX12_digest_116 : decode cX12_digest 116 = .ok (.ldc2_w 213, 3) := by decide +kernel
theorem dX12_digest_119 : decode cX12_digest 119 = .ok (.lload_n 1, 1) := by decide +kernel
theorem dX12_digest_120 : decode cX12_digest 120 = .ok (.lmul, 1) := by decide +kernel
theorem dX12_digest_121 : decode cX12_digest 121 = .ok (.aload_n 0, 1) := by decide +kernel
theorem dX12_digest_122 : decode cX12_digest 122 = .ok (.iload_n 3, 1) := by decide +kernel
theorem dX12_digest_123 : decode cX12_digest 123 = .ok (.invokevirtual 236, 3) := by decide +kernel
theorem dX12_digest_126 : decode cX12_digest 126 = .ok (.ladd, 1) := by decide +kernel
theorem dX12_digest_127 : decode cX12_digest 127 = .ok (.lstore_n 1, 1) := by decide +kernel
theorem dX12_digest_128 : decode cX12_digest 128 = .ok (.iinc 3 1, 3) := by decide +kernel
theorem dX12_digest_131 : decode cX12_digest 131 = .ok (.goto (-20), 3) := by decide +kernel
theorem dX12_digest_134 : decode cX12_digest 134 = .ok (.iconst 0, 1) := by decide +kernel
theorem dX12_digest_135 : decode cX12_digest 135 = .ok (.istore_n 3, 1) := by decide +kernel
theorem dX12_digest_136 : decode cX12_digest 136 = .ok (.iload_n 3, 1) := by decide +kernel
theorem dX12_digest_137 : decode cX12_digest 137 = .ok (.iconst 5, 1) := by decide +kernel
theorem dX12_digest_138 : decode cX12_digest 138 = .ok (.if_icmp .ge 62, 3) := by decide +kernel
theorem dX12_digest_141 : decode cX12_digest 141 = .ok (.ldc2_w 213, 3) := by decide +kernel
theorem dX12_digest_144 : decode cX12_digest 144 = .ok (.lload_n 1, 1) := by decide +kernel
theorem dX12_digest_145 : decode cX12_digest 145 = .ok (.lmul, 1) := by decide +kernel
theorem dX12_digest_146 : decode cX12_digest 146 = .ok (.aload_n 0, 1) := by decide +kernel
theorem dX12_digest_147 : decode cX12_digest 147 = .ok (.iload_n 3, 1) := by decide +kernel
theorem dX12_digest_148 : decode cX12_digest 148 = .ok (.invokevirtual 198, 3) := by decide +kernel
theorem dX12_digest_151 : decode cX12_digest 151 = .ok (.i2l, 1) := by decide +kernel
theorem dX12_digest_152 : decode cX12_digest 152 = .ok (.ladd, 1) := by decide +kernel
theorem dX12_digest_153 : decode cX12_digest 153 = .ok (.lstore_n 1, 1) := by decide +kernel
theorem dX12_digest_154 : decode cX12_digest 154 = .ok (.ldc2_w 213, 3) := by decide +kernel
theorem dX12_digest_157 : decode cX12_digest 157 = .ok (.lload_n 1, 1) := by decide +kernel
theorem dX12_digest_158 : decode cX12_digest 158 = .ok (.lmul, 1) := by decide +kernel
theorem dX12_digest_159 : decode cX12_digest 159 = .ok (.aload_n 0, 1) := by decide +kernel
theorem dX12_digest_160 : decode cX12_digest 160 = .ok (.iload_n 3, 1) := by decide +kernel
theorem dX12_digest_161 : decode cX12_digest 161 = .ok (.bipush (-2), 2) := by decide +kernel
theorem dX12_digest_163 : decode cX12_digest 163 = .ok (.invokevirtual 304, 3) := by decide +kernel
theorem dX12_digest_166 : decode cX12_digest 166 = .ok (.ladd, 1) := by decide +kernel
theorem dX12_digest_167 : decode cX12_digest 167 = .ok (.lstore_n 1, 1) := by decide +kernel
theorem dX12_digest_168 : decode cX12_digest 168 = .ok (.ldc2_w 213, 3) := by decide +kernel
theorem dX12_digest_171 : decode cX12_digest 171 = .ok (.lload_n 1, 1) := by decide +kernel
theorem dX12_digest_172 : decode cX12_digest 172 = .ok (.lmul, 1) := by decide +kernel
theorem dX12_digest_173 : decode cX12_digest 173 = .ok (.aload_n 0, 1) := by decide +kernel
theorem dX12_digest_174 : decode cX12_digest 174 = .ok (.iload_n 3, 1) := by decide +kernel
theorem dX12_digest_175 : decode cX12_digest 175 = .ok (.iconst (-1), 1) := by decide +kernel
theorem dX12_digest_176 : decode cX12_digest 176 = .ok (.invokevirtual 304, 3) := by decide +kernel
theorem dX12_digest_179 : decode cX12_digest 179 = .ok (.ladd, 1) := by decide +kernel
theorem dX12_digest_180 : decode cX12_digest 180 = .ok (.lstore_n 1, 1) := by decide +kernel
theorem dX12_digest_181 : decode cX12_digest 181 = .ok (.ldc2_w 213, 3) := by decide +kernel
theorem dX12_digest_184 : decode cX12_digest 184 = .ok (.lload_n 1, 1) := by decide +kernel
theorem dX12_digest_185 : decode cX12_digest 185 = .ok (.lmul, 1) := by decide +kernel
theorem dX12_digest_186 : decode cX12_digest 186 = .ok (.aload_n 0, 1) := by decide +kernel
theorem dX12_digest_187 : decode cX12_digest 187 = .ok (.iload_n 3, 1) := by decide +kernel
theorem dX12_digest_188 : decode cX12_digest 188 = .ok (.iconst 0, 1) := by decide +kernel
theorem dX12_digest_189 : decode cX12_digest 189 = .ok (.invokevirtual 304, 3) := by decide +kernel
theorem dX12_digest_192 : decode cX12_digest 192 = .ok (.ladd, 1) := by decide +kernel
theorem dX12_digest_193 : decode cX12_digest 193 = .ok (.lstore_n 1, 1) := by decide +kernel
theorem dX12_digest_194 : decode cX12_digest 194 = .ok (.iinc 3 1, 3) := by decide +kernel
theorem dX12_digest_197 : decode cX12_digest 197 = .ok (.goto (-61), 3) := by decide +kernel
theorem dX12_digest_200 : decode cX12_digest 200 = .ok (.ldc2_w 213, 3) := by decide +kernel
theorem dX12_digest_203 : decode cX12_digest 203 = .ok (.lload_n 1, 1) := by decide +kernel
theorem dX12_digest_204 : decode cX12_digest 204 = .ok (.lmul, 1) := by decide +kernel
theorem dX12_digest_205 : decode cX12_digest 205 = .ok (.aload_n 0, 1) := by decide +kernel
theorem dX12_digest_206 : decode cX12_digest 206 = .ok (.iconst 0, 1) := by decide +kernel
theorem dX12_digest_207 : decode cX12_digest 207 = .ok (.bipush 9, 2) := by decide +kernel
theorem dX12_digest_209 : decode cX12_digest 209 = .ok (.invokevirtual 332, 3) := by decide +kernel
theorem dX12_digest_212 : decode cX12_digest 212 = .ok (.i2l, 1) := by decide +kernel
theorem dX12_digest_213 : decode cX12_digest 213 = .ok (.ladd, 1) := by decide +kernel
theorem dX12_digest_214 : decode cX12_digest 214 = .ok (.lstore_n 1, 1) := by decide +kernel
theorem dX12_digest_215 : decode cX12_digest 215 = .ok (.bipush (-2), 2) := by decide +kernel
theorem dX12_digest_217 : decode cX12_digest 217 = .ok (.istore_n 3, 1) := by decide +kernel
theorem dX12_digest_218 : decode cX12_digest 218 = .ok (.iload_n 3, 1) := by decide +kernel
theorem dX12_digest_219 : decode cX12_digest 219 = .ok (.iconst 2, 1) := by decide +kernel
theorem dX12_digest_220 : decode cX12_digest 220 = .ok (.if_icmp .ge 25, 3) := by decide +kernel
theorem dX12_digest_223 : decode cX12_digest 223 = .ok (.ldc2_w 213, 3) := by decide +kernel
theorem dX12_digest_226 : decode cX12_digest 226 = .ok (.lload_n 1, 1) := by decide +kernel
theorem dX12_digest_227 : decode cX12_digest 227 = .ok (.lmul, 1) := by decide +kernel
theorem dX12_digest_228 : decode cX12_digest 228 = .ok (.aload_n 0, 1) := by decide +kernel
theorem dX12_digest_229 : decode cX12_digest 229 = .ok (.iconst 0, 1) := by decide +kernel
theorem dX12_digest_230 : decode cX12_digest 230 = .ok (.bipush 9, 2) := by decide +kernel
theorem dX12_digest_232 : decode cX12_digest 232 = .ok (.iload_n 3, 1) := by decide +kernel
theorem dX12_digest_233 : decode cX12_digest 233 = .ok (.invokevirtual 335, 3) := by decide +kernel
theorem dX12_digest_236 : decode cX12_digest 236 = .ok (.i2l, 1) := by decide +kernel
theorem dX12_digest_237 : decode cX12_digest 237 = .ok (.ladd, 1) := by decide +kernel
theorem dX12_digest_238 : decode cX12_digest 238 = .ok (.lstore_n 1, 1) := by decide +kernel
theorem dX12_digest_239 : decode cX12_digest 239 = .ok (.iinc 3 1, 3) := by decide +kernel
theorem dX12_digest_242 : decode cX12_digest 242 = .ok (.goto (-24), 3) := by decide +kernel
theorem dX12_digest_245 : decode cX12_digest 245 = .ok (.iconst (-1), 1) := by decide +kernel
theorem dX12_digest_246 : decode cX12_digest 246 = .ok (.istore_n 3, 1) := by decide +kernel
theorem dX12_digest_247 : decode cX12_digest 247 = .ok (.iload_n 3, 1) := by decide +kernel
theorem dX12_digest_248 : decode cX12_digest 248 = .ok (.iconst 5, 1) := by decide +kernel
theorem dX12_digest_249 : decode cX12_digest 249 = .ok (.if_icmp .ge 24, 3) := by decide +kernel
theorem dX12_digest_252 : decode cX12_digest 252 = .ok (.ldc2_w 213, 3) := by decide +kernel
theorem dX12_digest_255 : decode cX12_digest 255 = .ok (.lload_n 1, 1) := by decide +kernel
theorem dX12_digest_256 : decode cX12_digest 256 = .ok (.lmul, 1) := by decide +kernel
theorem dX12_digest_257 : decode cX12_digest 257 = .ok (.aload_n 0, 1) := by decide +kernel
theorem dX12_digest_258 : decode cX12_digest 258 = .ok (.bipush 31, 2) := by decide +kernel
theorem dX12_digest_260 : decode cX12_digest 260 = .ok (.iload_n 3, 1) := by decide +kernel
theorem dX12_digest_261 : decode cX12_digest 261 = .ok (.invokevirtual 217, 3) := by decide +kernel
theorem dX12_digest_264 : decode cX12_digest 264 = .ok (.i2l, 1) := by decide +kernel
theorem dX12_digest_265 : decode cX12_digest 265 = .ok (.ladd, 1) := by decide +kernel
theorem dX12_digest_266 : decode cX12_digest 266 = .ok (.lstore_n 1, 1) := by decide +kernel
theorem dX12_digest_267 : decode cX12_digest 267 = .ok (.iinc 3 1, 3) := by decide +kernel
theorem dX12_digest_270 : decode cX12_digest 270 = .ok (.goto (-23), 3) := by decide +kernel
theorem dX12_digest_273 : decode cX12_digest 273 = .ok (.ldc2_w 213, 3) := by decide +kernel
theorem dX12_digest_276 : decode cX12_digest 276 = .ok (.lload_n 1, 1) := by decide +kernel
theorem dX12_digest_277 : decode cX12_digest 277 = .ok (.lmul, 1) := by decide +kernel
theorem dX12_digest_278 : decode cX12_digest 278 = .ok (.aload_n 0, 1) := by decide +kernel
theorem dX12_digest_279 : decode cX12_digest 279 = .ok (.iconst 0, 1) := by decide +kernel
theorem dX12_digest_280 : decode cX12_digest 280 = .ok (.iconst 0, 1) := by decide +kernel
theorem dX12_digest_281 : decode cX12_digest 281 = .ok (.iconst 2, 1) := by decide +kernel
theorem dX12_digest_282 : decode cX12_digest 282 = .ok (.iconst 0, 1) := by decide +kernel
theorem dX12_digest_283 : decode cX12_digest 283 = .ok (.invokevirtual 338, 3) := by decide +kernel
theorem dX12_digest_286 : decode cX12_digest 286 = .ok (.ladd, 1) := by decide +kernel
theorem dX12_digest_287 : decode cX12_digest 287 = .ok (.lstore_n 1, 1) := by decide +kernel
theorem dX12_digest_288 : decode cX12_digest 288 = .ok (.iconst 0, 1) := by decide +kernel
theorem dX12_digest_289 : decode cX12_digest 289 = .ok (.istore_n 3, 1) := by decide +kernel
theorem dX12_digest_290 : decode cX12_digest 290 = .ok (.iload_n 3, 1) := by decide +kernel
theorem dX12_digest_291 : decode cX12_digest 291 = .ok (.iconst 4, 1) := by decide +kernel
theorem dX12_digest_292 : decode cX12_digest 292 = .ok (.if_icmp .ge 24, 3) := by decide +kernel
theorem dX12_digest_295 : decode cX12_digest 295 = .ok (.ldc2_w 213, 3) := by decide +kernel
theorem dX12_digest_298 : decode cX12_digest 298 = .ok (.lload_n 1, 1) := by decide +kernel
theorem dX12_digest_299 : decode cX12_digest 299 = .ok (.lmul, 1) := by decide +kernel
theorem dX12_digest_300 : decode cX12_digest 300 = .ok (.aload_n 0, 1) := by decide +kernel
theorem dX12_digest_301 : decode cX12_digest 301 = .ok (.bipush 7, 2) := by decide +kernel
theorem dX12_digest_303 : decode cX12_digest 303 = .ok (.iload_n 3, 1) := by decide +kernel
theorem dX12_digest_304 : decode cX12_digest 304 = .ok (.invokevirtual 258, 3) := by decide +kernel
theorem dX12_digest_307 : decode cX12_digest 307 = .ok (.i2l, 1) := by decide +kernel
theorem dX12_digest_308 : decode cX12_digest 308 = .ok (.ladd, 1) := by decide +kernel
theorem dX12_digest_309 : decode cX12_digest 309 = .ok (.lstore_n 1, 1) := by decide +kernel
theorem dX12_digest_310 : decode cX12_digest 310 = .ok (.iinc 3 1, 3) := by decide +kernel
theorem dX12_digest_313 : decode cX12_digest 313 = .ok (.goto (-23), 3) := by decide +kernel
theorem dX12_digest_316 : decode cX12_digest 316 = .ok (.ldc2_w 213, 3) := by decide +kernel
theorem dX12_digest_319 : decode cX12_digest 319 = .ok (.lload_n 1, 1) := by decide +kernel
theorem dX12_digest_320 : decode cX12_digest 320 = .ok (.lmul, 1) := by decide +kernel
theorem dX12_digest_321 : decode cX12_digest 321 = .ok (.aload_n 0, 1) := by decide +kernel
theorem dX12_digest_322 : decode cX12_digest 322 = .ok (.bipush 7, 2) := by decide +kernel
theorem dX12_digest_324 : decode cX12_digest 324 = .ok (.bipush 9, 2) := by decide +kernel
theorem dX12_digest_326 : decode cX12_digest 326 = .ok (.invokevirtual 263, 3) := by decide +kernel
theorem dX12_digest_329 : decode cX12_digest 329 = .ok (.i2l, 1) := by decide +kernel
theorem dX12_digest_330 : decode cX12_digest 330 = .ok (.ladd, 1) := by decide +kernel
theorem dX12_digest_331 : decode cX12_digest 331 = .ok (.lstore_n 1, 1) := by decide +kernel
theorem dX12_digest_332 : decode cX12_digest 332 = .ok (.iconst 0, 1) := by decide +kernel
theorem dX12_digest_333 : decode cX12_digest 333 = .ok (.istore_n 3, 1) := by decide +kernel
theorem dX12_digest_334 : decode cX12_digest 334 = .ok (.iload_n 3, 1) := by decide +kernel
theorem dX12_digest_335 : decode cX12_digest 335 = .ok (.iconst 2, 1) := by decide +kernel
theorem dX12_digest_336 : decode cX12_digest 336 = .ok (.if_icmp .ge 24, 3) := by decide +kernel
theorem dX12_digest_339 : decode cX12_digest 339 = .ok (.ldc2_w 213, 3) := by decide +kernel
theorem dX12_digest_342 : decode cX12_digest 342 = .ok (.lload_n 1, 1) := by decide +kernel
theorem dX12_digest_343 : decode cX12_digest 343 = .ok (.lmul, 1) := by decide +kernel
theorem dX12_digest_344 : decode cX12_digest 344 = .ok (.aload_n 0, 1) := by decide +kernel
theorem dX12_digest_345 : decode cX12_digest 345 = .ok (.iconst 0, 1) := by decide +kernel
theorem dX12_digest_346 : decode cX12_digest 346 = .ok (.iconst 3, 1) := by decide +kernel
theorem dX12_digest_347 : decode cX12_digest 347 = .ok (.iconst 1, 1) := by decide +kernel
theorem dX12_digest_348 : decode cX12_digest 348 = .ok (.iload_n 3, 1) := by decide +kernel
theorem dX12_digest_349 : decode cX12_digest 349 = .ok (.invokevirtual 341, 3) := by decide +kernel
theorem dX12_digest_352 : decode cX12_digest 352 = .ok (.ladd, 1) := by decide +kernel
theorem dX12_digest_353 : decode cX12_digest 353 = .ok (.lstore_n 1, 1) := by decide +kernel
theorem dX12_digest_354 : decode cX12_digest 354 = .ok (.iinc 3 1, 3) := by decide +kernel
theorem dX12_digest_357 : decode cX12_digest 357 = .ok (.goto (-23), 3) := by decide +kernel
theorem dX12_digest_360 : decode cX12_digest 360 = .ok (.ldc2_w 213, 3) := by decide +kernel
theorem dX12_digest_363 : decode cX12_digest 363 = .ok (.lload_n 1, 1) := by decide +kernel
theorem dX12_digest_364 : decode cX12_digest 364 = .ok (.lmul, 1) := by decide +kernel
theorem dX12_digest_365 : decode cX12_digest 365 = .ok (.aload_n 0, 1) := by decide +kernel
theorem dX12_digest_366 : decode cX12_digest 366 = .ok (.iconst 0, 1) := by decide +kernel
theorem dX12_digest_367 : decode cX12_digest 367 = .ok (.iconst 4, 1) := by decide +kernel
theorem dX12_digest_368 : decode cX12_digest 368 = .ok (.invokevirtual 344, 3) := by decide +kernel
theorem dX12_digest_371 : decode cX12_digest 371 = .ok (.i2l, 1) := by decide +kernel
theorem dX12_digest_372 : decode cX12_digest 372 = .ok (.ladd, 1) := by decide +kernel
theorem dX12_digest_373 : decode cX12_digest 373 = .ok (.lstore_n 1, 1) := by decide +kernel
theorem dX12_digest_374 : decode cX12_digest 374 = .ok (.iconst 0, 1) := by decide +kernel
theorem dX12_digest_375 : decode cX12_digest 375 = .ok (.istore_n 3, 1) := by decide +kernel
theorem dX12_digest_376 : decode cX12_digest 376 = .ok (.iload_n 3, 1) := by decide +kernel
theorem dX12_digest_377 : decode cX12_digest 377 = .ok (.iconst 3, 1) := by decide +kernel
theorem dX12_digest_378 : decode cX12_digest 378 = .ok (.if_icmp .ge 23, 3) := by decide +kernel
theorem dX12_digest_381 : decode cX12_digest 381 = .ok (.ldc2_w 213, 3) := by decide +kernel
theorem dX12_digest_384 : decode cX12_digest 384 = .ok (.lload_n 1, 1) := by decide +kernel
theorem dX12_digest_385 : decode cX12_digest 385 = .ok (.lmul, 1) := by decide +kernel
theorem dX12_digest_386 : decode cX12_digest 386 = .ok (.aload_n 0, 1) := by decide +kernel
theorem dX12_digest_387 : decode cX12_digest 387 = .ok (.iconst 0, 1) := by decide +kernel
theorem dX12_digest_388 : decode cX12_digest 388 = .ok (.iconst 1, 1) := by decide +kernel
theorem dX12_digest_389 : decode cX12_digest 389 = .ok (.iload_n 3, 1) := by decide +kernel
theorem dX12_digest_390 : decode cX12_digest 390 = .ok (.invokevirtual 307, 3) := by decide +kernel
theorem dX12_digest_393 : decode cX12_digest 393 = .ok (.ladd, 1) := by decide +kernel
theorem dX12_digest_394 : decode cX12_digest 394 = .ok (.lstore_n 1, 1) := by decide +kernel
theorem dX12_digest_395 : decode cX12_digest 395 = .ok (.iinc 3 1, 3) := by decide +kernel
theorem dX12_digest_398 : decode cX12_digest 398 = .ok (.goto (-22), 3) := by decide +kernel
theorem dX12_digest_401 : decode cX12_digest 401 = .ok (.iconst 0, 1) := by decide +kernel
theorem dX12_digest_402 : decode cX12_digest 402 = .ok (.istore_n 3, 1) := by decide +kernel
theorem dX12_digest_403 : decode cX12_digest 403 = .ok (.iload_n 3, 1) := by decide +kernel
theorem dX12_digest_404 : decode cX12_digest 404 = .ok (.iconst 2, 1) := by decide +kernel
theorem dX12_digest_405 : decode cX12_digest 405 = .ok (.if_icmp .ge 24, 3) := by decide +kernel
theorem dX12_digest_408 : decode cX12_digest 408 = .ok (.ldc2_w 213, 3) := by decide +kernel
theorem dX12_digest_411 : decode cX12_digest 411 = .ok (.lload_n 1, 1) := by decide +kernel
theorem dX12_digest_412 : decode cX12_digest 412 = .ok (.lmul, 1) := by decide +kernel
theorem dX12_digest_413 : decode cX12_digest 413 = .ok (.aload_n 0, 1) := by decide +kernel
theorem dX12_digest_414 : decode cX12_digest 414 = .ok (.bipush 7, 2) := by decide +kernel
theorem dX12_digest_416 : decode cX12_digest 416 = .ok (.iload_n 3, 1) := by decide +kernel
theorem dX12_digest_417 : decode cX12_digest 417 = .ok (.invokevirtual 311, 3) := by decide +kernel
theorem dX12_digest_420 : decode cX12_digest 420 = .ok (.i2l, 1) := by decide +kernel
theorem dX12_digest_421 : decode cX12_digest 421 = .ok (.ladd, 1) := by decide +kernel
theorem dX12_digest_422 : decode cX12_digest 422 = .ok (.lstore_n 1, 1) := by decide +kernel
theorem dX12_digest_423 : decode cX12_digest 423 = .ok (.iinc 3 1, 3) := by decide +kernel
theorem dX12_digest_426 : decode cX12_digest 426 = .ok (.goto (-23), 3) := by decide +kernel
theorem dX12_digest_429 : decode cX12_digest 429 = .ok (.ldc2_w 213, 3) := by decide +kernel
theorem dX12_digest_432 : decode cX12_digest 432 = .ok (.lload_n 1, 1) := by decide +kernel
theorem dX12_digest_433 : decode cX12_digest 433 = .ok (.lmul, 1) := by decide +kernel
theorem dX12_digest_434 : decode cX12_digest 434 = .ok (.bipush 60, 2) := by decide +kernel
theorem dX12_digest_436 : decode cX12_digest 436 = .ok (.iconst 3, 1) := by decide +kernel
theorem dX12_digest_437 : decode cX12_digest 437 = .ok (.iconst 2, 1) := by decide +kernel
theorem dX12_digest_438 : decode cX12_digest 438 = .ok (.invokestatic 316, 3) := by decide +kernel
theorem dX12_digest_441 : decode cX12_digest 441 = .ok (.i2l, 1) := by decide +kernel
theorem dX12_digest_442 : decode cX12_digest 442 = .ok (.ladd, 1) := by decide +kernel
theorem dX12_digest_443 : decode cX12_digest 443 = .ok (.lreturn, 1) := by decide +kernel
theorem dJ6_bitCount_0f7a4_0 : decode cJ6_bitCount_0f7a4 0 = .ok (.iload_n 0, 1) := by decide +kernel
theorem dJ6_bitCount_0f7a4_1 : decode cJ6_bitCount_0f7a4 1 = .ok (.iload_n 0, 1) := by decide +kernel
theorem dJ6_bitCount_0f7a4_2 : decode cJ6_bitCount_0f7a4 2 = .ok (.iconst 1, 1) := by decide +kernel
theorem dJ6_bitCount_0f7a4_3 : decode cJ6_bitCount_0f7a4 3 = .ok (.iushr, 1) := by decide +kernel
theorem dJ6_bitCount_0f7a4_4 : decode cJ6_bitCount_0f7a4 4 = .ok (.ldc_w 265, 3) := by decide +kernel
theorem dJ6_bitCount_0f7a4_7 : decode cJ6_bitCount_0f7a4 7 = .ok (.iand, 1) := by decide +kernel
theorem dJ6_bitCount_0f7a4_8 : decode cJ6_bitCount_0f7a4 8 = .ok (.isub, 1) := by decide +kernel
theorem dJ6_bitCount_0f7a4_9 : decode cJ6_bitCount_0f7a4 9 = .ok (.istore_n 0, 1) := by decide +kernel
theorem dJ6_bitCount_0f7a4_10 : decode cJ6_bitCount_0f7a4 10 = .ok (.iload_n 0, 1) := by decide +kernel
theorem dJ6_bitCount_0f7a4_11 : decode cJ6_bitCount_0f7a4 11 = .ok (.ldc_w 266, 3) := by decide +kernel
theorem dJ6_bitCount_0f7a4_14 : decode cJ6_bitCount_0f7a4 14 = .ok (.iand, 1) := by decide +kernel
theorem dJ6_bitCount_0f7a4_15 : decode cJ6_bitCount_0f7a4 15 = .ok (.iload_n 0, 1) := by decide +kernel
theorem dJ6_bitCount_0f7a4_16 : decode cJ6_bitCount_0f7a4 16 = .ok (.iconst 2, 1) := by decide +kernel
theorem dJ6_bitCount_0f7a4_17 : decode cJ6_bitCount_0f7a4 17 = .ok (.iushr, 1) := by decide +kernel
theorem dJ6_bitCount_0f7a4_18 : decode cJ6_bitCount_0f7a4 18 = .ok (.ldc_w 266, 3) := by decide +kernel
theorem dJ6_bitCount_0f7a4_21 : decode cJ6_bitCount_0f7a4 21 = .ok (.iand, 1) := by decide +kernel
theorem dJ6_bitCount_0f7a4_22 : decode cJ6_bitCount_0f7a4 22 = .ok (.iadd, 1) := by decide +kernel
theorem dJ6_bitCount_0f7a4_23 : decode cJ6_bitCount_0f7a4 23 = .ok (.istore_n 0, 1) := by decide +kernel
theorem dJ6_bitCount_0f7a4_24 : decode cJ6_bitCount_0f7a4 24 = .ok (.iload_n 0, 1) := by decide +kernel
theorem dJ6_bitCount_0f7a4_25 : decode cJ6_bitCount_0f7a4 25 = .ok (.iload_n 0, 1) := by decide +kernel
theorem dJ6_bitCount_0f7a4_26 : decode cJ6_bitCount_0f7a4 26 = .ok (.iconst 4, 1) := by decide +kernel
theorem dJ6_bitCount_0f7a4_27 : decode cJ6_bitCount_0f7a4 27 = .ok (.iushr, 1) := by decide +kernel
theorem dJ6_bitCount_0f7a4_28 : decode cJ6_bitCount_0f7a4 28 = .ok (.iadd, 1) := by decide +kernel
theorem dJ6_bitCount_0f7a4_29 : decode cJ6_bitCount_0f7a4 29 = .ok (.ldc_w 267, 3) := by decide +kernel
theorem dJ6_bitCount_0f7a4_32 : decode cJ6_bitCount_0f7a4 32 = .ok (.iand, 1) := by decide +kernel
theorem dJ6_bitCount_0f7a4_33 : decode cJ6_bitCount_0f7a4 33 = .ok (.istore_n 0, 1) := by decide +kernel
theorem dJ6_bitCount_0f7a4_34 : decode cJ6_bitCount_0f7a4 34 = .ok (.iload_n 0, 1) := by decide +kernel
theorem dJ6_bitCount_0f7a4_35 : decode cJ6_bitCount_0f7a4 35 = .ok (.iload_n 0, 1) := by decide +kernel
theorem dJ6_bitCount_0f7a4_36 : decode cJ6_bitCount_0f7a4 36 = .ok (.bipush 8, 2) := by decide +kernel
theorem dJ6_bitCount_0f7a4_38 : decode cJ6_bitCount_0f7a4 38 = .ok (.iushr, 1) := by decide +kernel
theorem dJ6_bitCount_0f7a4_39 : decode cJ6_bitCount_0f7a4 39 = .ok (.iadd, 1) := by decide +kernel
theorem dJ6_bitCount_0f7a4_40 : decode cJ6_bitCount_0f7a4 40 = .ok (.istore_n 0, 1) := by decide +kernel
theorem dJ6_bitCount_0f7a4_41 : decode cJ6_bitCount_0f7a4 41 = .ok (.iload_n 0, 1) := by decide +kernel
theorem dJ6_bitCount_0f7a4_42 : decode cJ6_bitCount_0f7a4 42 = .ok (.iload_n 0, 1) := by decide +kernel
theorem dJ6_bitCount_0f7a4_43 : decode cJ6_bitCount_0f7a4 43 = .ok (.bipush 16, 2) := by decide +kernel
theorem dJ6_bitCount_0f7a4_45 : decode cJ6_bitCount_0f7a4 45 = .ok (.iushr, 1) := by decide +kernel
theorem dJ6_bitCount_0f7a4_46 : decode cJ6_bitCount_0f7a4 46 = .ok (.iadd, 1) := by decide +kernel
theorem dJ6_bitCount_0f7a4_47 : decode cJ6_bitCount_0f7a4 47 = .ok (.istore_n 0, 1) := by decide +kernel
theorem dJ6_bitCount_0f7a4_48 : decode cJ6_bitCount_0f7a4 48 = .ok (.iload_n 0, 1) := by decide +kernel
theorem dJ6_bitCount_0f7a4_49 : decode cJ6_bitCount_0f7a4 49 = .ok (.bipush 63, 2) := by decide +kernel
theorem dJ6_bitCount_0f7a4_51 : decode cJ6_bitCount_0f7a4 51 = .ok (.iand, 1) := by decide +kernel
theorem dJ6_bitCount_0f7a4_52 : decode cJ6_bitCount_0f7a4 52 = .ok (.ireturn, 1) := by decide +kernel
theorem dJ9_max_7cf53_0 : decode cJ9_max_7cf53 0 = .ok (.iload_n 0, 1) := by decide +kernel
theorem dJ9_max_7cf53_1 : decode cJ9_max_7cf53 1 = .ok (.iload_n 1, 1) := by decide +kernel
theorem dJ9_max_7cf53_2 : decode cJ9_max_7cf53 2 = .ok (.if_icmp .lt 7, 3) := by decide +kernel
theorem dJ9_max_7cf53_5 : decode cJ9_max_7cf53 5 = .ok (.iload_n 0, 1) := by decide +kernel
theorem dJ9_max_7cf53_6 : decode cJ9_max_7cf53 6 = .ok (.goto 4, 3) := by decide +kernel
theorem dJ9_max_7cf53_9 : decode cJ9_max_7cf53 9 = .ok (.iload_n 1, 1) := by decide +kernel
theorem dJ9_max_7cf53_10 : decode cJ9_max_7cf53 10 = .ok (.ireturn, 1) := by decide +kernel
theorem dJ9_min_7cf53_0 : decode cJ9_min_7cf53 0 = .ok (.iload_n 0, 1) := by decide +kernel
theorem dJ9_min_7cf53_1 : decode cJ9_min_7cf53 1 = .ok (.iload_n 1, 1) := by decide +kernel
theorem dJ9_min_7cf53_2 : decode cJ9_min_7cf53 2 = .ok (.if_icmp .gt 7, 3) := by decide +kernel
theorem dJ9_min_7cf53_5 : decode cJ9_min_7cf53 5 = .ok (.iload_n 0, 1) := by decide +kernel
theorem dJ9_min_7cf53_6 : decode cJ9_min_7cf53 6 = .ok (.goto 4, 3) := by decide +kernel
theorem dJ9_min_7cf53_9 : decode cJ9_min_7cf53 9 = .ok (.iload_n 1, 1) := by decide +kernel
theorem dJ9_min_7cf53_10 : decode cJ9_min_7cf53 10 = .ok (.ireturn, 1) := by decide +kernel
end
section
theorem dJ7_fill_d0a16_0 : decode cJ7_fill_d0a16 0 = .ok (.iconst 0, 1) := by decide +kernel
theorem dJ7_fill_d0a16_1 : decode cJ7_fill_d0a16 1 = .ok (.istore_n 3, 1) := by decide +kernel
theorem dJ7_fill_d0a16_2 : decode cJ7_fill_d0a16 2 = .ok (.aload_n 0, 1) := by decide +kernel
theorem dJ7_fill_d0a16_3 : decode cJ7_fill_d0a16 3 = .ok (.arraylength, 1) := by decide +kernel
theorem dJ7_fill_d0a16_4 : decode cJ7_fill_d0a16 4 = .ok (.istore 4, 2) := by decide +kernel
theorem dJ7_fill_d0a16_6 : decode cJ7_fill_d0a16 6 = .ok (.iload_n 3, 1) := by decide +kernel
theorem dJ7_fill_d0a16_7 : decode cJ7_fill_d0a16 7 = .ok (.iload 4, 2) := by decide +kernel
theorem dJ7_fill_d0a16_9 : decode cJ7_fill_d0a16 9 = .ok (.if_icmp .ge 13, 3) := by decide +kernel
theorem dJ7_fill_d0a16_12 : decode cJ7_fill_d0a16 12 = .ok (.aload_n 0, 1) := by decide +kernel
theorem dJ7_fill_d0a16_13 : decode cJ7_fill_d0a16 13 = .ok (.iload_n 3, 1) := by decide +kernel
theorem dJ7_fill_d0a16_14 : decode cJ7_fill_d0a16 14 = .ok (.lload_n 1, 1) := by decide +kernel
theorem dJ7_fill_d0a16_15 : decode cJ7_fill_d0a16 15 = .ok (.lastore, 1) := by decide +kernel
theorem dJ7_fill_d0a16_16 : decode cJ7_fill_d0a16 16 = .ok (.iinc 3 1, 3) := by decide +kernel
theorem dJ7_fill_d0a16_19 : decode cJ7_fill_d0a16 19 = .ok (.goto (-13), 3) := by decide +kernel
theorem dJ7_fill_d0a16_22 : decode cJ7_fill_d0a16 22 = .ok (.return_, 1) := by decide +kernel
theorem dJ7_fill_53178_0 : decode cJ7_fill_53178 0 = .ok (.iconst 0, 1) := by decide +kernel
theorem dJ7_fill_53178_1 : decode cJ7_fill_53178 1 = .ok (.istore_n 2, 1) := by decide +kernel
theorem dJ7_fill_53178_2 : decode cJ7_fill_53178 2 = .ok (.aload_n 0, 1) := by decide +kernel
theorem dJ7_fill_53178_3 : decode cJ7_fill_53178 3 = .ok (.arraylength, 1) := by decide +kernel
theorem dJ7_fill_53178_4 : decode cJ7_fill_53178 4 = .ok (.istore_n 3, 1) := by decide +kernel
theorem dJ7_fill_53178_5 : decode cJ7_fill_53178 5 = .ok (.iload_n 2, 1) := by decide +kernel
theorem dJ7_fill_53178_6 : decode cJ7_fill_53178 6 = .ok (.iload_n 3, 1) := by decide +kernel
theorem dJ7_fill_53178_7 : decode cJ7_fill_53178 7 = .ok (.if_icmp .ge 13, 3) := by decide +kernel
theorem dJ7_fill_53178_10 : decode cJ7_fill_53178 10 = .ok (.aload_n 0, 1) := by decide +kernel
theorem dJ7_fill_53178_11 : decode cJ7_fill_53178 11 = .ok (.iload_n 2, 1) := by decide +kernel
theorem dJ7_fill_53178_12 : decode cJ7_fill_53178 12 = .ok (.iload_n 1, 1) := by decide +kernel
theorem dJ7_fill_53178_13 : decode cJ7_fill_53178 13 = .ok (.iastore, 1) := by decide +kernel
theorem dJ7_fill_53178_14 : decode cJ7_fill_53178 14 = .ok (.iinc 2 1, 3) := by decide +kernel
theorem dJ7_fill_53178_17 : decode cJ7_fill_53178 17 = .ok (.goto (-12), 3) := by decide +kernel
theorem dJ7_fill_53178_20 : decode cJ7_fill_53178 20 = .ok (.return_, 1) := by decide +kernel
theorem dL_law_0 : decode cL_law 0 = .ok (.new 7, 3) := by decide +kernel
theorem dL_law_3 : decode cL_law 3 = .ok (.dup, 1) := by decide +kernel
theorem dL_law_4 : decode cL_law 4 = .ok (.invokespecial 9, 3) := by decide +kernel
theorem dL_law_7 : decode cL_law 7 = .ok (.astore_n 1, 1) := by decide +kernel
theorem dL_law_8 : decode cL_law 8 = .ok (.new 10, 3) := by decide +kernel
theorem dL_law_11 : decode cL_law 11 = .ok (.dup, 1) := by decide +kernel
theorem dL_law_12 : decode cL_law 12 = .ok (.invokespecial 12, 3) := by decide +kernel
theorem dL_law_15 : decode cL_law 15 = .ok (.astore_n 2, 1) := by decide +kernel
theorem dL_law_16 : decode cL_law 16 = .ok (.iconst 0, 1) := by decide +kernel
theorem dL_law_17 : decode cL_law 17 = .ok (.istore_n 3, 1) := by decide +kernel
theorem dL_law_18 : decode cL_law 18 = .ok (.iload_n 3, 1) := by decide +kernel
theorem dL_law_19 : decode cL_law 19 = .ok (.aload_n 0, 1) := by decide +kernel
theorem dL_law_20 : decode cL_law 20 = .ok (.arraylength, 1) := by decide +kernel
theorem dL_law_21 : decode cL_law 21 = .ok (.bipush 6, 2) := by decide +kernel
theorem dL_law_23 : decode cL_law 23 = .ok (.isub, 1) := by decide +kernel
theorem dL_law_24 : decode cL_law 24 = .ok (.if_icmp .gt 1365, 3) := by decide +kernel
theorem dL_law_27 : decode cL_law 27 = .ok (.aload_n 0, 1) := by decide +kernel
theorem dL_law_28 : decode cL_law 28 = .ok (.iload_n 3, 1) := by decide +kernel
theorem dL_law_29 : decode cL_law 29 = .ok (.iaload, 1) := by decide +kernel
theorem dL_law_30 : decode cL_law 30 = .ok (.bipush 63, 2) := by decide +kernel
theorem dL_law_32 : decode cL_law 32 = .ok (.iand, 1) := by decide +kernel
theorem dL_law_33 : decode cL_law 33 = .ok (.tableswitch 1350 0 36 #[163, 196, 219, 242, 265, 298, 341, 384, 407, 430, 443, 466, 499, 542, 565, 578, 591, 624, 678, 702, 735, 768, 822, 855, 888, 901, 935, 979, 1012, 1055, 1098, 1121, 1174, 1217, 1280, 1313, 1336], 163) := by decide +kernel
theorem dL_law_196 : decode cL_law 196 = .ok (.aload_n 1, 1) := by decide +kernel
theorem dL_law_197 : decode cL_law 197 = .ok (.aload_n 0, 1) := by decide +kernel
theorem dL_law_198 : decode cL_law 198 = .ok (.iload_n 3, 1) := by decide +kernel
theorem dL_law_199 : decode cL_law 199 = .ok (.iconst 1, 1) := by decide +kernel
theorem dL_law_200 : decode cL_law 200 = .ok (.iadd, 1) := by decide +kernel
theorem dL_law_201 : decode cL_law 201 = .ok (.iaload, 1) := by decide +kernel
theorem dL_law_202 : decode cL_law 202 = .ok (.aload_n 0, 1) := by decide +kernel
theorem dL_law_203 : decode cL_law 203 = .ok (.iload_n 3, 1) := by decide +kernel
theorem dL_law_204 : decode cL_law 204 = .ok (.iconst 2, 1) := by decide +kernel
theorem dL_law_205 : decode cL_law 205 = .ok (.iadd, 1) := by decide +kernel
theorem dL_law_206 : decode cL_law 206 = .ok (.iaload, 1) := by decide +kernel
theorem dL_law_207 : decode cL_law 207 = .ok (.invokevirtual 13, 3) := by decide +kernel
theorem dL_law_210 : decode cL_law 210 = .ok (.aload_n 2, 1) := by decide +kernel
theorem dL_law_211 : decode cL_law 211 = .ok (.aload_n 0, 1) := by decide +kernel
theorem dL_law_212 : decode cL_law 212 = .ok (.iload_n 3, 1) := by decide +kernel
theorem dL_law_213 : decode cL_law 213 = .ok (.iconst 1, 1) := by decide +kernel
theorem dL_law_214 : decode cL_law 214 = .ok (.iadd, 1) := by decide +kernel
theorem dL_law_215 : decode cL_law 215 = .ok (.iaload, 1) := by decide +kernel
theorem dL_law_216 : decode cL_law 216 = .ok (.aload_n 0, 1) := by decide +kernel
theorem dL_law_217 : decode cL_law 217 = .ok (.iload_n 3, 1) := by decide +kernel
theorem dL_law_218 : decode cL_law 218 = .ok (.iconst 2, 1) := by decide +kernel
theorem dL_law_219 : decode cL_law 219 = .ok (.iadd, 1) := by decide +kernel
theorem dL_law_220 : decode cL_law 220 = .ok (.iaload, 1) := by decide +kernel
theorem dL_law_221 : decode cL_law 221 = .ok (.invokevirtual 17, 3) := by decide +kernel
theorem dL_law_224 : decode cL_law 224 = .ok (.if_icmp .eq 1159, 3) := by decide +kernel
theorem dL_law_227 : decode cL_law 227 = .ok (.iconst 0, 1) := by decide +kernel
theorem dL_law_228 : decode cL_law 228 = .ok (.ireturn, 1) := by decide +kernel
theorem dL_law_229 : decode cL_law 229 = .ok (.aload_n 1, 1) := by decide +kernel
theorem dL_law_230 : decode cL_law 230 = .ok (.aload_n 0, 1) := by decide +kernel
theorem dL_law_231 : decode cL_law 231 = .ok (.iload_n 3, 1) := by decide +kernel
theorem dL_law_232 : decode cL_law 232 = .ok (.iconst 1, 1) := by decide +kernel
theorem dL_law_233 : decode cL_law 233 = .ok (.iadd, 1) := by decide +kernel
theorem dL_law_234 : decode cL_law 234 = .ok (.iaload, 1) := by decide +kernel
theorem dL_law_235 : decode cL_law 235 = .ok (.invokevirtual 18, 3) := by decide +kernel
theorem dL_law_238 : decode cL_law 238 = .ok (.aload_n 2, 1) := by decide +kernel
theorem dL_law_239 : decode cL_law 239 = .ok (.aload_n 0, 1) := by decide +kernel
theorem dL_law_240 : decode cL_law 240 = .ok (.iload_n 3, 1) := by decide +kernel
theorem dL_law_241 : decode cL_law 241 = .ok (.iconst 1, 1) := by decide +kernel
theorem dL_law_242 : decode cL_law 242 = .ok (.iadd, 1) := by decide +kernel
theorem dL_law_243 : decode cL_law 243 = .ok (.iaload, 1) := by decide +kernel
theorem dL_law_244 : decode cL_law 244 = .ok (.invokevirtual 22, 3) := by decide +kernel
theorem dL_law_247 : decode cL_law 247 = .ok (.if_icmp .eq 1136, 3) := by decide +kernel
theorem dL_law_250 : decode cL_law 250 = .ok (.iconst 0, 1) := by decide +kernel
theorem dL_law_251 : decode cL_law 251 = .ok (.ireturn, 1) := by decide +kernel
theorem dL_law_252 : decode cL_law 252 = .ok (.aload_n 1, 1) := by decide +kernel
theorem dL_law_253 : decode cL_law 253 = .ok (.aload_n 0, 1) := by decide +kernel
theorem dL_law_254 : decode cL_law 254 = .ok (.iload_n 3, 1) := by decide +kernel
theorem dL_law_255 : decode cL_law 255 = .ok (.iconst 1, 1) := by decide +kernel
theorem dL_law_256 : decode cL_law 256 = .ok (.iadd, 1) := by decide +kernel
theorem dL_law_257 : decode cL_law 257 = .ok (.iaload, 1) := by decide +kernel
theorem dL_law_258 : decode cL_law 258 = .ok (.invokevirtual 23, 3) := by decide +kernel
theorem dL_law_261 : decode cL_law 261 = .ok (.aload_n 2, 1) := by decide +kernel
theorem dL_law_262 : decode cL_law 262 = .ok (.aload_n 0, 1) := by decide +kernel
theorem dL_law_263 : decode cL_law 263 = .ok (.iload_n 3, 1) := by decide +kernel
theorem dL_law_264 : decode cL_law 264 = .ok (.iconst 1, 1) := by decide +kernel
theorem dL_law_265 : decode cL_law 265 = .ok (.iadd, 1) := by decide +kernel
theorem dL_law_266 : decode cL_law 266 = .ok (.iaload, 1) := by decide +kernel
theorem dL_law_267 : decode cL_law 267 = .ok (.invokevirtual 26, 3) := by decide +kernel
theorem dL_law_270 : decode cL_law 270 = .ok (.if_icmp .eq 1113, 3) := by decide +kernel
theorem dL_law_273 : decode cL_law 273 = .ok (.iconst 0, 1) := by decide +kernel
theorem dL_law_274 : decode cL_law 274 = .ok (.ireturn, 1) := by decide +kernel
theorem dL_law_275 : decode cL_law 275 = .ok (.aload_n 1, 1) := by decide +kernel
theorem dL_law_276 : decode cL_law 276 = .ok (.aload_n 0, 1) := by decide +kernel
theorem dL_law_277 : decode cL_law 277 = .ok (.iload_n 3, 1) := by decide +kernel
theorem dL_law_278 : decode cL_law 278 = .ok (.iconst 1, 1) := by decide +kernel
theorem dL_law_279 : decode cL_law 279 = .ok (.iadd, 1) := by decide +kernel
theorem dL_law_280 : decode cL_law 280 = .ok (.iaload, 1) := by decide +kernel
theorem dL_law_281 : decode cL_law 281 = .ok (.invokevirtual 27, 3) := by decide +kernel
theorem dL_law_284 : decode cL_law 284 = .ok (.aload_n 2, 1) := by decide +kernel
theorem dL_law_285 : decode cL_law 285 = .ok (.aload_n 0, 1) := by decide +kernel
theorem dL_law_286 : decode cL_law 286 = .ok (.iload_n 3, 1) := by decide +kernel
theorem dL_law_287 : decode cL_law 287 = .ok (.iconst 1, 1) := by decide +kernel
theorem dL_law_288 : decode cL_law 288 = .ok (.iadd, 1) := by decide +kernel
theorem dL_law_289 : decode cL_law 289 = .ok (.iaload, 1) := by decide +kernel
theorem dL_law_290 : decode cL_law 290 = .ok (.invokevirtual 30, 3) := by decide +kernel
theorem dL_law_293 : decode cL_law 293 = .ok (.if_icmp .eq 1090, 3) := by decide +kernel
theorem dL_law_296 : decode cL_law 296 = .ok (.iconst 0, 1) := by decide +kernel
theorem dL_law_297 : decode cL_law 297 = .ok (.ireturn, 1) := by decide +kernel
theorem dL_law_298 : decode cL_law 298 = .ok (.aload_n 1, 1) := by decide +kernel
theorem dL_law_299 : decode cL_law 299 = .ok (.aload_n 0, 1) := by decide +kernel
theorem dL_law_300 : decode cL_law 300 = .ok (.iload_n 3, 1) := by decide +kernel
theorem dL_law_301 : decode cL_law 301 = .ok (.iconst 1, 1) := by decide +kernel
theorem dL_law_302 : decode cL_law 302 = .ok (.iadd, 1) := by decide +kernel
theorem dL_law_303 : decode cL_law 303 = .ok (.iaload, 1) := by decide +kernel
theorem dL_law_304 : decode cL_law 304 = .ok (.aload_n 0, 1) := by decide +kernel
theorem dL_law_305 : decode cL_law 305 = .ok (.iload_n 3, 1) := by decide +kernel
theorem dL_law_306 : decode cL_law 306 = .ok (.iconst 2, 1) := by decide +kernel
theorem dL_law_307 : decode cL_law 307 = .ok (.iadd, 1) := by decide +kernel
theorem dL_law_308 : decode cL_law 308 = .ok (.iaload, 1) := by decide +kernel
theorem dL_law_309 : decode cL_law 309 = .ok (.invokevirtual 31, 3) := by decide +kernel
theorem dL_law_312 : decode cL_law 312 = .ok (.aload_n 2, 1) := by decide +kernel
theorem dL_law_313 : decode cL_law 313 = .ok (.aload_n 0, 1) := by decide +kernel
theorem dL_law_314 : decode cL_law 314 = .ok (.iload_n 3, 1) := by decide +kernel
theorem dL_law_315 : decode cL_law 315 = .ok (.iconst 1, 1) := by decide +kernel
theorem dL_law_316 : decode cL_law 316 = .ok (.iadd, 1) := by decide +kernel
theorem dL_law_317 : decode cL_law 317 = .ok (.iaload, 1) := by decide +kernel
theorem dL_law_318 : decode cL_law 318 = .ok (.aload_n 0, 1) := by decide +kernel
theorem dL_law_319 : decode cL_law 319 = .ok (.iload_n 3, 1) := by decide +kernel
theorem dL_law_320 : decode cL_law 320 = .ok (.iconst 2, 1) := by decide +kernel
theorem dL_law_321 : decode cL_law 321 = .ok (.iadd, 1) := by decide +kernel
theorem dL_law_322 : decode cL_law 322 = .ok (.iaload, 1) := by decide +kernel
theorem dL_law_323 : decode cL_law 323 = .ok (.invokevirtual 34, 3) := by decide +kernel
theorem dL_law_326 : decode cL_law 326 = .ok (.if_icmp .eq 1057, 3) := by decide +kernel
theorem dL_law_329 : decode cL_law 329 = .ok (.iconst 0, 1) := by decide +kernel
theorem dL_law_330 : decode cL_law 330 = .ok (.ireturn, 1) := by decide +kernel
theorem dL_law_331 : decode cL_law 331 = .ok (.aload_n 1, 1) := by decide +kernel
theorem dL_law_332 : decode cL_law 332 = .ok (.aload_n 0, 1) := by decide +kernel
theorem dL_law_333 : decode cL_law 333 = .ok (.iload_n 3, 1) := by decide +kernel
theorem dL_law_334 : decode cL_law 334 = .ok (.iconst 1, 1) := by decide +kernel
theorem dL_law_335 : decode cL_law 335 = .ok (.iadd, 1) := by decide +kernel
theorem dL_law_336 : decode cL_law 336 = .ok (.iaload, 1) := by decide +kernel
theorem dL_law_337 : decode cL_law 337 = .ok (.aload_n 0, 1) := by decide +kernel
theorem dL_law_338 : decode cL_law 338 = .ok (.iload_n 3, 1) := by decide +kernel
theorem dL_law_339 : decode cL_law 339 = .ok (.iconst 2, 1) := by decide +kernel
theorem dL_law_340 : decode cL_law 340 = .ok (.iadd, 1) := by decide +kernel
theorem dL_law_341 : decode cL_law 341 = .ok (.iaload, 1) := by decide +kernel
theorem dL_law_342 : decode cL_law 342 = .ok (.aload_n 0, 1) := by decide +kernel
theorem dL_law_343 : decode cL_law 343 = .ok (.iload_n 3, 1) := by decide +kernel
theorem dL_law_344 : decode cL_law 344 = .ok (.iconst 3, 1) := by decide +kernel
theorem dL_law_345 : decode cL_law 345 = .ok (.iadd, 1) := by decide +kernel
theorem dL_law_346 : decode cL_law 346 = .ok (.iaload, 1) := by decide +kernel
theorem dL_law_347 : decode cL_law 347 = .ok (.invokevirtual 35, 3) := by decide +kernel
theorem dL_law_350 : decode cL_law 350 = .ok (.aload_n 2, 1) := by decide +kernel
theorem dL_law_351 : decode cL_law 351 = .ok (.aload_n 0, 1) := by decide +kernel
theorem dL_law_352 : decode cL_law 352 = .ok (.iload_n 3, 1) := by decide +kernel
theorem dL_law_353 : decode cL_law 353 = .ok (.iconst 1, 1) := by decide +kernel
theorem dL_law_354 : decode cL_law 354 = .ok (.iadd, 1) := by decide +kernel
theorem dL_law_355 : decode cL_law 355 = .ok (.iaload, 1) := by decide +kernel
theorem dL_law_356 : decode cL_law 356 = .ok (.aload_n 0, 1) := by decide +kernel
theorem dL_law_357 : decode cL_law 357 = .ok (.iload_n 3, 1) := by decide +kernel
theorem dL_law_358 : decode cL_law 358 = .ok (.iconst 2, 1) := by decide +kernel
theorem dL_law_359 : decode cL_law 359 = .ok (.iadd, 1) := by decide +kernel
theorem dL_law_360 : decode cL_law 360 = .ok (.iaload, 1) := by decide +kernel
theorem dL_law_361 : decode cL_law 361 = .ok (.aload_n 0, 1) := by decide +kernel
theorem dL_law_362 : decode cL_law 362 = .ok (.iload_n 3, 1) := by decide +kernel
theorem dL_law_363 : decode cL_law 363 = .ok (.iconst 3, 1) := by decide +kernel
theorem dL_law_364 : decode cL_law 364 = .ok (.iadd, 1) := by decide +kernel
theorem dL_law_365 : decode cL_law 365 = .ok (.iaload, 1) := by decide +kernel
theorem dL_law_366 : decode cL_law 366 = .ok (.invokevirtual 39, 3) := by decide +kernel
theorem dL_law_369 : decode cL_law 369 = .ok (.if_icmp .eq 1014, 3) := by decide +kernel
theorem dL_law_372 : decode cL_law 372 = .ok (.iconst 0, 1) := by decide +kernel
theorem dL_law_373 : decode cL_law 373 = .ok (.ireturn, 1) := by decide +kernel
theorem dL_law_374 : decode cL_law 374 = .ok (.aload_n 1, 1) := by decide +kernel
theorem dL_law_375 : decode cL_law 375 = .ok (.aload_n 0, 1) := by decide +kernel
theorem dL_law_376 : decode cL_law 376 = .ok (.iload_n 3, 1) := by decide +kernel
theorem dL_law_377 : decode cL_law 377 = .ok (.iconst 1, 1) := by decide +kernel
theorem dL_law_378 : decode cL_law 378 = .ok (.iadd, 1) := by decide +kernel
theorem dL_law_379 : decode cL_law 379 = .ok (.iaload, 1) := by decide +kernel
theorem dL_law_380 : decode cL_law 380 = .ok (.aload_n 0, 1) := by decide +kernel
theorem dL_law_381 : decode cL_law 381 = .ok (.iload_n 3, 1) := by decide +kernel
theorem dL_law_382 : decode cL_law 382 = .ok (.iconst 2, 1) := by decide +kernel
theorem dL_law_383 : decode cL_law 383 = .ok (.iadd, 1) := by decide +kernel
theorem dL_law_384 : decode cL_law 384 = .ok (.iaload, 1) := by decide +kernel
theorem dL_law_385 : decode cL_law 385 = .ok (.aload_n 0, 1) := by decide +kernel
theorem dL_law_386 : decode cL_law 386 = .ok (.iload_n 3, 1) := by decide +kernel
theorem dL_law_387 : decode cL_law 387 = .ok (.iconst 3, 1) := by decide +kernel
theorem dL_law_388 : decode cL_law 388 = .ok (.iadd, 1) := by decide +kernel
theorem dL_law_389 : decode cL_law 389 = .ok (.iaload, 1) := by decide +kernel
theorem dL_law_390 : decode cL_law 390 = .ok (.invokevirtual 40, 3) := by decide +kernel
theorem dL_law_393 : decode cL_law 393 = .ok (.aload_n 2, 1) := by decide +kernel
theorem dL_law_394 : decode cL_law 394 = .ok (.aload_n 0, 1) := by decide +kernel
theorem dL_law_395 : decode cL_law 395 = .ok (.iload_n 3, 1) := by decide +kernel
theorem dL_law_396 : decode cL_law 396 = .ok (.iconst 1, 1) := by decide +kernel
theorem dL_law_397 : decode cL_law 397 = .ok (.iadd, 1) := by decide +kernel
theorem dL_law_398 : decode cL_law 398 = .ok (.iaload, 1) := by decide +kernel
theorem dL_law_399 : decode cL_law 399 = .ok (.aload_n 0, 1) := by decide +kernel
theorem dL_law_400 : decode cL_law 400 = .ok (.iload_n 3, 1) := by decide +kernel
theorem dL_law_401 : decode cL_law 401 = .ok (.iconst 2, 1) := by decide +kernel
theorem dL_law_402 : decode cL_law 402 = .ok (.iadd, 1) := by decide +kernel
theorem dL_law_403 : decode cL_law 403 = .ok (.iaload, 1) := by decide +kernel
theorem dL_law_404 : decode cL_law 404 = .ok (.aload_n 0, 1) := by decide +kernel
theorem dL_law_405 : decode cL_law 405 = .ok (.iload_n 3, 1) := by decide +kernel
theorem dL_law_406 : decode cL_law 406 = .ok (.iconst 3, 1) := by decide +kernel
theorem dL_law_407 : decode cL_law 407 = .ok (.iadd, 1) := by decide +kernel
theorem dL_law_408 : decode cL_law 408 = .ok (.iaload, 1) := by decide +kernel
theorem dL_law_409 : decode cL_law 409 = .ok (.invokevirtual 43, 3) := by decide +kernel
theorem dL_law_412 : decode cL_law 412 = .ok (.if_icmp .eq 971, 3) := by decide +kernel
theorem dL_law_415 : decode cL_law 415 = .ok (.iconst 0, 1) := by decide +kernel
theorem dL_law_416 : decode cL_law 416 = .ok (.ireturn, 1) := by decide +kernel
theorem dL_law_417 : decode cL_law 417 = .ok (.aload_n 1, 1) := by decide +kernel
theorem dL_law_418 : decode cL_law 418 = .ok (.aload_n 0, 1) := by decide +kernel
theorem dL_law_419 : decode cL_law 419 = .ok (.iload_n 3, 1) := by decide +kernel
theorem dL_law_420 : decode cL_law 420 = .ok (.iconst 1, 1) := by decide +kernel
theorem dL_law_421 : decode cL_law 421 = .ok (.iadd, 1) := by decide +kernel
theorem dL_law_422 : decode cL_law 422 = .ok (.iaload, 1) := by decide +kernel
theorem dL_law_423 : decode cL_law 423 = .ok (.invokevirtual 44, 3) := by decide +kernel
theorem dL_law_426 : decode cL_law 426 = .ok (.aload_n 2, 1) := by decide +kernel
theorem dL_law_427 : decode cL_law 427 = .ok (.aload_n 0, 1) := by decide +kernel
theorem dL_law_428 : decode cL_law 428 = .ok (.iload_n 3, 1) := by decide +kernel
theorem dL_law_429 : decode cL_law 429 = .ok (.iconst 1, 1) := by decide +kernel
theorem dL_law_430 : decode cL_law 430 = .ok (.iadd, 1) := by decide +kernel
theorem dL_law_431 : decode cL_law 431 = .ok (.iaload, 1) := by decide +kernel
theorem dL_law_432 : decode cL_law 432 = .ok (.invokevirtual 47, 3) := by decide +kernel
theorem dL_law_435 : decode cL_law 435 = .ok (.if_icmp .eq 948, 3) := by decide +kernel
theorem dL_law_438 : decode cL_law 438 = .ok (.iconst 0, 1) := by decide +kernel
theorem dL_law_439 : decode cL_law 439 = .ok (.ireturn, 1) := by decide +kernel
theorem dL_law_440 : decode cL_law 440 = .ok (.aload_n 1, 1) := by decide +kernel
theorem dL_law_441 : decode cL_law 441 = .ok (.aload_n 0, 1) := by decide +kernel
theorem dL_law_442 : decode cL_law 442 = .ok (.iload_n 3, 1) := by decide +kernel
theorem dL_law_443 : decode cL_law 443 = .ok (.iconst 1, 1) := by decide +kernel
theorem dL_law_444 : decode cL_law 444 = .ok (.iadd, 1) := by decide +kernel
theorem dL_law_445 : decode cL_law 445 = .ok (.iaload, 1) := by decide +kernel
theorem dL_law_446 : decode cL_law 446 = .ok (.invokevirtual 48, 3) := by decide +kernel
theorem dL_law_449 : decode cL_law 449 = .ok (.aload_n 2, 1) := by decide +kernel
theorem dL_law_450 : decode cL_law 450 = .ok (.aload_n 0, 1) := by decide +kernel
theorem dL_law_451 : decode cL_law 451 = .ok (.iload_n 3, 1) := by decide +kernel
theorem dL_law_452 : decode cL_law 452 = .ok (.iconst 1, 1) := by decide +kernel
theorem dL_law_453 : decode cL_law 453 = .ok (.iadd, 1) := by decide +kernel
theorem dL_law_454 : decode cL_law 454 = .ok (.iaload, 1) := by decide +kernel
theorem dL_law_455 : decode cL_law 455 = .ok (.invokevirtual 51, 3) := by decide +kernel
theorem dL_law_458 : decode cL_law 458 = .ok (.if_icmp .eq 925, 3) := by decide +kernel
theorem dL_law_461 : decode cL_law 461 = .ok (.iconst 0, 1) := by decide +kernel
theorem dL_law_462 : decode cL_law 462 = .ok (.ireturn, 1) := by decide +kernel
theorem dL_law_463 : decode cL_law 463 = .ok (.aload_n 1, 1) := by decide +kernel
theorem dL_law_464 : decode cL_law 464 = .ok (.invokevirtual 52, 3) := by decide +kernel
theorem dL_law_467 : decode cL_law 467 = .ok (.aload_n 2, 1) := by decide +kernel
theorem dL_law_468 : decode cL_law 468 = .ok (.invokevirtual 56, 3) := by decide +kernel
theorem dL_law_471 : decode cL_law 471 = .ok (.if_icmp .eq 912, 3) := by decide +kernel
theorem dL_law_474 : decode cL_law 474 = .ok (.iconst 0, 1) := by decide +kernel
theorem dL_law_475 : decode cL_law 475 = .ok (.ireturn, 1) := by decide +kernel
theorem dL_law_476 : decode cL_law 476 = .ok (.aload_n 1, 1) := by decide +kernel
theorem dL_law_477 : decode cL_law 477 = .ok (.aload_n 0, 1) := by decide +kernel
theorem dL_law_478 : decode cL_law 478 = .ok (.iload_n 3, 1) := by decide +kernel
theorem dL_law_479 : decode cL_law 479 = .ok (.iconst 1, 1) := by decide +kernel
theorem dL_law_480 : decode cL_law 480 = .ok (.iadd, 1) := by decide +kernel
theorem dL_law_481 : decode cL_law 481 = .ok (.iaload, 1) := by decide +kernel
theorem dL_law_482 : decode cL_law 482 = .ok (.invokevirtual 57, 3) := by decide +kernel
theorem dL_law_485 : decode cL_law 485 = .ok (.aload_n 2, 1) := by decide +kernel
theorem dL_law_486 : decode cL_law 486 = .ok (.aload_n 0, 1) := by decide +kernel
theorem dL_law_487 : decode cL_law 487 = .ok (.iload_n 3, 1) := by decide +kernel
theorem dL_law_488 : decode cL_law 488 = .ok (.iconst 1, 1) := by decide +kernel
theorem dL_law_489 : decode cL_law 489 = .ok (.iadd, 1) := by decide +kernel
theorem dL_law_490 : decode cL_law 490 = .ok (.iaload, 1) := by decide +kernel
theorem dL_law_491 : decode cL_law 491 = .ok (.invokevirtual 60, 3) := by decide +kernel
theorem dL_law_494 : decode cL_law 494 = .ok (.if_icmp .eq 889, 3) := by decide +kernel
theorem dL_law_497 : decode cL_law 497 = .ok (.iconst 0, 1) := by decide +kernel
theorem dL_law_498 : decode cL_law 498 = .ok (.ireturn, 1) := by decide +kernel
theorem dL_law_499 : decode cL_law 499 = .ok (.aload_n 1, 1) := by decide +kernel
theorem dL_law_500 : decode cL_law 500 = .ok (.aload_n 0, 1) := by decide +kernel
theorem dL_law_501 : decode cL_law 501 = .ok (.iload_n 3, 1) := by decide +kernel
theorem dL_law_502 : decode cL_law 502 = .ok (.iconst 1, 1) := by decide +kernel
theorem dL_law_503 : decode cL_law 503 = .ok (.iadd, 1) := by decide +kernel
theorem dL_law_504 : decode cL_law 504 = .ok (.iaload, 1) := by decide +kernel
theorem dL_law_505 : decode cL_law 505 = .ok (.aload_n 0, 1) := by decide +kernel
theorem dL_law_506 : decode cL_law 506 = .ok (.iload_n 3, 1) := by decide +kernel
theorem dL_law_507 : decode cL_law 507 = .ok (.iconst 2, 1) := by decide +kernel
theorem dL_law_508 : decode cL_law 508 = .ok (.iadd, 1) := by decide +kernel
theorem dL_law_509 : decode cL_law 509 = .ok (.iaload, 1) := by decide +kernel
theorem dL_law_510 : decode cL_law 510 = .ok (.invokevirtual 61, 3) := by decide +kernel
theorem dL_law_513 : decode cL_law 513 = .ok (.aload_n 2, 1) := by decide +kernel
theorem dL_law_514 : decode cL_law 514 = .ok (.aload_n 0, 1) := by decide +kernel
theorem dL_law_515 : decode cL_law 515 = .ok (.iload_n 3, 1) := by decide +kernel
theorem dL_law_516 : decode cL_law 516 = .ok (.iconst 1, 1) := by decide +kernel
theorem dL_law_517 : decode cL_law 517 = .ok (.iadd, 1) := by decide +kernel
theorem dL_law_518 : decode cL_law 518 = .ok (.iaload, 1) := by decide +kernel
theorem dL_law_519 : decode cL_law 519 = .ok (.aload_n 0, 1) := by decide +kernel
theorem dL_law_520 : decode cL_law 520 = .ok (.iload_n 3, 1) := by decide +kernel
theorem dL_law_521 : decode cL_law 521 = .ok (.iconst 2, 1) := by decide +kernel
theorem dL_law_522 : decode cL_law 522 = .ok (.iadd, 1) := by decide +kernel
theorem dL_law_523 : decode cL_law 523 = .ok (.iaload, 1) := by decide +kernel
theorem dL_law_524 : decode cL_law 524 = .ok (.invokevirtual 64, 3) := by decide +kernel
theorem dL_law_527 : decode cL_law 527 = .ok (.if_icmp .eq 856, 3) := by decide +kernel
theorem dL_law_530 : decode cL_law 530 = .ok (.iconst 0, 1) := by decide +kernel
theorem dL_law_531 : decode cL_law 531 = .ok (.ireturn, 1) := by decide +kernel
theorem dL_law_532 : decode cL_law 532 = .ok (.aload_n 1, 1) := by decide +kernel
theorem dL_law_533 : decode cL_law 533 = .ok (.aload_n 0, 1) := by decide +kernel
theorem dL_law_534 : decode cL_law 534 = .ok (.iload_n 3, 1) := by decide +kernel
theorem dL_law_535 : decode cL_law 535 = .ok (.iconst 1, 1) := by decide +kernel
theorem dL_law_536 : decode cL_law 536 = .ok (.iadd, 1) := by decide +kernel
theorem dL_law_537 : decode cL_law 537 = .ok (.iaload, 1) := by decide +kernel
theorem dL_law_538 : decode cL_law 538 = .ok (.aload_n 0, 1) := by decide +kernel
theorem dL_law_539 : decode cL_law 539 = .ok (.iload_n 3, 1) := by decide +kernel
theorem dL_law_540 : decode cL_law 540 = .ok (.iconst 2, 1) := by decide +kernel
theorem dL_law_541 : decode cL_law 541 = .ok (.iadd, 1) := by decide +kernel
theorem dL_law_542 : decode cL_law 542 = .ok (.iaload, 1) := by decide +kernel
theorem dL_law_543 : decode cL_law 543 = .ok (.aload_n 0, 1) := by decide +kernel
theorem dL_law_544 : decode cL_law 544 = .ok (.iload_n 3, 1) := by decide +kernel
theorem dL_law_545 : decode cL_law 545 = .ok (.iconst 3, 1) := by decide +kernel
theorem dL_law_546 : decode cL_law 546 = .ok (.iadd, 1) := by decide +kernel
theorem dL_law_547 : decode cL_law 547 = .ok (.iaload, 1) := by decide +kernel
theorem dL_law_548 : decode cL_law 548 = .ok (.invokevirtual 65, 3) := by decide +kernel
theorem dL_law_551 : decode cL_law 551 = .ok (.aload_n 2, 1) := by decide +kernel
theorem dL_law_552 : decode cL_law 552 = .ok (.aload_n 0, 1) := by decide +kernel
theorem dL_law_553 : decode cL_law 553 = .ok (.iload_n 3, 1) := by decide +kernel
theorem dL_law_554 : decode cL_law 554 = .ok (.iconst 1, 1) := by decide +kernel
theorem dL_law_555 : decode cL_law 555 = .ok (.iadd, 1) := by decide +kernel
theorem dL_law_556 : decode cL_law 556 = .ok (.iaload, 1) := by decide +kernel
theorem dL_law_557 : decode cL_law 557 = .ok (.aload_n 0, 1) := by decide +kernel
theorem dL_law_558 : decode cL_law 558 = .ok (.iload_n 3, 1) := by decide +kernel
theorem dL_law_559 : decode cL_law 559 = .ok (.iconst 2, 1) := by decide +kernel
theorem dL_law_560 : decode cL_law 560 = .ok (.iadd, 1) := by decide +kernel
theorem dL_law_561 : decode cL_law 561 = .ok (.iaload, 1) := by decide +kernel
theorem dL_law_562 : decode cL_law 562 = .ok (.aload_n 0, 1) := by decide +kernel
theorem dL_law_563 : decode cL_law 563 = .ok (.iload_n 3, 1) := by decide +kernel
theorem dL_law_564 : decode cL_law 564 = .ok (.iconst 3, 1) := by decide +kernel
theorem dL_law_565 : decode cL_law 565 = .ok (.iadd, 1) := by decide +kernel
theorem dL_law_566 : decode cL_law 566 = .ok (.iaload, 1) := by decide +kernel
theorem dL_law_567 : decode cL_law 567 = .ok (.invokevirtual 68, 3) := by decide +kernel
theorem dL_law_570 : decode cL_law 570 = .ok (.if_icmp .eq 813, 3) := by decide +kernel
theorem dL_law_573 : decode cL_law 573 = .ok (.iconst 0, 1) := by decide +kernel
theorem dL_law_574 : decode cL_law 574 = .ok (.ireturn, 1) := by decide +kernel
theorem dL_law_575 : decode cL_law 575 = .ok (.aload_n 1, 1) := by decide +kernel
theorem dL_law_576 : decode cL_law 576 = .ok (.aload_n 0, 1) := by decide +kernel
theorem dL_law_577 : decode cL_law 577 = .ok (.iload_n 3, 1) := by decide +kernel
theorem dL_law_578 : decode cL_law 578 = .ok (.iconst 1, 1) := by decide +kernel
theorem dL_law_579 : decode cL_law 579 = .ok (.iadd, 1) := by decide +kernel
theorem dL_law_580 : decode cL_law 580 = .ok (.iaload, 1) := by decide +kernel
theorem dL_law_581 : decode cL_law 581 = .ok (.invokevirtual 69, 3) := by decide +kernel
theorem dL_law_584 : decode cL_law 584 = .ok (.aload_n 2, 1) := by decide +kernel
theorem dL_law_585 : decode cL_law 585 = .ok (.aload_n 0, 1) := by decide +kernel
theorem dL_law_586 : decode cL_law 586 = .ok (.iload_n 3, 1) := by decide +kernel
theorem dL_law_587 : decode cL_law 587 = .ok (.iconst 1, 1) := by decide +kernel
theorem dL_law_588 : decode cL_law 588 = .ok (.iadd, 1) := by decide +kernel
theorem dL_law_589 : decode cL_law 589 = .ok (.iaload, 1) := by decide +kernel
theorem dL_law_590 : decode cL_law 590 = .ok (.invokevirtual 72, 3) := by decide +kernel
theorem dL_law_593 : decode cL_law 593 = .ok (.if_icmp .eq 790, 3) := by decide +kernel
theorem dL_law_596 : decode cL_law 596 = .ok (.iconst 0, 1) := by decide +kernel
theorem dL_law_597 : decode cL_law 597 = .ok (.ireturn, 1) := by decide +kernel
theorem dL_law_598 : decode cL_law 598 = .ok (.aload_n 1, 1) := by decide +kernel
theorem dL_law_599 : decode cL_law 599 = .ok (.invokevirtual 73, 3) := by decide +kernel
theorem dL_law_602 : decode cL_law 602 = .ok (.aload_n 2, 1) := by decide +kernel
theorem dL_law_603 : decode cL_law 603 = .ok (.invokevirtual 76, 3) := by decide +kernel
theorem dL_law_606 : decode cL_law 606 = .ok (.if_icmp .eq 777, 3) := by decide +kernel
theorem dL_law_609 : decode cL_law 609 = .ok (.iconst 0, 1) := by decide +kernel
theorem dL_law_610 : decode cL_law 610 = .ok (.ireturn, 1) := by decide +kernel
theorem dL_law_611 : decode cL_law 611 = .ok (.aload_n 1, 1) := by decide +kernel
theorem dL_law_612 : decode cL_law 612 = .ok (.invokevirtual 77, 3) := by decide +kernel
theorem dL_law_615 : decode cL_law 615 = .ok (.aload_n 2, 1) := by decide +kernel
theorem dL_law_616 : decode cL_law 616 = .ok (.invokevirtual 80, 3) := by decide +kernel
theorem dL_law_619 : decode cL_law 619 = .ok (.if_icmp .eq 764, 3) := by decide +kernel
theorem dL_law_622 : decode cL_law 622 = .ok (.iconst 0, 1) := by decide +kernel
theorem dL_law_623 : decode cL_law 623 = .ok (.ireturn, 1) := by decide +kernel
theorem dL_law_624 : decode cL_law 624 = .ok (.aload_n 1, 1) := by decide +kernel
theorem dL_law_625 : decode cL_law 625 = .ok (.aload_n 0, 1) := by decide +kernel
theorem dL_law_626 : decode cL_law 626 = .ok (.iload_n 3, 1) := by decide +kernel
theorem dL_law_627 : decode cL_law 627 = .ok (.iconst 1, 1) := by decide +kernel
theorem dL_law_628 : decode cL_law 628 = .ok (.iadd, 1) := by decide +kernel
theorem dL_law_629 : decode cL_law 629 = .ok (.iaload, 1) := by decide +kernel
theorem dL_law_630 : decode cL_law 630 = .ok (.aload_n 0, 1) := by decide +kernel
theorem dL_law_631 : decode cL_law 631 = .ok (.iload_n 3, 1) := by decide +kernel
theorem dL_law_632 : decode cL_law 632 = .ok (.iconst 2, 1) := by decide +kernel
theorem dL_law_633 : decode cL_law 633 = .ok (.iadd, 1) := by decide +kernel
theorem dL_law_634 : decode cL_law 634 = .ok (.iaload, 1) := by decide +kernel
theorem dL_law_635 : decode cL_law 635 = .ok (.invokevirtual 81, 3) := by decide +kernel
theorem dL_law_638 : decode cL_law 638 = .ok (.aload_n 2, 1) := by decide +kernel
theorem dL_law_639 : decode cL_law 639 = .ok (.aload_n 0, 1) := by decide +kernel
theorem dL_law_640 : decode cL_law 640 = .ok (.iload_n 3, 1) := by decide +kernel
theorem dL_law_641 : decode cL_law 641 = .ok (.iconst 1, 1) := by decide +kernel
theorem dL_law_642 : decode cL_law 642 = .ok (.iadd, 1) := by decide +kernel
theorem dL_law_643 : decode cL_law 643 = .ok (.iaload, 1) := by decide +kernel
theorem dL_law_644 : decode cL_law 644 = .ok (.aload_n 0, 1) := by decide +kernel
theorem dL_law_645 : decode cL_law 645 = .ok (.iload_n 3, 1) := by decide +kernel
theorem dL_law_646 : decode cL_law 646 = .ok (.iconst 2, 1) := by decide +kernel
theorem dL_law_647 : decode cL_law 647 = .ok (.iadd, 1) := by decide +kernel
theorem dL_law_648 : decode cL_law 648 = .ok (.iaload, 1) := by decide +kernel
theorem dL_law_649 : decode cL_law 649 = .ok (.invokevirtual 84, 3) := by decide +kernel
theorem dL_law_652 : decode cL_law 652 = .ok (.if_icmp .eq 731, 3) := by decide +kernel
theorem dL_law_655 : decode cL_law 655 = .ok (.iconst 0, 1) := by decide +kernel
theorem dL_law_656 : decode cL_law 656 = .ok (.ireturn, 1) := by decide +kernel
theorem dL_law_657 : decode cL_law 657 = .ok (.aload_n 1, 1) := by decide +kernel
theorem dL_law_658 : decode cL_law 658 = .ok (.aload_n 0, 1) := by decide +kernel
theorem dL_law_659 : decode cL_law 659 = .ok (.iload_n 3, 1) := by decide +kernel
theorem dL_law_660 : decode cL_law 660 = .ok (.iconst 1, 1) := by decide +kernel
theorem dL_law_661 : decode cL_law 661 = .ok (.iadd, 1) := by decide +kernel
theorem dL_law_662 : decode cL_law 662 = .ok (.iaload, 1) := by decide +kernel
theorem dL_law_663 : decode cL_law 663 = .ok (.aload_n 0, 1) := by decide +kernel
theorem dL_law_664 : decode cL_law 664 = .ok (.iload_n 3, 1) := by decide +kernel
theorem dL_law_665 : decode cL_law 665 = .ok (.iconst 2, 1) := by decide +kernel
theorem dL_law_666 : decode cL_law 666 = .ok (.iadd, 1) := by decide +kernel
theorem dL_law_667 : decode cL_law 667 = .ok (.iaload, 1) := by decide +kernel
theorem dL_law_668 : decode cL_law 668 = .ok (.aload_n 0, 1) := by decide +kernel
theorem dL_law_669 : decode cL_law 669 = .ok (.iload_n 3, 1) := by decide +kernel
theorem dL_law_670 : decode cL_law 670 = .ok (.iconst 3, 1) := by decide +kernel
theorem dL_law_671 : decode cL_law 671 = .ok (.iadd, 1) := by decide +kernel
theorem dL_law_672 : decode cL_law 672 = .ok (.iaload, 1) := by decide +kernel
theorem dL_law_673 : decode cL_law 673 = .ok (.aload_n 0, 1) := by decide +kernel
theorem dL_law_674 : decode cL_law 674 = .ok (.iload_n 3, 1) := by decide +kernel
theorem dL_law_675 : decode cL_law 675 = .ok (.iconst 4, 1) := by decide +kernel
theorem dL_law_676 : decode cL_law 676 = .ok (.iadd, 1) := by decide +kernel
theorem dL_law_677 : decode cL_law 677 = .ok (.iaload, 1) := by decide +kernel
theorem dL_law_678 : decode cL_law 678 = .ok (.invokevirtual 85, 3) := by decide +kernel
theorem dL_law_681 : decode cL_law 681 = .ok (.aload_n 2, 1) := by decide +kernel
theorem dL_law_682 : decode cL_law 682 = .ok (.aload_n 0, 1) := by decide +kernel
theorem dL_law_683 : decode cL_law 683 = .ok (.iload_n 3, 1) := by decide +kernel
theorem dL_law_684 : decode cL_law 684 = .ok (.iconst 1, 1) := by decide +kernel
theorem dL_law_685 : decode cL_law 685 = .ok (.iadd, 1) := by decide +kernel
theorem dL_law_686 : decode cL_law 686 = .ok (.iaload, 1) := by decide +kernel
theorem dL_law_687 : decode cL_law 687 = .ok (.aload_n 0, 1) := by decide +kernel
theorem dL_law_688 : decode cL_law 688 = .ok (.iload_n 3, 1) := by decide +kernel
theorem dL_law_689 : decode cL_law 689 = .ok (.iconst 2, 1) := by decide +kernel
theorem dL_law_690 : decode cL_law 690 = .ok (.iadd, 1) := by decide +kernel
theorem dL_law_691 : decode cL_law 691 = .ok (.iaload, 1) := by decide +kernel
theorem dL_law_692 : decode cL_law 692 = .ok (.aload_n 0, 1) := by decide +kernel
theorem dL_law_693 : decode cL_law 693 = .ok (.iload_n 3, 1) := by decide +kernel
theorem dL_law_694 : decode cL_law 694 = .ok (.iconst 3, 1) := by decide +kernel
theorem dL_law_695 : decode cL_law 695 = .ok (.iadd, 1) := by decide +kernel
theorem dL_law_696 : decode cL_law 696 = .ok (.iaload, 1) := by decide +kernel
theorem dL_law_697 : decode cL_law 697 = .ok (.aload_n 0, 1) := by decide +kernel
theorem dL_law_698 : decode cL_law 698 = .ok (.iload_n 3, 1) := by decide +kernel
theorem dL_law_699 : decode cL_law 699 = .ok (.iconst 4, 1) := by decide +kernel
theorem dL_law_700 : decode cL_law 700 = .ok (.iadd, 1) := by decide +kernel
theorem dL_law_701 : decode cL_law 701 = .ok (.iaload, 1) := by decide +kernel
theorem dL_law_702 : decode cL_law 702 = .ok (.invokevirtual 89, 3) := by decide +kernel
theorem dL_law_705 : decode cL_law 705 = .ok (.lcmp, 1) := by decide +kernel
theorem dL_law_706 : decode cL_law 706 = .ok (.ifCond .eq 677, 3) := by decide +kernel
theorem dL_law_709 : decode cL_law 709 = .ok (.iconst 0, 1) := by decide +kernel
theorem dL_law_710 : decode cL_law 710 = .ok (.ireturn, 1) := by decide +kernel
theorem dL_law_711 : decode cL_law 711 = .ok (.aload_n 1, 1) := by decide +kernel
theorem dL_law_712 : decode cL_law 712 = .ok (.aload_n 0, 1) := by decide +kernel
theorem dL_law_713 : decode cL_law 713 = .ok (.iload_n 3, 1) := by decide +kernel
theorem dL_law_714 : decode cL_law 714 = .ok (.iconst 1, 1) := by decide +kernel
theorem dL_law_715 : decode cL_law 715 = .ok (.iadd, 1) := by decide +kernel
theorem dL_law_716 : decode cL_law 716 = .ok (.iaload, 1) := by decide +kernel
theorem dL_law_717 : decode cL_law 717 = .ok (.invokevirtual 90, 3) := by decide +kernel
theorem dL_law_720 : decode cL_law 720 = .ok (.aload_n 2, 1) := by decide +kernel
theorem dL_law_721 : decode cL_law 721 = .ok (.aload_n 0, 1) := by decide +kernel
theorem dL_law_722 : decode cL_law 722 = .ok (.iload_n 3, 1) := by decide +kernel
theorem dL_law_723 : decode cL_law 723 = .ok (.iconst 1, 1) := by decide +kernel
theorem dL_law_724 : decode cL_law 724 = .ok (.iadd, 1) := by decide +kernel
theorem dL_law_725 : decode cL_law 725 = .ok (.iaload, 1) := by decide +kernel
theorem dL_law_726 : decode cL_law 726 = .ok (.invokevirtual 94, 3) := by decide +kernel
theorem dL_law_729 : decode cL_law 729 = .ok (.lcmp, 1) := by decide +kernel
theorem dL_law_730 : decode cL_law 730 = .ok (.ifCond .eq 653, 3) := by decide +kernel
theorem dL_law_733 : decode cL_law 733 = .ok (.iconst 0, 1) := by decide +kernel
theorem dL_law_734 : decode cL_law 734 = .ok (.ireturn, 1) := by decide +kernel
theorem dL_law_735 : decode cL_law 735 = .ok (.aload_n 1, 1) := by decide +kernel
theorem dL_law_736 : decode cL_law 736 = .ok (.aload_n 0, 1) := by decide +kernel
theorem dL_law_737 : decode cL_law 737 = .ok (.iload_n 3, 1) := by decide +kernel
theorem dL_law_738 : decode cL_law 738 = .ok (.iconst 1, 1) := by decide +kernel
theorem dL_law_739 : decode cL_law 739 = .ok (.iadd, 1) := by decide +kernel
theorem dL_law_740 : decode cL_law 740 = .ok (.iaload, 1) := by decide +kernel
theorem dL_law_741 : decode cL_law 741 = .ok (.aload_n 0, 1) := by decide +kernel
theorem dL_law_742 : decode cL_law 742 = .ok (.iload_n 3, 1) := by decide +kernel
theorem dL_law_743 : decode cL_law 743 = .ok (.iconst 2, 1) := by decide +kernel
theorem dL_law_744 : decode cL_law 744 = .ok (.iadd, 1) := by decide +kernel
theorem dL_law_745 : decode cL_law 745 = .ok (.iaload, 1) := by decide +kernel
theorem dL_law_746 : decode cL_law 746 = .ok (.invokevirtual 95, 3) := by decide +kernel
theorem dL_law_749 : decode cL_law 749 = .ok (.aload_n 2, 1) := by decide +kernel
theorem dL_law_750 : decode cL_law 750 = .ok (.aload_n 0, 1) := by decide +kernel
theorem dL_law_751 : decode cL_law 751 = .ok (.iload_n 3, 1) := by decide +kernel
theorem dL_law_752 : decode cL_law 752 = .ok (.iconst 1, 1) := by decide +kernel
theorem dL_law_753 : decode cL_law 753 = .ok (.iadd, 1) := by decide +kernel
theorem dL_law_754 : decode cL_law 754 = .ok (.iaload, 1) := by decide +kernel
theorem dL_law_755 : decode cL_law 755 = .ok (.aload_n 0, 1) := by decide +kernel
theorem dL_law_756 : decode cL_law 756 = .ok (.iload_n 3, 1) := by decide +kernel
theorem dL_law_757 : decode cL_law 757 = .ok (.iconst 2, 1) := by decide +kernel
theorem dL_law_758 : decode cL_law 758 = .ok (.iadd, 1) := by decide +kernel
theorem dL_law_759 : decode cL_law 759 = .ok (.iaload, 1) := by decide +kernel
theorem dL_law_760 : decode cL_law 760 = .ok (.invokevirtual 98, 3) := by decide +kernel
theorem dL_law_763 : decode cL_law 763 = .ok (.if_icmp .eq 620, 3) := by decide +kernel
theorem dL_law_766 : decode cL_law 766 = .ok (.iconst 0, 1) := by decide +kernel
theorem dL_law_767 : decode cL_law 767 = .ok (.ireturn, 1) := by decide +kernel
theorem dL_law_768 : decode cL_law 768 = .ok (.aload_n 1, 1) := by decide +kernel
theorem dL_law_769 : decode cL_law 769 = .ok (.aload_n 0, 1) := by decide +kernel
theorem dL_law_770 : decode cL_law 770 = .ok (.iload_n 3, 1) := by decide +kernel
theorem dL_law_771 : decode cL_law 771 = .ok (.iconst 1, 1) := by decide +kernel
theorem dL_law_772 : decode cL_law 772 = .ok (.iadd, 1) := by decide +kernel
theorem dL_law_773 : decode cL_law 773 = .ok (.iaload, 1) := by decide +kernel
theorem dL_law_774 : decode cL_law 774 = .ok (.aload_n 0, 1) := by decide +kernel
theorem dL_law_775 : decode cL_law 775 = .ok (.iload_n 3, 1) := by decide +kernel
theorem dL_law_776 : decode cL_law 776 = .ok (.iconst 2, 1) := by decide +kernel
theorem dL_law_777 : decode cL_law 777 = .ok (.iadd, 1) := by decide +kernel
theorem dL_law_778 : decode cL_law 778 = .ok (.iaload, 1) := by decide +kernel
theorem dL_law_779 : decode cL_law 779 = .ok (.invokevirtual 99, 3) := by decide +kernel
theorem dL_law_782 : decode cL_law 782 = .ok (.aload_n 2, 1) := by decide +kernel
theorem dL_law_783 : decode cL_law 783 = .ok (.aload_n 0, 1) := by decide +kernel
theorem dL_law_784 : decode cL_law 784 = .ok (.iload_n 3, 1) := by decide +kernel
theorem dL_law_785 : decode cL_law 785 = .ok (.iconst 1, 1) := by decide +kernel
theorem dL_law_786 : decode cL_law 786 = .ok (.iadd, 1) := by decide +kernel
theorem dL_law_787 : decode cL_law 787 = .ok (.iaload, 1) := by decide +kernel
theorem dL_law_788 : decode cL_law 788 = .ok (.aload_n 0, 1) := by decide +kernel
theorem dL_law_789 : decode cL_law 789 = .ok (.iload_n 3, 1) := by decide +kernel
theorem dL_law_790 : decode cL_law 790 = .ok (.iconst 2, 1) := by decide +kernel
theorem dL_law_791 : decode cL_law 791 = .ok (.iadd, 1) := by decide +kernel
theorem dL_law_792 : decode cL_law 792 = .ok (.iaload, 1) := by decide +kernel
theorem dL_law_793 : decode cL_law 793 = .ok (.invokevirtual 102, 3) := by decide +kernel
theorem dL_law_796 : decode cL_law 796 = .ok (.if_icmp .eq 587, 3) := by decide +kernel
theorem dL_law_799 : decode cL_law 799 = .ok (.iconst 0, 1) := by decide +kernel
theorem dL_law_800 : decode cL_law 800 = .ok (.ireturn, 1) := by decide +kernel
theorem dL_law_801 : decode cL_law 801 = .ok (.aload_n 1, 1) := by decide +kernel
theorem dL_law_802 : decode cL_law 802 = .ok (.aload_n 0, 1) := by decide +kernel
theorem dL_law_803 : decode cL_law 803 = .ok (.iload_n 3, 1) := by decide +kernel
theorem dL_law_804 : decode cL_law 804 = .ok (.iconst 1, 1) := by decide +kernel
theorem dL_law_805 : decode cL_law 805 = .ok (.iadd, 1) := by decide +kernel
theorem dL_law_806 : decode cL_law 806 = .ok (.iaload, 1) := by decide +kernel
theorem dL_law_807 : decode cL_law 807 = .ok (.aload_n 0, 1) := by decide +kernel
theorem dL_law_808 : decode cL_law 808 = .ok (.iload_n 3, 1) := by decide +kernel
theorem dL_law_809 : decode cL_law 809 = .ok (.iconst 2, 1) := by decide +kernel
theorem dL_law_810 : decode cL_law 810 = .ok (.iadd, 1) := by decide +kernel
theorem dL_law_811 : decode cL_law 811 = .ok (.iaload, 1) := by decide +kernel
theorem dL_law_812 : decode cL_law 812 = .ok (.aload_n 0, 1) := by decide +kernel
theorem dL_law_813 : decode cL_law 813 = .ok (.iload_n 3, 1) := by decide +kernel
theorem dL_law_814 : decode cL_law 814 = .ok (.iconst 3, 1) := by decide +kernel
theorem dL_law_815 : decode cL_law 815 = .ok (.iadd, 1) := by decide +kernel
theorem dL_law_816 : decode cL_law 816 = .ok (.iaload, 1) := by decide +kernel
theorem dL_law_817 : decode cL_law 817 = .ok (.aload_n 0, 1) := by decide +kernel
theorem dL_law_818 : decode cL_law 818 = .ok (.iload_n 3, 1) := by decide +kernel
theorem dL_law_819 : decode cL_law 819 = .ok (.iconst 4, 1) := by decide +kernel
theorem dL_law_820 : decode cL_law 820 = .ok (.iadd, 1) := by decide +kernel
theorem dL_law_821 : decode cL_law 821 = .ok (.iaload, 1) := by decide +kernel
theorem dL_law_822 : decode cL_law 822 = .ok (.invokevirtual 103, 3) := by decide +kernel
theorem dL_law_825 : decode cL_law 825 = .ok (.aload_n 2, 1) := by decide +kernel
theorem dL_law_826 : decode cL_law 826 = .ok (.aload_n 0, 1) := by decide +kernel
theorem dL_law_827 : decode cL_law 827 = .ok (.iload_n 3, 1) := by decide +kernel
theorem dL_law_828 : decode cL_law 828 = .ok (.iconst 1, 1) := by decide +kernel
theorem dL_law_829 : decode cL_law 829 = .ok (.iadd, 1) := by decide +kernel
theorem dL_law_830 : decode cL_law 830 = .ok (.iaload, 1) := by decide +kernel
theorem dL_law_831 : decode cL_law 831 = .ok (.aload_n 0, 1) := by decide +kernel
theorem dL_law_832 : decode cL_law 832 = .ok (.iload_n 3, 1) := by decide +kernel
theorem dL_law_833 : decode cL_law 833 = .ok (.iconst 2, 1) := by decide +kernel
theorem dL_law_834 : decode cL_law 834 = .ok (.iadd, 1) := by decide +kernel
theorem dL_law_835 : decode cL_law 835 = .ok (.iaload, 1) := by decide +kernel
theorem dL_law_836 : decode cL_law 836 = .ok (.aload_n 0, 1) := by decide +kernel
theorem dL_law_837 : decode cL_law 837 = .ok (.iload_n 3, 1) := by decide +kernel
theorem dL_law_838 : decode cL_law 838 = .ok (.iconst 3, 1) := by decide +kernel
theorem dL_law_839 : decode cL_law 839 = .ok (.iadd, 1) := by decide +kernel
theorem dL_law_840 : decode cL_law 840 = .ok (.iaload, 1) := by decide +kernel
theorem dL_law_841 : decode cL_law 841 = .ok (.aload_n 0, 1) := by decide +kernel
theorem dL_law_842 : decode cL_law 842 = .ok (.iload_n 3, 1) := by decide +kernel
theorem dL_law_843 : decode cL_law 843 = .ok (.iconst 4, 1) := by decide +kernel
theorem dL_law_844 : decode cL_law 844 = .ok (.iadd, 1) := by decide +kernel
theorem dL_law_845 : decode cL_law 845 = .ok (.iaload, 1) := by decide +kernel
theorem dL_law_846 : decode cL_law 846 = .ok (.invokevirtual 106, 3) := by decide +kernel
theorem dL_law_849 : decode cL_law 849 = .ok (.lcmp, 1) := by decide +kernel
theorem dL_law_850 : decode cL_law 850 = .ok (.ifCond .eq 533, 3) := by decide +kernel
theorem dL_law_853 : decode cL_law 853 = .ok (.iconst 0, 1) := by decide +kernel
theorem dL_law_854 : decode cL_law 854 = .ok (.ireturn, 1) := by decide +kernel
theorem dL_law_855 : decode cL_law 855 = .ok (.aload_n 1, 1) := by decide +kernel
theorem dL_law_856 : decode cL_law 856 = .ok (.aload_n 0, 1) := by decide +kernel
theorem dL_law_857 : decode cL_law 857 = .ok (.iload_n 3, 1) := by decide +kernel
theorem dL_law_858 : decode cL_law 858 = .ok (.iconst 1, 1) := by decide +kernel
theorem dL_law_859 : decode cL_law 859 = .ok (.iadd, 1) := by decide +kernel
theorem dL_law_860 : decode cL_law 860 = .ok (.iaload, 1) := by decide +kernel
theorem dL_law_861 : decode cL_law 861 = .ok (.aload_n 0, 1) := by decide +kernel
theorem dL_law_862 : decode cL_law 862 = .ok (.iload_n 3, 1) := by decide +kernel
theorem dL_law_863 : decode cL_law 863 = .ok (.iconst 2, 1) := by decide +kernel
theorem dL_law_864 : decode cL_law 864 = .ok (.iadd, 1) := by decide +kernel
theorem dL_law_865 : decode cL_law 865 = .ok (.iaload, 1) := by decide +kernel
theorem dL_law_866 : decode cL_law 866 = .ok (.invokevirtual 107, 3) := by decide +kernel
theorem dL_law_869 : decode cL_law 869 = .ok (.aload_n 2, 1) := by decide +kernel
theorem dL_law_870 : decode cL_law 870 = .ok (.aload_n 0, 1) := by decide +kernel
theorem dL_law_871 : decode cL_law 871 = .ok (.iload_n 3, 1) := by decide +kernel
theorem dL_law_872 : decode cL_law 872 = .ok (.iconst 1, 1) := by decide +kernel
theorem dL_law_873 : decode cL_law 873 = .ok (.iadd, 1) := by decide +kernel
theorem dL_law_874 : decode cL_law 874 = .ok (.iaload, 1) := by decide +kernel
theorem dL_law_875 : decode cL_law 875 = .ok (.aload_n 0, 1) := by decide +kernel
theorem dL_law_876 : decode cL_law 876 = .ok (.iload_n 3, 1) := by decide +kernel
theorem dL_law_877 : decode cL_law 877 = .ok (.iconst 2, 1) := by decide +kernel
theorem dL_law_878 : decode cL_law 878 = .ok (.iadd, 1) := by decide +kernel
theorem dL_law_879 : decode cL_law 879 = .ok (.iaload, 1) := by decide +kernel
theorem dL_law_880 : decode cL_law 880 = .ok (.invokevirtual 110, 3) := by decide +kernel
theorem dL_law_883 : decode cL_law 883 = .ok (.if_icmp .eq 500, 3) := by decide +kernel
theorem dL_law_886 : decode cL_law 886 = .ok (.iconst 0, 1) := by decide +kernel
theorem dL_law_887 : decode cL_law 887 = .ok (.ireturn, 1) := by decide +kernel
theorem dL_law_888 : decode cL_law 888 = .ok (.aload_n 1, 1) := by decide +kernel
theorem dL_law_889 : decode cL_law 889 = .ok (.aload_n 0, 1) := by decide +kernel
theorem dL_law_890 : decode cL_law 890 = .ok (.iload_n 3, 1) := by decide +kernel
theorem dL_law_891 : decode cL_law 891 = .ok (.iconst 1, 1) := by decide +kernel
theorem dL_law_892 : decode cL_law 892 = .ok (.iadd, 1) := by decide +kernel
theorem dL_law_893 : decode cL_law 893 = .ok (.iaload, 1) := by decide +kernel
theorem dL_law_894 : decode cL_law 894 = .ok (.aload_n 0, 1) := by decide +kernel
theorem dL_law_895 : decode cL_law 895 = .ok (.iload_n 3, 1) := by decide +kernel
theorem dL_law_896 : decode cL_law 896 = .ok (.iconst 2, 1) := by decide +kernel
theorem dL_law_897 : decode cL_law 897 = .ok (.iadd, 1) := by decide +kernel
theorem dL_law_898 : decode cL_law 898 = .ok (.iaload, 1) := by decide +kernel
theorem dL_law_899 : decode cL_law 899 = .ok (.invokevirtual 111, 3) := by decide +kernel
theorem dL_law_902 : decode cL_law 902 = .ok (.aload_n 2, 1) := by decide +kernel
theorem dL_law_903 : decode cL_law 903 = .ok (.aload_n 0, 1) := by decide +kernel
theorem dL_law_904 : decode cL_law 904 = .ok (.iload_n 3, 1) := by decide +kernel
theorem dL_law_905 : decode cL_law 905 = .ok (.iconst 1, 1) := by decide +kernel
theorem dL_law_906 : decode cL_law 906 = .ok (.iadd, 1) := by decide +kernel
theorem dL_law_907 : decode cL_law 907 = .ok (.iaload, 1) := by decide +kernel
theorem dL_law_908 : decode cL_law 908 = .ok (.aload_n 0, 1) := by decide +kernel
theorem dL_law_909 : decode cL_law 909 = .ok (.iload_n 3, 1) := by decide +kernel
theorem dL_law_910 : decode cL_law 910 = .ok (.iconst 2, 1) := by decide +kernel
theorem dL_law_911 : decode cL_law 911 = .ok (.iadd, 1) := by decide +kernel
theorem dL_law_912 : decode cL_law 912 = .ok (.iaload, 1) := by decide +kernel
theorem dL_law_913 : decode cL_law 913 = .ok (.invokevirtual 114, 3) := by decide +kernel
theorem dL_law_916 : decode cL_law 916 = .ok (.if_icmp .eq 467, 3) := by decide +kernel
theorem dL_law_919 : decode cL_law 919 = .ok (.iconst 0, 1) := by decide +kernel
theorem dL_law_920 : decode cL_law 920 = .ok (.ireturn, 1) := by decide +kernel
theorem dL_law_921 : decode cL_law 921 = .ok (.aload_n 1, 1) := by decide +kernel
theorem dL_law_922 : decode cL_law 922 = .ok (.invokevirtual 115, 3) := by decide +kernel
theorem dL_law_925 : decode cL_law 925 = .ok (.aload_n 2, 1) := by decide +kernel
theorem dL_law_926 : decode cL_law 926 = .ok (.invokevirtual 118, 3) := by decide +kernel
theorem dL_law_929 : decode cL_law 929 = .ok (.if_icmp .eq 454, 3) := by decide +kernel
theorem dL_law_932 : decode cL_law 932 = .ok (.iconst 0, 1) := by decide +kernel
theorem dL_law_933 : decode cL_law 933 = .ok (.ireturn, 1) := by decide +kernel
theorem dL_law_934 : decode cL_law 934 = .ok (.aload_n 1, 1) := by decide +kernel
theorem dL_law_935 : decode cL_law 935 = .ok (.aload_n 0, 1) := by decide +kernel
theorem dL_law_936 : decode cL_law 936 = .ok (.iload_n 3, 1) := by decide +kernel
theorem dL_law_937 : decode cL_law 937 = .ok (.iconst 1, 1) := by decide +kernel
theorem dL_law_938 : decode cL_law 938 = .ok (.iadd, 1) := by decide +kernel
theorem dL_law_939 : decode cL_law 939 = .ok (.iaload, 1) := by decide +kernel
theorem dL_law_940 : decode cL_law 940 = .ok (.aload_n 0, 1) := by decide +kernel
theorem dL_law_941 : decode cL_law 941 = .ok (.iload_n 3, 1) := by decide +kernel
theorem dL_law_942 : decode cL_law 942 = .ok (.iconst 2, 1) := by decide +kernel
theorem dL_law_943 : decode cL_law 943 = .ok (.iadd, 1) := by decide +kernel
theorem dL_law_944 : decode cL_law 944 = .ok (.iaload, 1) := by decide +kernel
theorem dL_law_945 : decode cL_law 945 = .ok (.invokevirtual 119, 3) := by decide +kernel
theorem dL_law_948 : decode cL_law 948 = .ok (.aload_n 2, 1) := by decide +kernel
theorem dL_law_949 : decode cL_law 949 = .ok (.aload_n 0, 1) := by decide +kernel
theorem dL_law_950 : decode cL_law 950 = .ok (.iload_n 3, 1) := by decide +kernel
theorem dL_law_951 : decode cL_law 951 = .ok (.iconst 1, 1) := by decide +kernel
theorem dL_law_952 : decode cL_law 952 = .ok (.iadd, 1) := by decide +kernel
theorem dL_law_953 : decode cL_law 953 = .ok (.iaload, 1) := by decide +kernel
theorem dL_law_954 : decode cL_law 954 = .ok (.aload_n 0, 1) := by decide +kernel
theorem dL_law_955 : decode cL_law 955 = .ok (.iload_n 3, 1) := by decide +kernel
theorem dL_law_956 : decode cL_law 956 = .ok (.iconst 2, 1) := by decide +kernel
theorem dL_law_957 : decode cL_law 957 = .ok (.iadd, 1) := by decide +kernel
theorem dL_law_958 : decode cL_law 958 = .ok (.iaload, 1) := by decide +kernel
theorem dL_law_959 : decode cL_law 959 = .ok (.invokevirtual 123, 3) := by decide +kernel
theorem dL_law_962 : decode cL_law 962 = .ok (.lcmp, 1) := by decide +kernel
theorem dL_law_963 : decode cL_law 963 = .ok (.ifCond .eq 420, 3) := by decide +kernel
theorem dL_law_966 : decode cL_law 966 = .ok (.iconst 0, 1) := by decide +kernel
theorem dL_law_967 : decode cL_law 967 = .ok (.ireturn, 1) := by decide +kernel
theorem dL_law_968 : decode cL_law 968 = .ok (.aload_n 1, 1) := by decide +kernel
theorem dL_law_969 : decode cL_law 969 = .ok (.aload_n 0, 1) := by decide +kernel
theorem dL_law_970 : decode cL_law 970 = .ok (.iload_n 3, 1) := by decide +kernel
theorem dL_law_971 : decode cL_law 971 = .ok (.iconst 1, 1) := by decide +kernel
theorem dL_law_972 : decode cL_law 972 = .ok (.iadd, 1) := by decide +kernel
theorem dL_law_973 : decode cL_law 973 = .ok (.iaload, 1) := by decide +kernel
theorem dL_law_974 : decode cL_law 974 = .ok (.aload_n 0, 1) := by decide +kernel
theorem dL_law_975 : decode cL_law 975 = .ok (.iload_n 3, 1) := by decide +kernel
theorem dL_law_976 : decode cL_law 976 = .ok (.iconst 2, 1) := by decide +kernel
theorem dL_law_977 : decode cL_law 977 = .ok (.iadd, 1) := by decide +kernel
theorem dL_law_978 : decode cL_law 978 = .ok (.iaload, 1) := by decide +kernel
theorem dL_law_979 : decode cL_law 979 = .ok (.aload_n 0, 1) := by decide +kernel
theorem dL_law_980 : decode cL_law 980 = .ok (.iload_n 3, 1) := by decide +kernel
theorem dL_law_981 : decode cL_law 981 = .ok (.iconst 3, 1) := by decide +kernel
theorem dL_law_982 : decode cL_law 982 = .ok (.iadd, 1) := by decide +kernel
theorem dL_law_983 : decode cL_law 983 = .ok (.iaload, 1) := by decide +kernel
theorem dL_law_984 : decode cL_law 984 = .ok (.invokevirtual 124, 3) := by decide +kernel
theorem dL_law_987 : decode cL_law 987 = .ok (.aload_n 2, 1) := by decide +kernel
theorem dL_law_988 : decode cL_law 988 = .ok (.aload_n 0, 1) := by decide +kernel
theorem dL_law_989 : decode cL_law 989 = .ok (.iload_n 3, 1) := by decide +kernel
theorem dL_law_990 : decode cL_law 990 = .ok (.iconst 1, 1) := by decide +kernel
theorem dL_law_991 : decode cL_law 991 = .ok (.iadd, 1) := by decide +kernel
theorem dL_law_992 : decode cL_law 992 = .ok (.iaload, 1) := by decide +kernel
theorem dL_law_993 : decode cL_law 993 = .ok (.aload_n 0, 1) := by decide +kernel
theorem dL_law_994 : decode cL_law 994 = .ok (.iload_n 3, 1) := by decide +kernel
theorem dL_law_995 : decode cL_law 995 = .ok (.iconst 2, 1) := by decide +kernel
theorem dL_law_996 : decode cL_law 996 = .ok (.iadd, 1) := by decide +kernel
theorem dL_law_997 : decode cL_law 997 = .ok (.iaload, 1) := by decide +kernel
theorem dL_law_998 : decode cL_law 998 = .ok (.aload_n 0, 1) := by decide +kernel
theorem dL_law_999 : decode cL_law 999 = .ok (.iload_n 3, 1) := by decide +kernel
theorem dL_law_1000 : decode cL_law 1000 = .ok (.iconst 3, 1) := by decide +kernel
theorem dL_law_1001 : decode cL_law 1001 = .ok (.iadd, 1) := by decide +kernel
theorem dL_law_1002 : decode cL_law 1002 = .ok (.iaload, 1) := by decide +kernel
theorem dL_law_1003 : decode cL_law 1003 = .ok (.invokevirtual 128, 3) := by decide +kernel
theorem dL_law_1006 : decode cL_law 1006 = .ok (.lcmp, 1) := by decide +kernel
theorem dL_law_1007 : decode cL_law 1007 = .ok (.ifCond .eq 376, 3) := by decide +kernel
theorem dL_law_1010 : decode cL_law 1010 = .ok (.iconst 0, 1) := by decide +kernel
theorem dL_law_1011 : decode cL_law 1011 = .ok (.ireturn, 1) := by decide +kernel
theorem dL_law_1012 : decode cL_law 1012 = .ok (.aload_n 1, 1) := by decide +kernel
theorem dL_law_1013 : decode cL_law 1013 = .ok (.aload_n 0, 1) := by decide +kernel
theorem dL_law_1014 : decode cL_law 1014 = .ok (.iload_n 3, 1) := by decide +kernel
theorem dL_law_1015 : decode cL_law 1015 = .ok (.iconst 1, 1) := by decide +kernel
theorem dL_law_1016 : decode cL_law 1016 = .ok (.iadd, 1) := by decide +kernel
theorem dL_law_1017 : decode cL_law 1017 = .ok (.iaload, 1) := by decide +kernel
theorem dL_law_1018 : decode cL_law 1018 = .ok (.aload_n 0, 1) := by decide +kernel
theorem dL_law_1019 : decode cL_law 1019 = .ok (.iload_n 3, 1) := by decide +kernel
theorem dL_law_1020 : decode cL_law 1020 = .ok (.iconst 2, 1) := by decide +kernel
theorem dL_law_1021 : decode cL_law 1021 = .ok (.iadd, 1) := by decide +kernel
theorem dL_law_1022 : decode cL_law 1022 = .ok (.iaload, 1) := by decide +kernel
theorem dL_law_1023 : decode cL_law 1023 = .ok (.invokevirtual 129, 3) := by decide +kernel
theorem dL_law_1026 : decode cL_law 1026 = .ok (.aload_n 2, 1) := by decide +kernel
theorem dL_law_1027 : decode cL_law 1027 = .ok (.aload_n 0, 1) := by decide +kernel
theorem dL_law_1028 : decode cL_law 1028 = .ok (.iload_n 3, 1) := by decide +kernel
theorem dL_law_1029 : decode cL_law 1029 = .ok (.iconst 1, 1) := by decide +kernel
theorem dL_law_1030 : decode cL_law 1030 = .ok (.iadd, 1) := by decide +kernel
theorem dL_law_1031 : decode cL_law 1031 = .ok (.iaload, 1) := by decide +kernel
theorem dL_law_1032 : decode cL_law 1032 = .ok (.aload_n 0, 1) := by decide +kernel
theorem dL_law_1033 : decode cL_law 1033 = .ok (.iload_n 3, 1) := by decide +kernel
theorem dL_law_1034 : decode cL_law 1034 = .ok (.iconst 2, 1) := by decide +kernel
theorem dL_law_1035 : decode cL_law 1035 = .ok (.iadd, 1) := by decide +kernel
theorem dL_law_1036 : decode cL_law 1036 = .ok (.iaload, 1) := by decide +kernel
theorem dL_law_1037 : decode cL_law 1037 = .ok (.invokevirtual 132, 3) := by decide +kernel
theorem dL_law_1040 : decode cL_law 1040 = .ok (.if_icmp .eq 343, 3) := by decide +kernel
theorem dL_law_1043 : decode cL_law 1043 = .ok (.iconst 0, 1) := by decide +kernel
theorem dL_law_1044 : decode cL_law 1044 = .ok (.ireturn, 1) := by decide +kernel
theorem dL_law_1045 : decode cL_law 1045 = .ok (.aload_n 1, 1) := by decide +kernel
theorem dL_law_1046 : decode cL_law 1046 = .ok (.aload_n 0, 1) := by decide +kernel
theorem dL_law_1047 : decode cL_law 1047 = .ok (.iload_n 3, 1) := by decide +kernel
theorem dL_law_1048 : decode cL_law 1048 = .ok (.iconst 1, 1) := by decide +kernel
theorem dL_law_1049 : decode cL_law 1049 = .ok (.iadd, 1) := by decide +kernel
theorem dL_law_1050 : decode cL_law 1050 = .ok (.iaload, 1) := by decide +kernel
theorem dL_law_1051 : decode cL_law 1051 = .ok (.aload_n 0, 1) := by decide +kernel
theorem dL_law_1052 : decode cL_law 1052 = .ok (.iload_n 3, 1) := by decide +kernel
theorem dL_law_1053 : decode cL_law 1053 = .ok (.iconst 2, 1) := by decide +kernel
theorem dL_law_1054 : decode cL_law 1054 = .ok (.iadd, 1) := by decide +kernel
theorem dL_law_1055 : decode cL_law 1055 = .ok (.iaload, 1) := by decide +kernel
theorem dL_law_1056 : decode cL_law 1056 = .ok (.aload_n 0, 1) := by decide +kernel
theorem dL_law_1057 : decode cL_law 1057 = .ok (.iload_n 3, 1) := by decide +kernel
theorem dL_law_1058 : decode cL_law 1058 = .ok (.iconst 3, 1) := by decide +kernel
theorem dL_law_1059 : decode cL_law 1059 = .ok (.iadd, 1) := by decide +kernel
theorem dL_law_1060 : decode cL_law 1060 = .ok (.iaload, 1) := by decide +kernel
theorem dL_law_1061 : decode cL_law 1061 = .ok (.invokevirtual 133, 3) := by decide +kernel
theorem dL_law_1064 : decode cL_law 1064 = .ok (.aload_n 2, 1) := by decide +kernel
theorem dL_law_1065 : decode cL_law 1065 = .ok (.aload_n 0, 1) := by decide +kernel
theorem dL_law_1066 : decode cL_law 1066 = .ok (.iload_n 3, 1) := by decide +kernel
theorem dL_law_1067 : decode cL_law 1067 = .ok (.iconst 1, 1) := by decide +kernel
theorem dL_law_1068 : decode cL_law 1068 = .ok (.iadd, 1) := by decide +kernel
theorem dL_law_1069 : decode cL_law 1069 = .ok (.iaload, 1) := by decide +kernel
theorem dL_law_1070 : decode cL_law 1070 = .ok (.aload_n 0, 1) := by decide +kernel
theorem dL_law_1071 : decode cL_law 1071 = .ok (.iload_n 3, 1) := by decide +kernel
theorem dL_law_1072 : decode cL_law 1072 = .ok (.iconst 2, 1) := by decide +kernel
theorem dL_law_1073 : decode cL_law 1073 = .ok (.iadd, 1) := by decide +kernel
theorem dL_law_1074 : decode cL_law 1074 = .ok (.iaload, 1) := by decide +kernel
theorem dL_law_1075 : decode cL_law 1075 = .ok (.aload_n 0, 1) := by decide +kernel
theorem dL_law_1076 : decode cL_law 1076 = .ok (.iload_n 3, 1) := by decide +kernel
theorem dL_law_1077 : decode cL_law 1077 = .ok (.iconst 3, 1) := by decide +kernel
theorem dL_law_1078 : decode cL_law 1078 = .ok (.iadd, 1) := by decide +kernel
theorem dL_law_1079 : decode cL_law 1079 = .ok (.iaload, 1) := by decide +kernel
theorem dL_law_1080 : decode cL_law 1080 = .ok (.invokevirtual 136, 3) := by decide +kernel
theorem dL_law_1083 : decode cL_law 1083 = .ok (.if_icmp .eq 300, 3) := by decide +kernel
theorem dL_law_1086 : decode cL_law 1086 = .ok (.iconst 0, 1) := by decide +kernel
theorem dL_law_1087 : decode cL_law 1087 = .ok (.ireturn, 1) := by decide +kernel
theorem dL_law_1088 : decode cL_law 1088 = .ok (.aload_n 1, 1) := by decide +kernel
theorem dL_law_1089 : decode cL_law 1089 = .ok (.aload_n 0, 1) := by decide +kernel
theorem dL_law_1090 : decode cL_law 1090 = .ok (.iload_n 3, 1) := by decide +kernel
theorem dL_law_1091 : decode cL_law 1091 = .ok (.iconst 1, 1) := by decide +kernel
theorem dL_law_1092 : decode cL_law 1092 = .ok (.iadd, 1) := by decide +kernel
theorem dL_law_1093 : decode cL_law 1093 = .ok (.iaload, 1) := by decide +kernel
theorem dL_law_1094 : decode cL_law 1094 = .ok (.aload_n 0, 1) := by decide +kernel
theorem dL_law_1095 : decode cL_law 1095 = .ok (.iload_n 3, 1) := by decide +kernel
theorem dL_law_1096 : decode cL_law 1096 = .ok (.iconst 2, 1) := by decide +kernel
theorem dL_law_1097 : decode cL_law 1097 = .ok (.iadd, 1) := by decide +kernel
theorem dL_law_1098 : decode cL_law 1098 = .ok (.iaload, 1) := by decide +kernel
theorem dL_law_1099 : decode cL_law 1099 = .ok (.aload_n 0, 1) := by decide +kernel
theorem dL_law_1100 : decode cL_law 1100 = .ok (.iload_n 3, 1) := by decide +kernel
theorem dL_law_1101 : decode cL_law 1101 = .ok (.iconst 3, 1) := by decide +kernel
theorem dL_law_1102 : decode cL_law 1102 = .ok (.iadd, 1) := by decide +kernel
theorem dL_law_1103 : decode cL_law 1103 = .ok (.iaload, 1) := by decide +kernel
theorem dL_law_1104 : decode cL_law 1104 = .ok (.invokevirtual 137, 3) := by decide +kernel
theorem dL_law_1107 : decode cL_law 1107 = .ok (.aload_n 2, 1) := by decide +kernel
theorem dL_law_1108 : decode cL_law 1108 = .ok (.aload_n 0, 1) := by decide +kernel
theorem dL_law_1109 : decode cL_law 1109 = .ok (.iload_n 3, 1) := by decide +kernel
theorem dL_law_1110 : decode cL_law 1110 = .ok (.iconst 1, 1) := by decide +kernel
theorem dL_law_1111 : decode cL_law 1111 = .ok (.iadd, 1) := by decide +kernel
theorem dL_law_1112 : decode cL_law 1112 = .ok (.iaload, 1) := by decide +kernel
theorem dL_law_1113 : decode cL_law 1113 = .ok (.aload_n 0, 1) := by decide +kernel
theorem dL_law_1114 : decode cL_law 1114 = .ok (.iload_n 3, 1) := by decide +kernel
theorem dL_law_1115 : decode cL_law 1115 = .ok (.iconst 2, 1) := by decide +kernel
theorem dL_law_1116 : decode cL_law 1116 = .ok (.iadd, 1) := by decide +kernel
theorem dL_law_1117 : decode cL_law 1117 = .ok (.iaload, 1) := by decide +kernel
theorem dL_law_1118 : decode cL_law 1118 = .ok (.aload_n 0, 1) := by decide +kernel
theorem dL_law_1119 : decode cL_law 1119 = .ok (.iload_n 3, 1) := by decide +kernel
theorem dL_law_1120 : decode cL_law 1120 = .ok (.iconst 3, 1) := by decide +kernel
theorem dL_law_1121 : decode cL_law 1121 = .ok (.iadd, 1) := by decide +kernel
theorem dL_law_1122 : decode cL_law 1122 = .ok (.iaload, 1) := by decide +kernel
theorem dL_law_1123 : decode cL_law 1123 = .ok (.invokevirtual 140, 3) := by decide +kernel
theorem dL_law_1126 : decode cL_law 1126 = .ok (.if_icmp .eq 257, 3) := by decide +kernel
theorem dL_law_1129 : decode cL_law 1129 = .ok (.iconst 0, 1) := by decide +kernel
theorem dL_law_1130 : decode cL_law 1130 = .ok (.ireturn, 1) := by decide +kernel
theorem dL_law_1131 : decode cL_law 1131 = .ok (.aload_n 1, 1) := by decide +kernel
theorem dL_law_1132 : decode cL_law 1132 = .ok (.aload_n 0, 1) := by decide +kernel
theorem dL_law_1133 : decode cL_law 1133 = .ok (.iload_n 3, 1) := by decide +kernel
theorem dL_law_1134 : decode cL_law 1134 = .ok (.iconst 1, 1) := by decide +kernel
theorem dL_law_1135 : decode cL_law 1135 = .ok (.iadd, 1) := by decide +kernel
theorem dL_law_1136 : decode cL_law 1136 = .ok (.iaload, 1) := by decide +kernel
theorem dL_law_1137 : decode cL_law 1137 = .ok (.invokevirtual 141, 3) := by decide +kernel
theorem dL_law_1140 : decode cL_law 1140 = .ok (.aload_n 2, 1) := by decide +kernel
theorem dL_law_1141 : decode cL_law 1141 = .ok (.aload_n 0, 1) := by decide +kernel
theorem dL_law_1142 : decode cL_law 1142 = .ok (.iload_n 3, 1) := by decide +kernel
theorem dL_law_1143 : decode cL_law 1143 = .ok (.iconst 1, 1) := by decide +kernel
theorem dL_law_1144 : decode cL_law 1144 = .ok (.iadd, 1) := by decide +kernel
theorem dL_law_1145 : decode cL_law 1145 = .ok (.iaload, 1) := by decide +kernel
theorem dL_law_1146 : decode cL_law 1146 = .ok (.invokevirtual 144, 3) := by decide +kernel
theorem dL_law_1149 : decode cL_law 1149 = .ok (.if_icmp .eq 234, 3) := by decide +kernel
theorem dL_law_1152 : decode cL_law 1152 = .ok (.iconst 0, 1) := by decide +kernel
theorem dL_law_1153 : decode cL_law 1153 = .ok (.ireturn, 1) := by decide +kernel
theorem dL_law_1154 : decode cL_law 1154 = .ok (.aload_n 1, 1) := by decide +kernel
theorem dL_law_1155 : decode cL_law 1155 = .ok (.aload_n 0, 1) := by decide +kernel
theorem dL_law_1156 : decode cL_law 1156 = .ok (.iload_n 3, 1) := by decide +kernel
theorem dL_law_1157 : decode cL_law 1157 = .ok (.iconst 1, 1) := by decide +kernel
theorem dL_law_1158 : decode cL_law 1158 = .ok (.iadd, 1) := by decide +kernel
theorem dL_law_1159 : decode cL_law 1159 = .ok (.iaload, 1) := by decide +kernel
theorem dL_law_1160 : decode cL_law 1160 = .ok (.aload_n 0, 1) := by decide +kernel
theorem dL_law_1161 : decode cL_law 1161 = .ok (.iload_n 3, 1) := by decide +kernel
theorem dL_law_1162 : decode cL_law 1162 = .ok (.iconst 2, 1) := by decide +kernel
theorem dL_law_1163 : decode cL_law 1163 = .ok (.iadd, 1) := by decide +kernel
theorem dL_law_1164 : decode cL_law 1164 = .ok (.iaload, 1) := by decide +kernel
theorem dL_law_1165 : decode cL_law 1165 = .ok (.aload_n 0, 1) := by decide +kernel
theorem dL_law_1166 : decode cL_law 1166 = .ok (.iload_n 3, 1) := by decide +kernel
theorem dL_law_1167 : decode cL_law 1167 = .ok (.iconst 3, 1) := by decide +kernel
theorem dL_law_1168 : decode cL_law 1168 = .ok (.iadd, 1) := by decide +kernel
theorem dL_law_1169 : decode cL_law 1169 = .ok (.iaload, 1) := by decide +kernel
theorem dL_law_1170 : decode cL_law 1170 = .ok (.aload_n 0, 1) := by decide +kernel
theorem dL_law_1171 : decode cL_law 1171 = .ok (.iload_n 3, 1) := by decide +kernel
theorem dL_law_1172 : decode cL_law 1172 = .ok (.iconst 4, 1) := by decide +kernel
theorem dL_law_1173 : decode cL_law 1173 = .ok (.iadd, 1) := by decide +kernel
theorem dL_law_1174 : decode cL_law 1174 = .ok (.iaload, 1) := by decide +kernel
theorem dL_law_1175 : decode cL_law 1175 = .ok (.invokevirtual 145, 3) := by decide +kernel
theorem dL_law_1178 : decode cL_law 1178 = .ok (.aload_n 2, 1) := by decide +kernel
theorem dL_law_1179 : decode cL_law 1179 = .ok (.aload_n 0, 1) := by decide +kernel
theorem dL_law_1180 : decode cL_law 1180 = .ok (.iload_n 3, 1) := by decide +kernel
theorem dL_law_1181 : decode cL_law 1181 = .ok (.iconst 1, 1) := by decide +kernel
theorem dL_law_1182 : decode cL_law 1182 = .ok (.iadd, 1) := by decide +kernel
theorem dL_law_1183 : decode cL_law 1183 = .ok (.iaload, 1) := by decide +kernel
theorem dL_law_1184 : decode cL_law 1184 = .ok (.aload_n 0, 1) := by decide +kernel
theorem dL_law_1185 : decode cL_law 1185 = .ok (.iload_n 3, 1) := by decide +kernel
theorem dL_law_1186 : decode cL_law 1186 = .ok (.iconst 2, 1) := by decide +kernel
theorem dL_law_1187 : decode cL_law 1187 = .ok (.iadd, 1) := by decide +kernel
theorem dL_law_1188 : decode cL_law 1188 = .ok (.iaload, 1) := by decide +kernel
theorem dL_law_1189 : decode cL_law 1189 = .ok (.aload_n 0, 1) := by decide +kernel
theorem dL_law_1190 : decode cL_law 1190 = .ok (.iload_n 3, 1) := by decide +kernel
theorem dL_law_1191 : decode cL_law 1191 = .ok (.iconst 3, 1) := by decide +kernel
theorem dL_law_1192 : decode cL_law 1192 = .ok (.iadd, 1) := by decide +kernel
theorem dL_law_1193 : decode cL_law 1193 = .ok (.iaload, 1) := by decide +kernel
theorem dL_law_1194 : decode cL_law 1194 = .ok (.aload_n 0, 1) := by decide +kernel
theorem dL_law_1195 : decode cL_law 1195 = .ok (.iload_n 3, 1) := by decide +kernel
theorem dL_law_1196 : decode cL_law 1196 = .ok (.iconst 4, 1) := by decide +kernel
theorem dL_law_1197 : decode cL_law 1197 = .ok (.iadd, 1) := by decide +kernel
theorem dL_law_1198 : decode cL_law 1198 = .ok (.iaload, 1) := by decide +kernel
theorem dL_law_1199 : decode cL_law 1199 = .ok (.invokevirtual 149, 3) := by decide +kernel
theorem dL_law_1202 : decode cL_law 1202 = .ok (.if_icmp .eq 181, 3) := by decide +kernel
theorem dL_law_1205 : decode cL_law 1205 = .ok (.iconst 0, 1) := by decide +kernel
theorem dL_law_1206 : decode cL_law 1206 = .ok (.ireturn, 1) := by decide +kernel
theorem dL_law_1207 : decode cL_law 1207 = .ok (.aload_n 1, 1) := by decide +kernel
theorem dL_law_1208 : decode cL_law 1208 = .ok (.aload_n 0, 1) := by decide +kernel
theorem dL_law_1209 : decode cL_law 1209 = .ok (.iload_n 3, 1) := by decide +kernel
theorem dL_law_1210 : decode cL_law 1210 = .ok (.iconst 1, 1) := by decide +kernel
theorem dL_law_1211 : decode cL_law 1211 = .ok (.iadd, 1) := by decide +kernel
theorem dL_law_1212 : decode cL_law 1212 = .ok (.iaload, 1) := by decide +kernel
theorem dL_law_1213 : decode cL_law 1213 = .ok (.aload_n 0, 1) := by decide +kernel
theorem dL_law_1214 : decode cL_law 1214 = .ok (.iload_n 3, 1) := by decide +kernel
theorem dL_law_1215 : decode cL_law 1215 = .ok (.iconst 2, 1) := by decide +kernel
theorem dL_law_1216 : decode cL_law 1216 = .ok (.iadd, 1) := by decide +kernel
theorem dL_law_1217 : decode cL_law 1217 = .ok (.iaload, 1) := by decide +kernel
theorem dL_law_1218 : decode cL_law 1218 = .ok (.aload_n 0, 1) := by decide +kernel
theorem dL_law_1219 : decode cL_law 1219 = .ok (.iload_n 3, 1) := by decide +kernel
theorem dL_law_1220 : decode cL_law 1220 = .ok (.iconst 3, 1) := by decide +kernel
theorem dL_law_1221 : decode cL_law 1221 = .ok (.iadd, 1) := by decide +kernel
theorem dL_law_1222 : decode cL_law 1222 = .ok (.iaload, 1) := by decide +kernel
theorem dL_law_1223 : decode cL_law 1223 = .ok (.invokevirtual 150, 3) := by decide +kernel
theorem dL_law_1226 : decode cL_law 1226 = .ok (.aload_n 2, 1) := by decide +kernel
theorem dL_law_1227 : decode cL_law 1227 = .ok (.aload_n 0, 1) := by decide +kernel
theorem dL_law_1228 : decode cL_law 1228 = .ok (.iload_n 3, 1) := by decide +kernel
theorem dL_law_1229 : decode cL_law 1229 = .ok (.iconst 1, 1) := by decide +kernel
theorem dL_law_1230 : decode cL_law 1230 = .ok (.iadd, 1) := by decide +kernel
theorem dL_law_1231 : decode cL_law 1231 = .ok (.iaload, 1) := by decide +kernel
theorem dL_law_1232 : decode cL_law 1232 = .ok (.aload_n 0, 1) := by decide +kernel
theorem dL_law_1233 : decode cL_law 1233 = .ok (.iload_n 3, 1) := by decide +kernel
theorem dL_law_1234 : decode cL_law 1234 = .ok (.iconst 2, 1) := by decide +kernel
theorem dL_law_1235 : decode cL_law 1235 = .ok (.iadd, 1) := by decide +kernel
theorem dL_law_1236 : decode cL_law 1236 = .ok (.iaload, 1) := by decide +kernel
theorem dL_law_1237 : decode cL_law 1237 = .ok (.aload_n 0, 1) := by decide +kernel
theorem dL_law_1238 : decode cL_law 1238 = .ok (.iload_n 3, 1) := by decide +kernel
theorem dL_law_1239 : decode cL_law 1239 = .ok (.iconst 3, 1) := by decide +kernel
theorem dL_law_1240 : decode cL_law 1240 = .ok (.iadd, 1) := by decide +kernel
theorem dL_law_1241 : decode cL_law 1241 = .ok (.iaload, 1) := by decide +kernel
theorem dL_law_1242 : decode cL_law 1242 = .ok (.invokevirtual 153, 3) := by decide +kernel
theorem dL_law_1245 : decode cL_law 1245 = .ok (.if_icmp .eq 138, 3) := by decide +kernel
theorem dL_law_1248 : decode cL_law 1248 = .ok (.iconst 0, 1) := by decide +kernel
theorem dL_law_1249 : decode cL_law 1249 = .ok (.ireturn, 1) := by decide +kernel
theorem dL_law_1250 : decode cL_law 1250 = .ok (.aload_n 1, 1) := by decide +kernel
theorem dL_law_1251 : decode cL_law 1251 = .ok (.aload_n 0, 1) := by decide +kernel
theorem dL_law_1252 : decode cL_law 1252 = .ok (.iload_n 3, 1) := by decide +kernel
theorem dL_law_1253 : decode cL_law 1253 = .ok (.iconst 1, 1) := by decide +kernel
theorem dL_law_1254 : decode cL_law 1254 = .ok (.iadd, 1) := by decide +kernel
theorem dL_law_1255 : decode cL_law 1255 = .ok (.iaload, 1) := by decide +kernel
theorem dL_law_1256 : decode cL_law 1256 = .ok (.aload_n 0, 1) := by decide +kernel
theorem dL_law_1257 : decode cL_law 1257 = .ok (.iload_n 3, 1) := by decide +kernel
theorem dL_law_1258 : decode cL_law 1258 = .ok (.iconst 2, 1) := by decide +kernel
theorem dL_law_1259 : decode cL_law 1259 = .ok (.iadd, 1) := by decide +kernel
theorem dL_law_1260 : decode cL_law 1260 = .ok (.iaload, 1) := by decide +kernel
theorem dL_law_1261 : decode cL_law 1261 = .ok (.aload_n 0, 1) := by decide +kernel
theorem dL_law_1262 : decode cL_law 1262 = .ok (.iload_n 3, 1) := by decide +kernel
theorem dL_law_1263 : decode cL_law 1263 = .ok (.iconst 3, 1) := by decide +kernel
theorem dL_law_1264 : decode cL_law 1264 = .ok (.iadd, 1) := by decide +kernel
theorem dL_law_1265 : decode cL_law 1265 = .ok (.iaload, 1) := by decide +kernel
theorem dL_law_1266 : decode cL_law 1266 = .ok (.aload_n 0, 1) := by decide +kernel
theorem dL_law_1267 : decode cL_law 1267 = .ok (.iload_n 3, 1) := by decide +kernel
theorem dL_law_1268 : decode cL_law 1268 = .ok (.iconst 4, 1) := by decide +kernel
theorem dL_law_1269 : decode cL_law 1269 = .ok (.iadd, 1) := by decide +kernel
theorem dL_law_1270 : decode cL_law 1270 = .ok (.iaload, 1) := by decide +kernel
theorem dL_law_1271 : decode cL_law 1271 = .ok (.aload_n 0, 1) := by decide +kernel
theorem dL_law_1272 : decode cL_law 1272 = .ok (.iload_n 3, 1) := by decide +kernel
theorem dL_law_1273 : decode cL_law 1273 = .ok (.iconst 5, 1) := by decide +kernel
theorem dL_law_1274 : decode cL_law 1274 = .ok (.iadd, 1) := by decide +kernel
theorem dL_law_1275 : decode cL_law 1275 = .ok (.iaload, 1) := by decide +kernel
theorem dL_law_1276 : decode cL_law 1276 = .ok (.invokevirtual 154, 3) := by decide +kernel
theorem dL_law_1279 : decode cL_law 1279 = .ok (.aload_n 2, 1) := by decide +kernel
theorem dL_law_1280 : decode cL_law 1280 = .ok (.aload_n 0, 1) := by decide +kernel
theorem dL_law_1281 : decode cL_law 1281 = .ok (.iload_n 3, 1) := by decide +kernel
theorem dL_law_1282 : decode cL_law 1282 = .ok (.iconst 1, 1) := by decide +kernel
theorem dL_law_1283 : decode cL_law 1283 = .ok (.iadd, 1) := by decide +kernel
theorem dL_law_1284 : decode cL_law 1284 = .ok (.iaload, 1) := by decide +kernel
theorem dL_law_1285 : decode cL_law 1285 = .ok (.aload_n 0, 1) := by decide +kernel
theorem dL_law_1286 : decode cL_law 1286 = .ok (.iload_n 3, 1) := by decide +kernel
theorem dL_law_1287 : decode cL_law 1287 = .ok (.iconst 2, 1) := by decide +kernel
theorem dL_law_1288 : decode cL_law 1288 = .ok (.iadd, 1) := by decide +kernel
theorem dL_law_1289 : decode cL_law 1289 = .ok (.iaload, 1) := by decide +kernel
theorem dL_law_1290 : decode cL_law 1290 = .ok (.aload_n 0, 1) := by decide +kernel
theorem dL_law_1291 : decode cL_law 1291 = .ok (.iload_n 3, 1) := by decide +kernel
theorem dL_law_1292 : decode cL_law 1292 = .ok (.iconst 3, 1) := by decide +kernel
theorem dL_law_1293 : decode cL_law 1293 = .ok (.iadd, 1) := by decide +kernel
theorem dL_law_1294 : decode cL_law 1294 = .ok (.iaload, 1) := by decide +kernel
theorem dL_law_1295 : decode cL_law 1295 = .ok (.aload_n 0, 1) := by decide +kernel
theorem dL_law_1296 : decode cL_law 1296 = .ok (.iload_n 3, 1) := by decide +kernel
theorem dL_law_1297 : decode cL_law 1297 = .ok (.iconst 4, 1) := by decide +kernel
theorem dL_law_1298 : decode cL_law 1298 = .ok (.iadd, 1) := by decide +kernel
theorem dL_law_1299 : decode cL_law 1299 = .ok (.iaload, 1) := by decide +kernel
theorem dL_law_1300 : decode cL_law 1300 = .ok (.aload_n 0, 1) := by decide +kernel
theorem dL_law_1301 : decode cL_law 1301 = .ok (.iload_n 3, 1) := by decide +kernel
theorem dL_law_1302 : decode cL_law 1302 = .ok (.iconst 5, 1) := by decide +kernel
theorem dL_law_1303 : decode cL_law 1303 = .ok (.iadd, 1) := by decide +kernel
theorem dL_law_1304 : decode cL_law 1304 = .ok (.iaload, 1) := by decide +kernel
theorem dL_law_1305 : decode cL_law 1305 = .ok (.invokevirtual 158, 3) := by decide +kernel
theorem dL_law_1308 : decode cL_law 1308 = .ok (.if_icmp .eq 75, 3) := by decide +kernel
theorem dL_law_1311 : decode cL_law 1311 = .ok (.iconst 0, 1) := by decide +kernel
theorem dL_law_1312 : decode cL_law 1312 = .ok (.ireturn, 1) := by decide +kernel
theorem dL_law_1313 : decode cL_law 1313 = .ok (.aload_n 1, 1) := by decide +kernel
theorem dL_law_1314 : decode cL_law 1314 = .ok (.aload_n 0, 1) := by decide +kernel
theorem dL_law_1315 : decode cL_law 1315 = .ok (.iload_n 3, 1) := by decide +kernel
theorem dL_law_1316 : decode cL_law 1316 = .ok (.iconst 1, 1) := by decide +kernel
theorem dL_law_1317 : decode cL_law 1317 = .ok (.iadd, 1) := by decide +kernel
theorem dL_law_1318 : decode cL_law 1318 = .ok (.iaload, 1) := by decide +kernel
theorem dL_law_1319 : decode cL_law 1319 = .ok (.aload_n 0, 1) := by decide +kernel
theorem dL_law_1320 : decode cL_law 1320 = .ok (.iload_n 3, 1) := by decide +kernel
theorem dL_law_1321 : decode cL_law 1321 = .ok (.iconst 2, 1) := by decide +kernel
theorem dL_law_1322 : decode cL_law 1322 = .ok (.iadd, 1) := by decide +kernel
theorem dL_law_1323 : decode cL_law 1323 = .ok (.iaload, 1) := by decide +kernel
theorem dL_law_1324 : decode cL_law 1324 = .ok (.invokevirtual 159, 3) := by decide +kernel
theorem dL_law_1327 : decode cL_law 1327 = .ok (.aload_n 2, 1) := by decide +kernel
theorem dL_law_1328 : decode cL_law 1328 = .ok (.aload_n 0, 1) := by decide +kernel
theorem dL_law_1329 : decode cL_law 1329 = .ok (.iload_n 3, 1) := by decide +kernel
theorem dL_law_1330 : decode cL_law 1330 = .ok (.iconst 1, 1) := by decide +kernel
theorem dL_law_1331 : decode cL_law 1331 = .ok (.iadd, 1) := by decide +kernel
theorem dL_law_1332 : decode cL_law 1332 = .ok (.iaload, 1) := by decide +kernel
theorem dL_law_1333 : decode cL_law 1333 = .ok (.aload_n 0, 1) := by decide +kernel
theorem dL_law_1334 : decode cL_law 1334 = .ok (.iload_n 3, 1) := by decide +kernel
theorem dL_law_1335 : decode cL_law 1335 = .ok (.iconst 2, 1) := by decide +kernel
theorem dL_law_1336 : decode cL_law 1336 = .ok (.iadd, 1) := by decide +kernel
theorem dL_law_1337 : decode cL_law 1337 = .ok (.iaload, 1) := by decide +kernel
theorem dL_law_1338 : decode cL_law 1338 = .ok (.invokevirtual 162, 3) := by decide +kernel
theorem dL_law_1341 : decode cL_law 1341 = .ok (.if_icmp .eq 42, 3) := by decide +kernel
theorem dL_law_1344 : decode cL_law 1344 = .ok (.iconst 0, 1) := by decide +kernel
theorem dL_law_1345 : decode cL_law 1345 = .ok (.ireturn, 1) := by decide +kernel
theorem dL_law_1346 : decode cL_law 1346 = .ok (.aload_n 1, 1) := by decide +kernel
theorem dL_law_1347 : decode cL_law 1347 = .ok (.aload_n 0, 1) := by decide +kernel
theorem dL_law_1348 : decode cL_law 1348 = .ok (.iload_n 3, 1) := by decide +kernel
theorem dL_law_1349 : decode cL_law 1349 = .ok (.iconst 1, 1) := by decide +kernel
theorem dL_law_1350 : decode cL_law 1350 = .ok (.iadd, 1) := by decide +kernel
theorem dL_law_1351 : decode cL_law 1351 = .ok (.iaload, 1) := by decide +kernel
theorem dL_law_1352 : decode cL_law 1352 = .ok (.invokevirtual 163, 3) := by decide +kernel
theorem dL_law_1355 : decode cL_law 1355 = .ok (.aload_n 2, 1) := by decide +kernel
theorem dL_law_1356 : decode cL_law 1356 = .ok (.aload_n 0, 1) := by decide +kernel
theorem dL_law_1357 : decode cL_law 1357 = .ok (.iload_n 3, 1) := by decide +kernel
theorem dL_law_1358 : decode cL_law 1358 = .ok (.iconst 1, 1) := by decide +kernel
theorem dL_law_1359 : decode cL_law 1359 = .ok (.iadd, 1) := by decide +kernel
theorem dL_law_1360 : decode cL_law 1360 = .ok (.iaload, 1) := by decide +kernel
theorem dL_law_1361 : decode cL_law 1361 = .ok (.invokevirtual 166, 3) := by decide +kernel
theorem dL_law_1364 : decode cL_law 1364 = .ok (.if_icmp .eq 19, 3) := by decide +kernel
theorem dL_law_1367 : decode cL_law 1367 = .ok (.iconst 0, 1) := by decide +kernel
theorem dL_law_1368 : decode cL_law 1368 = .ok (.ireturn, 1) := by decide +kernel
theorem dL_law_1369 : decode cL_law 1369 = .ok (.aload_n 1, 1) := by decide +kernel
theorem dL_law_1370 : decode cL_law 1370 = .ok (.invokevirtual 167, 3) := by decide +kernel
theorem dL_law_1373 : decode cL_law 1373 = .ok (.aload_n 2, 1) := by decide +kernel
theorem dL_law_1374 : decode cL_law 1374 = .ok (.invokevirtual 171, 3) := by decide +kernel
theorem dL_law_1377 : decode cL_law 1377 = .ok (.lcmp, 1) := by decide +kernel
theorem dL_law_1378 : decode cL_law 1378 = .ok (.ifCond .eq 5, 3) := by decide +kernel
theorem dL_law_1381 : decode cL_law 1381 = .ok (.iconst 0, 1) := by decide +kernel
theorem dL_law_1382 : decode cL_law 1382 = .ok (.ireturn, 1) := by decide +kernel
theorem dL_law_1383 : decode cL_law 1383 = .ok (.iinc 3 6, 3) := by decide +kernel
theorem dL_law_1386 : decode cL_law 1386 = .ok (.goto (-1368), 3) := by decide +kernel
theorem dL_law_1389 : decode cL_law 1389 = .ok (.iconst 1, 1) := by decide +kernel
theorem dL_law_1390 : decode cL_law 1390 = .ok (.ireturn, 1) := by decide +kernel
end
section
/-! the abstract machine: values, memory, operations -/
/-- int | long | reference (0: null, o + 1: the object o) | unknown -/
abbrev am_V : Type := Int ⊕ (Int ⊕ (Nat ⊕ Unit))
abbrev aI (n : Int) : am_V := Sum.inl n
abbrev aL (n : Int) : am_V := Sum.inr (Sum.inl n)
abbrev aR (o : Nat) : am_V := Sum.inr (Sum.inr (Sum.inl (o + 1)))
abbrev aN : am_V := Sum.inr (Sum.inr (Sum.inl 0))
abbrev aJ : am_V := Sum.inr (Sum.inr (Sum.inr ()))
abbrev am_M : Type := Nat → Nat → Int
abbrev am_K : Type := Nat → List am_V → List am_V → am_M → Prop
abbrev am_Q : Type := am_V → am_M → Prop
abbrev am_O : Type := List am_V → List am_V → am_M → am_K → am_Q → Prop
abbrev am_E : Type := List am_V → am_M → am_Q → Prop
def am_set (f : Nat → Int) (j : Nat) (x : Int) : Nat → Int := fun i => if i = j then x else f i
def am_up (M : am_M) (o j : Nat) (x : Int) : am_M := fun p => if p = o then am_set (M o) j x else M p
def am_cpy (f g : Nat → Int) (sp dp n : Nat) : Nat → Int := fun k => if dp ≤ k ∧ k < dp + n then f (sp + (k - dp)) else g k
def am_ob (M : am_M) (o : Nat) (f : Nat → Int) : am_M := fun p => if p = o then f else M p
def w32 (x : Int) : Int := (x + 2147483648) % 4294967296 - 2147483648
def w64 (x : Int) : Int := (x + 9223372036854775808) % 18446744073709551616 - 9223372036854775808
def w16 (x : Int) : Int := (x + 32768) % 65536 - 32768
def w8 (x : Int) : Int := (x + 128) % 256 - 128
def am_and (a b : Int) : Int := (BitVec.ofInt 32 a &&& BitVec.ofInt 32 b).toInt
def am_or (a b : Int) : Int := (BitVec.ofInt 32 a ||| BitVec.ofInt 32 b).toInt
def am_xor (a b : Int) : Int := (BitVec.ofInt 32 a ^^^ BitVec.ofInt 32 b).toInt
def am_land (a b : Int) : Int := (BitVec.ofInt 64 a &&& BitVec.ofInt 64 b).toInt
def am_lor (a b : Int) : Int := (BitVec.ofInt 64 a ||| BitVec.ofInt 64 b).toInt
def am_shl (a b : Int) : Int := w32 (a * 2 ^ b.toNat)
def am_shr (a b : Int) : Int := a / 2 ^ b.toNat
def am_ushr (a b : Int) : Int := w32 ((a % 4294967296) / 2 ^ b.toNat)
def am_lshl (a b : Int) : Int := w64 (a * 2 ^ b.toNat)
def am_lushr (a b : Int) : Int := w64 ((a % 18446744073709551616) / 2 ^ b.toNat)
def am_cmp (a b : Int) : Int := if a < b then -1 else if a = b then 0 else 1
/-- the shape: an object of a class with its fields (0 int, 1 long, t + 2 the object t), or an array (0 int, 1 long, b + 2 the objects from b on) of a length -/
abbrev am_D : Type := (Nat × List Nat) ⊕ (Nat × Nat)
def am_tab : List am_D := [
  .inl (11, [3, 5, 7, 9, 12, 15, 17, 22, 25, 26, 29, 32, 36, 45, 0, 0, 0]),
  .inl (9, [0, 4, 0, 0]), .inr (0, 71), .inl (9, [0, 6, 0, 0]), .inr (0, 71), .inl (9, [0, 8, 0, 0]), .inr (0, 71),
  .inl (2, [10, 11, 0]), .inr (0, 64), .inr (0, 256),
  .inl (0, [9, 13, 14]), .inr (0, 64), .inr (0, 64),
  .inl (1, [9, 16, 1]), .inr (0, 64),
  .inl (3, [18, 19, 20, 21, 0]), .inr (0, 25), .inr (0, 5), .inr (0, 5), .inr (0, 5),
  .inl (10, [23, 24, 0, 0, 0]), .inr (0, 40), .inr (0, 41),
  .inl (8, [0, 0, 0, 0, 0]),
  .inl (5, [9, 12, 27, 28, 1]), .inr (1, 64), .inr (1, 64),
  .inl (4, [30, 31, 0]), .inr (0, 5), .inr (0, 5),
  .inl (6, [33, 34, 35]), .inr (0, 35), .inr (0, 32), .inr (0, 224),
  .inr (37, 4),
  .inl (7, [41, 0, 0]), .inl (7, [42, 0, 0]), .inl (7, [43, 0, 0]), .inl (7, [44, 0, 0]),
  .inr (0, 64), .inr (0, 64), .inr (0, 64), .inr (0, 64),
  .inr (0, 64),
  .inl (12, [47, 48, 49, 50, 0, 51, 52, 0, 53, 0, 54, 0, 55, 56, 57, 58, 59, 0, 60, 61, 62, 63, 0, 0, 0, 0, 64, 65, 0, 66, 67, 68, 0, 69]),
  .inr (0, 4), .inr (0, 4), .inr (0, 256), .inr (0, 64), .inr (0, 240), .inr (0, 3), .inr (0, 64), .inr (0, 5), .inr (0, 40), .inr (0, 3), .inr (0, 25), .inr (0, 5), .inr (0, 5), .inr (0, 41), .inr (0, 64), .inr (0, 5), .inr (0, 5), .inr (1, 64), .inr (1, 64), .inr (0, 10), .inr (0, 30), .inr (0, 6), .inr (0, 32)]
def am_N : Nat := 68
abbrev am_cl : List vw_C := [(RX0, TX0, 3), (RX1, TX1, 3), (RX2, TX2, 3), (RX3, TX3, 5), (RX4, TX4, 3), (RX5, TX5, 5), (RX6, TX6, 3), (RX7, TX7, 3), (RX8, TX8, 5), (RX9, TX9, 4), (RX10, TX10, 5), (RX11, TX11, 17), (RX12, TX12, 34)]
def am_kd (o : Nat) : am_D := am_tab.getD o (.inr (0, 0))
/-- the kind of a field of an object of a class -/
def am_fk (o ci k : Nat) : Option Nat := match am_kd o with
  | .inl (c, fs) => if c = ci then fs[k]? else none
  | .inr _ => none
def am_isC (o ci : Nat) : Bool := match am_kd o with
  | .inl (c, _) => c == ci
  | .inr _ => false
/-- the length of an array of a kind (0 int, 1 long) -/
def am_al (o k : Nat) : Option Nat := match am_kd o with
  | .inl _ => none
  | .inr (c, n) => if c = k then some n else none
def am_push (v : Bool) (r : am_V) (st : List am_V) : List am_V := if v then st else r :: st
def am_cat (st : List am_V) : Nat := match st with
  | [] => 0
  | .inr (.inl _) :: r => 2 + am_cat r
  | _ :: r => 1 + am_cat r
def am_kil (ls : List am_V) (i : Nat) : List am_V := match ls[i]? with
  | some (.inr (.inl _)) => ls.set i aJ
  | _ => ls
def am_st1 (ls : List am_V) (i : Nat) (a : am_V) : List am_V := match i with
  | 0 => ls.set 0 a
  | j + 1 => (am_kil ls j).set (j + 1) a
def am_st2 (ls : List am_V) (i : Nat) (a : am_V) : List am_V := (am_st1 ls i a).set (i + 1) aJ
def am_exp : List am_V → List am_V
  | [] => []
  | .inr (.inl x) :: r => .inr (.inl x) :: aJ :: am_exp r
  | a :: r => a :: am_exp r
def am_init (n : Nat) (as : List am_V) : List am_V := am_exp as ++ List.replicate (n - (am_exp as).length) aJ
-- the operations; n is the next place
def o_push (v : am_V) (n : Nat) : am_O := fun ls st M k _ => k n ls (v :: st) M
def o_iload (i n : Nat) : am_O := fun ls st M k _ => match ls[i]? with
  | some (.inl x) => k n ls (aI x :: st) M
  | _ => False
def o_lload (i n : Nat) : am_O := fun ls st M k _ => match ls[i]? with
  | some (.inr (.inl x)) => k n ls (aL x :: st) M
  | _ => False
def o_aload (i n : Nat) : am_O := fun ls st M k _ => match ls[i]? with
  | some (.inr (.inr (.inl x))) => k n ls (.inr (.inr (.inl x)) :: st) M
  | _ => False
def o_istore (i n : Nat) : am_O := fun ls st M k _ => match st with
  | .inl x :: st => k n (am_st1 ls i (aI x)) st M
  | _ => False
def o_lstore (i n : Nat) : am_O := fun ls st M k _ => match st with
  | .inr (.inl x) :: st => k n (am_st2 ls i (aL x)) st M
  | _ => False
def o_astore (i n : Nat) : am_O := fun ls st M k _ => match st with
  | .inr (.inr (.inl x)) :: st => k n (am_st1 ls i (.inr (.inr (.inl x)))) st M
  | _ => False
def o_iinc (i : Nat) (c : Int) (n : Nat) : am_O := fun ls st M k _ => match ls[i]? with
  | some (.inl x) => k n (am_st1 ls i (aI (w32 (x + c)))) st M
  | _ => False
def o_bin (f : Int → Int → Int) (n : Nat) : am_O := fun ls st M k _ => match st with
  | .inl b :: .inl a :: st => k n ls (aI (f a b) :: st) M
  | _ => False
def o_binL (f : Int → Int → Int) (n : Nat) : am_O := fun ls st M k _ => match st with
  | .inr (.inl b) :: .inr (.inl a) :: st => k n ls (aL (f a b) :: st) M
  | _ => False
def o_idiv (n : Nat) : am_O := fun ls st M k _ => match st with
  | .inl b :: .inl a :: st => (0 ≤ a ∧ 0 < b) ∧ k n ls (aI (a / b) :: st) M
  | _ => False
def o_irem (n : Nat) : am_O := fun ls st M k _ => match st with
  | .inl b :: .inl a :: st => (0 ≤ a ∧ 0 < b) ∧ k n ls (aI (a % b) :: st) M
  | _ => False
def o_ldiv (n : Nat) : am_O := fun ls st M k _ => match st with
  | .inr (.inl b) :: .inr (.inl a) :: st => (0 ≤ a ∧ 0 < b) ∧ k n ls (aL (a / b) :: st) M
  | _ => False
def o_lrem (n : Nat) : am_O := fun ls st M k _ => match st with
  | .inr (.inl b) :: .inr (.inl a) :: st => (0 ≤ a ∧ 0 < b) ∧ k n ls (aL (a % b) :: st) M
  | _ => False
def o_sh (f : Int → Int → Int) (n : Nat) : am_O := fun ls st M k _ => match st with
  | .inl b :: .inl a :: st => (0 ≤ b ∧ b < 32) ∧ k n ls (aI (f a b) :: st) M
  | _ => False
def o_shL (f : Int → Int → Int) (n : Nat) : am_O := fun ls st M k _ => match st with
  | .inl b :: .inr (.inl a) :: st => (0 ≤ b ∧ b < 64) ∧ k n ls (aL (f a b) :: st) M
  | _ => False
def o_un (f : Int → Int) (n : Nat) : am_O := fun ls st M k _ => match st with
  | .inl a :: st => k n ls (aI (f a) :: st) M
  | _ => False
def o_i2l (n : Nat) : am_O := fun ls st M k _ => match st with
  | .inl a :: st => k n ls (aL a :: st) M
  | _ => False
def o_lcmp (n : Nat) : am_O := fun ls st M k _ => match st with
  | .inr (.inl b) :: .inr (.inl a) :: st => k n ls (aI (am_cmp a b) :: st) M
  | _ => False
def o_dup (n : Nat) : am_O := fun ls st M k _ => match st with
  | .inl a :: st => k n ls (.inl a :: .inl a :: st) M
  | .inr (.inr (.inl a)) :: st => k n ls (.inr (.inr (.inl a)) :: .inr (.inr (.inl a)) :: st) M
  | _ => False
def o_dup2 (n : Nat) : am_O := fun ls st M k _ => match st with
  | .inr (.inl a) :: st => k n ls (aL a :: aL a :: st) M
  | .inl b :: .inr (.inr (.inl a)) :: st => k n ls (.inl b :: .inr (.inr (.inl a)) :: .inl b :: .inr (.inr (.inl a)) :: st) M
  | _ => False
def o_pop (n : Nat) : am_O := fun ls st M k _ => match st with
  | .inl _ :: st => k n ls st M
  | _ => False
def o_pop2 (n : Nat) : am_O := fun ls st M k _ => match st with
  | .inr (.inl _) :: st => k n ls st M
  | _ => False
def o_goto (n : Nat) : am_O := fun ls st M k _ => k n ls st M
/-- a test of one int against 0: where it holds to t, else to n -/
def o_if (c : Int → Prop) (t n : Nat) : am_O := fun ls st M k _ => match st with
  | .inl a :: st => (c a → k t ls st M) ∧ (¬ c a → k n ls st M)
  | _ => False
def o_ic (c : Int → Int → Prop) (t n : Nat) : am_O := fun ls st M k _ => match st with
  | .inl b :: .inl a :: st => (c a b → k t ls st M) ∧ (¬ c a b → k n ls st M)
  | _ => False
def o_nul (t n : Nat) : am_O := fun ls st M k _ => match st with
  | .inr (.inr (.inl 0)) :: st => k t ls st M
  | .inr (.inr (.inl (_ + 1))) :: st => k n ls st M
  | _ => False
def am_tgt (v lo hi : Int) (ts : List Nat) (d : Nat) : Nat := if v < lo ∨ hi < v then d else ts.getD (v - lo).toNat d
def o_tsw (lo hi : Int) (ts : List Nat) (d : Nat) : am_O := fun ls st M k _ => match st with
  | .inl v :: st => k (am_tgt v lo hi ts d) ls st M
  | _ => False
def am_ltg (v : Int) (d : Nat) : List (Int × Nat) → Nat
  | [] => d
  | (a, t) :: r => if v = a then t else am_ltg v d r
def o_lsw (ps : List (Int × Nat)) (d : Nat) : am_O := fun ls st M k _ => match st with
  | .inl v :: st => k (am_ltg v d ps) ls st M
  | _ => False
def o_getf (ci f n : Nat) : am_O := fun ls st M k _ => match st with
  | .inr (.inr (.inl (o + 1))) :: st => match am_fk o ci f with
    | some 0 => k n ls (aI (M o f) :: st) M
    | some 1 => k n ls (aL (M o f) :: st) M
    | some (t + 2) => k n ls (aR t :: st) M
    | none => False
  | _ => False
def o_putI (ci f n : Nat) : am_O := fun ls st M k _ => match st with
  | .inl x :: .inr (.inr (.inl (o + 1))) :: st => am_fk o ci f = some 0 ∧ k n ls st (am_up M o f x)
  | _ => False
def o_putL (ci f n : Nat) : am_O := fun ls st M k _ => match st with
  | .inr (.inl x) :: .inr (.inr (.inl (o + 1))) :: st => am_fk o ci f = some 1 ∧ k n ls st (am_up M o f x)
  | _ => False
def o_iald (n : Nat) : am_O := fun ls st M k _ => match st with
  | .inl i :: .inr (.inr (.inl (o + 1))) :: st => (∃ N : Nat, am_al o 0 = some N ∧ 0 ≤ i ∧ i < (N : Int)) ∧ k n ls (aI (M o i.toNat) :: st) M
  | _ => False
def o_lald (n : Nat) : am_O := fun ls st M k _ => match st with
  | .inl i :: .inr (.inr (.inl (o + 1))) :: st => (∃ N : Nat, am_al o 1 = some N ∧ 0 ≤ i ∧ i < (N : Int)) ∧ k n ls (aL (M o i.toNat) :: st) M
  | _ => False
def o_aald (n : Nat) : am_O := fun ls st M k _ => match st with
  | .inl i :: .inr (.inr (.inl (o + 1))) :: st => match am_kd o with
    | .inr (b + 2, N) => (0 ≤ i ∧ i < (N : Int)) ∧ k n ls (aR (b + i.toNat) :: st) M
    | _ => False
  | _ => False
def o_iast (n : Nat) : am_O := fun ls st M k _ => match st with
  | .inl x :: .inl i :: .inr (.inr (.inl (o + 1))) :: st => (∃ N : Nat, am_al o 0 = some N ∧ 0 ≤ i ∧ i < (N : Int)) ∧ k n ls st (am_up M o i.toNat x)
  | _ => False
def o_last (n : Nat) : am_O := fun ls st M k _ => match st with
  | .inr (.inl x) :: .inl i :: .inr (.inr (.inl (o + 1))) :: st => (∃ N : Nat, am_al o 1 = some N ∧ 0 ≤ i ∧ i < (N : Int)) ∧ k n ls st (am_up M o i.toNat x)
  | _ => False
def o_alen (n : Nat) : am_O := fun ls st M k _ => match st with
  | .inr (.inr (.inl (o + 1))) :: st => match am_kd o with
    | .inr (0, N) => 0 < N ∧ k n ls (aI N :: st) M
    | .inr (1, N) => 0 < N ∧ k n ls (aI N :: st) M
    | _ => False
  | _ => False
/-- System.arraycopy over ints (kd = 0) or longs (kd = 1) -/
def o_acpy (kd n : Nat) : am_O := fun ls st M k _ => match st with
  | .inl c :: .inl dp :: .inr (.inr (.inl (b + 1))) :: .inl sp :: .inr (.inr (.inl (a + 1))) :: st =>
    ∃ n0 n1 : Nat, am_al a kd = some n0 ∧ am_al b kd = some n1 ∧ (0 ≤ sp ∧ 0 ≤ dp ∧ 0 ≤ c ∧ sp + c ≤ n0 ∧ dp + c ≤ n1 ∧ 0 < n0 ∧ 0 < n1) ∧ am_cat st ≤ 8 ∧ k n ls st (am_ob M b (am_cpy (M a) (M b) sp.toNat dp.toNat c.toNat))
  | _ => False
def o_call (S : am_E) (a : Nat) (v : Bool) (n : Nat) : am_O := fun ls st M k _ => a ≤ st.length ∧ am_cat (st.drop a) ≤ 8 ∧ S (st.take a).reverse M (fun r M' => k n ls (am_push v r (st.drop a)) M')
def o_callv (S : am_E) (ci a : Nat) (v : Bool) (n : Nat) : am_O := fun ls st M k _ => match st.drop a with
  | .inr (.inr (.inl (o + 1))) :: rest => am_isC o ci = true ∧ am_cat rest ≤ 8 ∧ S (aR o :: (st.take a).reverse) M (fun r M' => k n ls (am_push v r rest) M')
  | _ => False
def o_iret : am_O := fun _ st M _ q => match st with
  | [.inl x] => q (aI x) M
  | _ => False
def o_zret : am_O := fun _ st M _ q => match st with
  | [.inl x] => (x = 0 ∨ x = 1) ∧ q (aI x) M
  | _ => False
def o_lret : am_O := fun _ st M _ q => match st with
  | [.inr (.inl x)] => q (aL x) M
  | _ => False
def o_aret : am_O := fun _ st M _ q => match st with
  | [.inr (.inr (.inl x))] => q (.inr (.inr (.inl x))) M
  | _ => False
def o_vret : am_O := fun _ st M _ q => match st with
  | [] => q aJ M
  | _ => False
/-- a run from a place on comes to its end with q: the least such relation -/
def am_R (cd : List (Nat × am_O)) (q : am_Q) (pc : Nat) (ls st : List am_V) (M : am_M) : Prop :=
  ∀ X : am_K, (∀ e ∈ cd, ∀ (ls st : List am_V) (M : am_M), e.2 ls st M X q → X e.1 ls st M) → X pc ls st M
/-- what a method is: from its arguments, a call comes to its end -/
def am_S (cd : List (Nat × am_O)) (maxL : Nat) : am_E := fun as M q => ∃ P : am_Q, (am_exp as).length ≤ maxL ∧ am_R cd P 0 (am_init maxL as) [] M ∧ ∀ r M', P r M' → q r M'
theorem am_S.mono {cd : List (Nat × am_O)} {maxL : Nat} {as : List am_V} {M : am_M} {q q' : am_Q} (h : am_S cd maxL as M q) (hq : ∀ r M', q r M' → q' r M') : am_S cd maxL as M q' := by
  obtain ⟨P, h1, h2, h3⟩ := h
  exact ⟨P, h1, h2, fun r M' hp => hq r M' (h3 r M' hp)⟩
theorem am_S.intro {cd : List (Nat × am_O)} {maxL : Nat} {as ls : List am_V} {M : am_M} {q : am_Q} (h1 : Nat.ble (am_exp as).length maxL = true) (h2 : am_init maxL as = ls) (h : am_R cd q 0 ls [] M) : am_S cd maxL as M q :=
  ⟨q, Nat.le_of_ble_eq_true h1, h2 ▸ h, fun _ _ h => h⟩
/-- the tables' words that a call may carry on -/
def lw_g : List Cond := lw_tbl.filter goodWord
theorem in_g {w : Cond} {i : Nat} (h : lw_tbl[i]? = some w) (hg : goodWord w = true) : w ∈ lw_g := List.mem_filter.mpr ⟨List.mem_of_getElem? h, hg⟩
end
section
/-! numbers: the machine's ints and longs as whole numbers -/
theorem w32_bmod (x : Int) : w32 x = x.bmod (2 ^ 32) := by
  rw [Int.bmod_def]; unfold w32
  have e : ((2 ^ 32 : Nat) : Int) = 4294967296 := by decide
  rw [e]; split <;> omega
theorem w64_bmod (x : Int) : w64 x = x.bmod (2 ^ 64) := by
  rw [Int.bmod_def]; unfold w64
  have e : ((2 ^ 64 : Nat) : Int) = 18446744073709551616 := by decide
  rw [e]; split <;> omega
theorem w16_bmod (x : Int) : w16 x = x.bmod (2 ^ 16) := by
  rw [Int.bmod_def]; unfold w16
  have e : ((2 ^ 16 : Nat) : Int) = 65536 := by decide
  rw [e]; split <;> omega
theorem w8_bmod (x : Int) : w8 x = x.bmod (2 ^ 8) := by
  rw [Int.bmod_def]; unfold w8
  have e : ((2 ^ 8 : Nat) : Int) = 256 := by decide
  rw [e]; split <;> omega
theorem w32_id {x : Int} (h1 : -2147483648 ≤ x) (h2 : x < 2147483648) : w32 x = x := by unfold w32; omega
theorem w64_id {x : Int} (h1 : -9223372036854775808 ≤ x) (h2 : x < 9223372036854775808) : w64 x = x := by unfold w64; omega
theorem i32_lo (x : Int32) : -2147483648 ≤ x.toInt := x.le_toInt
theorem i32_hi (x : Int32) : x.toInt < 2147483648 := x.toInt_lt
theorem i64_lo (x : Int64) : -9223372036854775808 ≤ x.toInt := x.le_toInt
theorem i64_hi (x : Int64) : x.toInt < 9223372036854775808 := x.toInt_lt
theorem n_add (a b : Int32) : (a + b).toInt = w32 (a.toInt + b.toInt) := by rw [w32_bmod]; exact Int32.toInt_add a b
theorem n_sub (a b : Int32) : (a - b).toInt = w32 (a.toInt - b.toInt) := by rw [w32_bmod]; exact Int32.toInt_sub a b
theorem n_mul (a b : Int32) : (a * b).toInt = w32 (a.toInt * b.toInt) := by rw [w32_bmod]; exact Int32.toInt_mul a b
theorem l_add (a b : Int64) : (a + b).toInt = w64 (a.toInt + b.toInt) := by rw [w64_bmod]; exact Int64.toInt_add a b
theorem l_sub (a b : Int64) : (a - b).toInt = w64 (a.toInt - b.toInt) := by rw [w64_bmod]; exact Int64.toInt_sub a b
theorem l_mul (a b : Int64) : (a * b).toInt = w64 (a.toInt * b.toInt) := by rw [w64_bmod]; exact Int64.toInt_mul a b
theorem n_bv (a : Int32) : BitVec.ofInt 32 a.toInt = a.toBitVec := by rw [← Int32.toInt_toBitVec]; exact BitVec.ofInt_toInt
theorem l_bv (a : Int64) : BitVec.ofInt 64 a.toInt = a.toBitVec := by rw [← Int64.toInt_toBitVec]; exact BitVec.ofInt_toInt
theorem n_and (a b : Int32) : (a &&& b).toInt = am_and a.toInt b.toInt := by unfold am_and; rw [n_bv, n_bv]; rfl
theorem n_or (a b : Int32) : (a ||| b).toInt = am_or a.toInt b.toInt := by unfold am_or; rw [n_bv, n_bv]; rfl
theorem n_xor (a b : Int32) : (a ^^^ b).toInt = am_xor a.toInt b.toInt := by unfold am_xor; rw [n_bv, n_bv]; rfl
theorem l_and (a b : Int64) : (a &&& b).toInt = am_land a.toInt b.toInt := by unfold am_land; rw [l_bv, l_bv]; rfl
theorem l_or (a b : Int64) : (a ||| b).toInt = am_lor a.toInt b.toInt := by unfold am_lor; rw [l_bv, l_bv]; rfl
theorem n_div {a b : Int32} (h1 : 0 ≤ a.toInt) (h2 : 0 < b.toInt) : (a / b).toInt = a.toInt / b.toInt := by
  rw [Int32.toInt_div, Int.tdiv_eq_ediv_of_nonneg h1, ← w32_bmod]
  have h3 := i32_hi a
  have h4 : a.toInt / b.toInt ≤ a.toInt := Int.ediv_le_self _ h1
  have h5 : 0 ≤ a.toInt / b.toInt := Int.ediv_nonneg h1 (by omega)
  exact w32_id (by omega) (by omega)
theorem n_rem {a b : Int32} (h1 : 0 ≤ a.toInt) (_h2 : 0 < b.toInt) : (a - a / b * b).toInt = a.toInt % b.toInt := by
  rw [irem_eq_mod, Int32.toInt_mod, Int.tmod_eq_emod_of_nonneg h1]
theorem l_div {a b : Int64} (h1 : 0 ≤ a.toInt) (h2 : 0 < b.toInt) : (a / b).toInt = a.toInt / b.toInt := by
  rw [Int64.toInt_div, Int.tdiv_eq_ediv_of_nonneg h1, ← w64_bmod]
  have h3 := i64_hi a
  have h4 : a.toInt / b.toInt ≤ a.toInt := Int.ediv_le_self _ h1
  have h5 : 0 ≤ a.toInt / b.toInt := Int.ediv_nonneg h1 (by omega)
  exact w64_id (by omega) (by omega)
theorem lrem_eq_mod (x y : Int64) : x - (x / y) * y = x % y := by
  apply Int64.toInt_inj.mp
  have h1 := Int64.le_toInt (x % y)
  have h2 := Int64.toInt_lt (x % y)
  rw [Int64.toInt_sub, Int64.toInt_mul, Int64.toInt_div, Int.bmod_mul_bmod, Int.sub_bmod_bmod, Int.mul_comm (x.toInt.tdiv y.toInt), ← Int.tmod_def, ← Int64.toInt_mod]
  exact Int.bmod_eq_of_le_mul_two (by omega) (by omega)
theorem l_rem {a b : Int64} (h1 : 0 ≤ a.toInt) (_h2 : 0 < b.toInt) : (a - a / b * b).toInt = a.toInt % b.toInt := by
  rw [lrem_eq_mod, Int64.toInt_mod, Int.tmod_eq_emod_of_nonneg h1]
theorem n_2 {b : Int32} (h1 : 0 ≤ b.toInt) (h2 : b.toInt < 32) : ∃ n : Nat, n < 32 ∧ b = nI n ∧ b.toInt = n := by
  refine ⟨b.toInt.toNat, by omega, ?_, by omega⟩
  apply Int32.toInt_inj.mp
  rw [nI_toInt (by omega)]; omega
theorem n_sm : ∀ n : Nat, n < 32 → ((nI n &&& 31).toBitVec.smod 32).toNat = n := by decide +kernel
theorem n_su : ∀ n : Nat, n < 32 → (((nI n).toUInt32 &&& Int32.toUInt32 31).toBitVec % 32).toNat = n := by decide +kernel
theorem n_tn (a : Int32) : (a.toBitVec.toNat : Int) = a.toInt % 4294967296 := by
  have h := i32_lo a; have h' := i32_hi a
  have e : a.toInt = a.toBitVec.toInt := rfl
  rw [BitVec.toInt_eq_toNat_cond] at e
  have := a.toBitVec.isLt
  split at e <;> omega
theorem n_ti (a : Int32) : a.toInt = w32 (a.toBitVec.toNat : Int) := by
  have h := i32_lo a; have h' := i32_hi a
  have e := n_tn a
  rw [e]; unfold w32; omega
theorem n_shl {a b : Int32} (h1 : 0 ≤ b.toInt) (h2 : b.toInt < 32) : (a <<< (b &&& 31)).toInt = am_shl a.toInt b.toInt := by
  obtain ⟨n, hn, rfl, e⟩ := n_2 h1 h2
  rw [n_ti, pk_shl a _ n (n_sm n hn), am_shl, e]
  have := n_tn a
  show w32 ((a.toBitVec.toNat * 2 ^ n % 2 ^ 32 : Nat) : Int) = _
  rw [Int.natCast_emod, Int.natCast_mul, this]
  rw [show ((n : Nat) : Int).toNat = n from rfl, Int.natCast_pow]
  show w32 ((a.toInt % 4294967296 * 2 ^ n) % 4294967296) = _
  rw [Int.mul_emod, Int.emod_emod_of_dvd _ (Int.dvd_refl _), ← Int.mul_emod]
  unfold w32; omega
theorem n_shr {a b : Int32} (h1 : 0 ≤ b.toInt) (h2 : b.toInt < 32) : (a >>> (b &&& 31)).toInt = am_shr a.toInt b.toInt := by
  obtain ⟨n, hn, rfl, e⟩ := n_2 h1 h2
  rw [pk_shr a _ n (n_sm n hn), am_shr, e, Int.shiftRight_eq_div_pow]
  rfl
theorem n_ushr {a b : Int32} (h1 : 0 ≤ b.toInt) (h2 : b.toInt < 32) : ((a.toUInt32 >>> (b.toUInt32 &&& Int32.toUInt32 31)).toInt32).toInt = am_ushr a.toInt b.toInt := by
  obtain ⟨n, hn, rfl, e⟩ := n_2 h1 h2
  rw [n_ti, pk_ushr a _ n (n_su n hn), am_ushr, e]
  rw [Int.natCast_ediv, n_tn, Int.natCast_pow]
  rfl
theorem l_tn (a : Int64) : (a.toBitVec.toNat : Int) = a.toInt % 18446744073709551616 := by
  have h := i64_lo a; have h' := i64_hi a
  have e : a.toInt = a.toBitVec.toInt := rfl
  rw [BitVec.toInt_eq_toNat_cond] at e
  have := a.toBitVec.isLt
  split at e <;> omega
theorem l_ti (a : Int64) : a.toInt = w64 (a.toBitVec.toNat : Int) := by
  have h := i64_lo a; have h' := i64_hi a
  have e := l_tn a
  rw [e]; unfold w64; omega
theorem l_2 {b : Int32} (h1 : 0 ≤ b.toInt) (h2 : b.toInt < 64) : ∃ n : Nat, n < 64 ∧ b = nI n ∧ b.toInt = n := by
  refine ⟨b.toInt.toNat, by omega, ?_, by omega⟩
  apply Int32.toInt_inj.mp
  rw [nI_toInt (by omega)]; omega
theorem l_sm : ∀ n : Nat, n < 64 → (((nI n).toInt64 &&& 63).toBitVec.smod 64).toNat = n := by decide +kernel
theorem l_su : ∀ n : Nat, n < 64 → (((nI n).toInt64.toUInt64 &&& Int64.toUInt64 63).toBitVec % 64).toNat = n := by decide +kernel
theorem l_shl {a : Int64} {b : Int32} (h1 : 0 ≤ b.toInt) (h2 : b.toInt < 64) : (a <<< (b.toInt64 &&& 63)).toInt = am_lshl a.toInt b.toInt := by
  obtain ⟨n, hn, rfl, e⟩ := l_2 h1 h2
  have k : (a <<< ((nI n).toInt64 &&& 63)).toBitVec.toNat = a.toBitVec.toNat * 2 ^ n % 2 ^ 64 := by
    have : (a <<< ((nI n).toInt64 &&& 63)).toBitVec = a.toBitVec <<< (((nI n).toInt64 &&& 63).toBitVec.smod 64) := rfl
    rw [this, BitVec.shiftLeft_eq', l_sm n hn, BitVec.toNat_shiftLeft, Nat.shiftLeft_eq]
  rw [l_ti, k, am_lshl, e]
  rw [Int.natCast_emod, Int.natCast_mul, l_tn]
  rw [show ((n : Nat) : Int).toNat = n from rfl, Int.natCast_pow]
  show w64 ((a.toInt % 18446744073709551616 * 2 ^ n) % 18446744073709551616) = _
  rw [Int.mul_emod, Int.emod_emod_of_dvd _ (Int.dvd_refl _), ← Int.mul_emod]
  unfold w64; omega
theorem l_ushr {a : Int64} {b : Int32} (h1 : 0 ≤ b.toInt) (h2 : b.toInt < 64) : ((a.toUInt64 >>> (b.toInt64.toUInt64 &&& Int64.toUInt64 63)).toInt64).toInt = am_lushr a.toInt b.toInt := by
  obtain ⟨n, hn, rfl, e⟩ := l_2 h1 h2
  have k : ((a.toUInt64 >>> ((nI n).toInt64.toUInt64 &&& Int64.toUInt64 63)).toInt64).toBitVec.toNat = a.toBitVec.toNat / 2 ^ n := by
    have : ((a.toUInt64 >>> ((nI n).toInt64.toUInt64 &&& Int64.toUInt64 63)).toInt64).toBitVec = a.toBitVec >>> (((nI n).toInt64.toUInt64 &&& Int64.toUInt64 63).toBitVec % 64) := rfl
    rw [this, BitVec.ushiftRight_eq', l_su n hn, BitVec.toNat_ushiftRight, Nat.shiftRight_eq_div_pow]
  rw [l_ti, k, am_lushr, e]
  rw [Int.natCast_ediv, l_tn, Int.natCast_pow]
  rfl
theorem l_cmp (a b : Int64) : (lg_cmp a b).toInt = am_cmp a.toInt b.toInt := by
  unfold lg_cmp am_cmp
  by_cases h1 : a > b
  · have : b.toInt < a.toInt := Int64.lt_iff_toInt_lt.mp h1
    rw [if_pos h1, if_neg (by omega), if_neg (by omega)]; rfl
  · have h2 : ¬ b.toInt < a.toInt := fun h => h1 (Int64.lt_iff_toInt_lt.mpr h)
    rw [if_neg h1]
    by_cases h3 : a = b
    · subst h3
      rw [if_pos rfl, if_neg (by omega), if_pos rfl]; rfl
    · have h4 : ¬ a.toInt = b.toInt := fun h => h3 (Int64.toInt_inj.mp h)
      rw [if_neg h3, if_pos (by omega)]; rfl
theorem n_b (a : Int32) : (a.toInt8.toInt32).toInt = w8 a.toInt := by rw [w8_bmod, Int8.toInt_toInt32, Int32.toInt_toInt8]
theorem n_s (a : Int32) : (a.toInt16.toInt32).toInt = w16 a.toInt := by rw [w16_bmod, Int16.toInt_toInt32, Int32.toInt_toInt16]
theorem n_idx {x : Int32} {N : Nat} (h1 : 0 ≤ x.toInt) (h2 : x.toInt < (N : Int)) : vp_in x N := vp_in_iff.mpr ⟨h1, h2⟩
theorem n_clamp (x : Int32) : x.toNatClampNeg = x.toInt.toNat := rfl
end
section
/-! the world: what the heap holds of the abstract memory; the relation of frames -/
def am_rv (al : Nat → Nat) : am_V → Value → Prop
  | .inl n, .int v => v.toInt = n
  | .inr (.inl n), .long v => v.toInt = n
  | .inr (.inr (.inl 0)), .null => True
  | .inr (.inr (.inl (o + 1))), .ref a => a = al o
  | _, _ => False
theorem rv_i {al : Nat → Nat} {n : Int} {v : Value} (h : am_rv al (.inl n) v) : ∃ x : Int32, v = .int x ∧ x.toInt = n := by
  cases v <;> simp only [am_rv] at h
  exact ⟨_, rfl, h⟩
theorem rv_l {al : Nat → Nat} {n : Int} {v : Value} (h : am_rv al (.inr (.inl n)) v) : ∃ x : Int64, v = .long x ∧ x.toInt = n := by
  cases v <;> simp only [am_rv] at h
  exact ⟨_, rfl, h⟩
theorem rv_n {al : Nat → Nat} {v : Value} (h : am_rv al (.inr (.inr (.inl 0))) v) : v = .null := by
  cases v <;> simp only [am_rv] at h
  rfl
theorem rv_r {al : Nat → Nat} {o : Nat} {v : Value} (h : am_rv al (.inr (.inr (.inl (o + 1)))) v) : v = .ref (al o) := by
  cases v <;> simp only [am_rv] at h
  rw [h]
theorem rv_j {al : Nat → Nat} {u : Unit} {v : Value} (h : am_rv al (.inr (.inr (.inr u))) v) : False := by
  cases v <;> simp only [am_rv] at h
def am_rvs (al : Nat → Nat) : List am_V → List Value → Prop
  | [], [] => True
  | a :: as, v :: vs => am_rv al a v ∧ am_rvs al as vs
  | _, _ => False
theorem rvs_c {al : Nat → Nat} {a : am_V} {as : List am_V} {vs : List Value} (h : am_rvs al (a :: as) vs) : ∃ v ws, vs = v :: ws ∧ am_rv al a v ∧ am_rvs al as ws := by
  cases vs with
  | nil => exact h.elim
  | cons v ws => exact ⟨v, ws, rfl, h.1, h.2⟩
theorem rvs_0 {al : Nat → Nat} {vs : List Value} (h : am_rvs al [] vs) : vs = [] := by
  cases vs with
  | nil => rfl
  | cons v ws => exact h.elim
theorem rvs_len {al : Nat → Nat} : ∀ {as : List am_V} {vs : List Value}, am_rvs al as vs → as.length = vs.length
  | [], [], _ => rfl
  | [], _ :: _, h => h.elim
  | _ :: _, [], h => h.elim
  | _ :: _, _ :: _, h => by simp [rvs_len h.2]
theorem rvs_app {al : Nat → Nat} : ∀ {as bs : List am_V} {vs ws : List Value}, am_rvs al as vs → am_rvs al bs ws → am_rvs al (as ++ bs) (vs ++ ws)
  | [], _, [], _, _, h => h
  | [], _, _ :: _, _, h, _ => h.elim
  | _ :: _, _, [], _, h, _ => h.elim
  | _ :: _, _, _ :: _, _, h, h2 => ⟨h.1, rvs_app h.2 h2⟩
theorem rvs_rev {al : Nat → Nat} : ∀ {as : List am_V} {vs : List Value}, am_rvs al as vs → am_rvs al as.reverse vs.reverse
  | [], [], _ => trivial
  | [], _ :: _, h => h.elim
  | _ :: _, [], h => h.elim
  | a :: as, v :: vs, h => by
    rw [List.reverse_cons, List.reverse_cons]
    exact rvs_app (rvs_rev h.2) ⟨h.1, trivial⟩
theorem rvs_take {al : Nat → Nat} : ∀ (n : Nat) {as : List am_V} {vs : List Value}, am_rvs al as vs → am_rvs al (as.take n) (vs.take n) ∧ am_rvs al (as.drop n) (vs.drop n)
  | 0, _, _, h => ⟨trivial, h⟩
  | _ + 1, [], [], _ => ⟨trivial, trivial⟩
  | _ + 1, [], _ :: _, h => h.elim
  | _ + 1, _ :: _, [], h => h.elim
  | n + 1, _ :: _, _ :: _, h => ⟨⟨h.1, (rvs_take n h.2).1⟩, (rvs_take n h.2).2⟩
theorem rvs_cat {al : Nat → Nat} : ∀ {as : List am_V} {vs : List Value}, am_rvs al as vs → (vs.map fun v => v.category).sum = am_cat as
  | [], [], _ => rfl
  | [], _ :: _, h => h.elim
  | _ :: _, [], h => h.elim
  | .inl n :: as, v :: vs, h => by
    obtain ⟨x, rfl, -⟩ := rv_i h.1
    rw [List.map_cons, List.sum_cons, rvs_cat h.2]; rfl
  | .inr (.inl n) :: as, v :: vs, h => by
    obtain ⟨x, rfl, -⟩ := rv_l h.1
    rw [List.map_cons, List.sum_cons, rvs_cat h.2]; rfl
  | .inr (.inr (.inl 0)) :: as, v :: vs, h => by
    obtain rfl := rv_n h.1
    rw [List.map_cons, List.sum_cons, rvs_cat h.2]; rfl
  | .inr (.inr (.inl (o + 1))) :: as, v :: vs, h => by
    obtain rfl := rv_r h.1
    rw [List.map_cons, List.sum_cons, rvs_cat h.2]; rfl
  | .inr (.inr (.inr u)) :: as, v :: vs, h => (rv_j h.1).elim
/-- the classes and slots; the addresses; the classes of arrays of ints, longs, sheets -/
abbrev am_G : Type := va_G × (Nat → Nat) × (ClassId × ClassId × ClassId)
def am_A (G : am_G) : Nat → Prop := fun q => ∃ o, o < am_N ∧ q = G.2.1 o
def am_tys (G : am_G) : List (ClassId × FieldType) := [(G.2.2.1, .int), (G.2.2.2.1, .long), (G.2.2.2.2, .object "HandInHand$Sheet")]
def am_fv (al : Nat → Nat) (x : Int) : Nat → Value
  | 0 => .int (Int32.ofInt x)
  | 1 => .long (Int64.ofInt x)
  | t + 2 => .ref (al t)
def am_fvs (al : Nat → Nat) (f : Nat → Int) : Nat → List Nat → List Value
  | _, [] => []
  | k, c :: cs => am_fv al (f k) c :: am_fvs al f (k + 1) cs
def am_cell (G : am_G) (f : Nat → Int) : am_D → va_E
  | .inl (ci, fs) => .inr (ci, am_fvs G.2.1 f 0 fs)
  | .inr (0, n) => .inl (G.2.2.1, n, .inl (fun j => Int32.ofInt (f j)))
  | .inr (1, n) => .inl (G.2.2.2.1, n, .inr (.inl (fun j => Int64.ofInt (f j))))
  | .inr (b + 2, n) => .inl (G.2.2.2.2, n, .inr (.inr (.inr (.inr (fun j => some (G.2.1 (b + j)))))))
def am_wl (G : am_G) (M : am_M) : va_W := (List.range am_N).map (fun o => (G.2.1 o, am_cell G (M o) (am_kd o)))
/-- is a slot a long's? -/
def am_wide (o j : Nat) : Bool := match am_kd o with
  | .inl (_, fs) => fs.getD j 0 == 1
  | .inr (k, _) => k == 1
def am_ok (M : am_M) : Prop := ∀ o j, if am_wide o j then (-9223372036854775808 ≤ M o j ∧ M o j < 9223372036854775808) else (-2147483648 ≤ M o j ∧ M o j < 2147483648)
def am_W (G : am_G) (M : am_M) (H : Heap) : Prop := am_ok M ∧ va_P G.1 am_cl (am_wl G M) H
def am_inj (G : am_G) : Prop := ∀ i j, i < am_N → j < am_N → G.2.1 i = G.2.1 j → i = j
theorem wl_at (G : am_G) (M : am_M) {o : Nat} (ho : o < am_N) : (am_wl G M)[o]? = some (G.2.1 o, am_cell G (M o) (am_kd o)) := by
  unfold am_wl
  rw [List.getElem?_map, List.getElem?_range ho]
  rfl
theorem wl_D {G : am_G} (h : am_inj G) (M : am_M) : va_D (am_A G) (am_wl G M) := by
  have key : ∀ (k : Nat) (q : Nat × va_E), (am_wl G M)[k]? = some q → k < am_N ∧ q.1 = G.2.1 k := by
    intro k q hk
    have hl : k < am_N := by
      have := (List.getElem?_eq_some_iff.mp hk).1
      simpa [am_wl] using this
    rw [wl_at G M hl] at hk
    cases hk
    exact ⟨hl, rfl⟩
  refine ⟨fun i j p q hi hj he => ?_, fun k q hk => ?_⟩
  · obtain ⟨a1, a2⟩ := key i p hi
    obtain ⟨b1, b2⟩ := key j q hj
    exact h i j a1 b1 (by rw [← a2, ← b2]; exact he)
  · obtain ⟨a1, a2⟩ := key k q hk
    exact ⟨k, a1, a2⟩
theorem wl_set (G : am_G) (M : am_M) {o : Nat} (ho : o < am_N) (f : Nat → Int) : (am_wl G M).set o (G.2.1 o, am_cell G f (am_kd o)) = am_wl G (am_ob M o f) := by
  apply List.ext_getElem?
  intro k
  by_cases hk : k < am_N
  · rw [wl_at G _ hk]
    by_cases e : o = k
    · subst e
      rw [List.getElem?_set_self (by simp [am_wl]; exact ho)]
      simp [am_ob]
    · rw [List.getElem?_set_ne e, wl_at G _ hk]
      simp [am_ob, Ne.symm e]
  · rw [List.getElem?_eq_none (by simp [am_wl]; omega), List.getElem?_eq_none (by simp [am_wl]; omega)]
theorem up_ob (M : am_M) (o j : Nat) (x : Int) : am_up M o j x = am_ob M o (am_set (M o) j x) := by
  funext p
  simp only [am_up, am_ob]
theorem kd_lt {o : Nat} {d : am_D} (h : am_kd o = d) (hd : d ≠ .inr (0, 0)) : o < am_N := by
  rcases Nat.lt_or_ge o am_N with h1 | h1
  · exact h1
  · exfalso
    apply hd
    rw [← h]
    unfold am_kd
    rw [List.getD_eq_getElem?_getD, List.getElem?_eq_none (show am_tab.length ≤ o from h1)]
    rfl
theorem fvs_at (al : Nat → Nat) (f : Nat → Int) : ∀ (k : Nat) (cs : List Nat) (j : Nat), (am_fvs al f k cs)[j]? = (cs[j]?).map (fun c => am_fv al (f (k + j)) c)
  | _, [], j => by simp [am_fvs]
  | k, c :: cs, 0 => by simp [am_fvs]
  | k, c :: cs, j + 1 => by
    show (am_fvs al f (k + 1) cs)[j]? = _
    rw [fvs_at al f (k + 1) cs j, List.getElem?_cons_succ]
    congr 2
    funext c
    rw [show k + 1 + j = k + (j + 1) by omega]
theorem fvs_len (al : Nat → Nat) (f : Nat → Int) : ∀ (k : Nat) (cs : List Nat), (am_fvs al f k cs).length = cs.length
  | _, [] => rfl
  | k, _ :: cs => by simp [am_fvs, fvs_len al f (k + 1) cs]
theorem fvs_set (al : Nat → Nat) (f : Nat → Int) (cs : List Nat) {j c : Nat} (x : Int) (hj : cs[j]? = some c) (hc : c < 2) : (am_fvs al f 0 cs).set j (am_fv al x c) = am_fvs al (am_set f j x) 0 cs := by
  apply List.ext_getElem?
  intro i
  have hl : j < cs.length := (List.getElem?_eq_some_iff.mp hj).1
  rw [fvs_at]
  by_cases e : j = i
  · subst e
    rw [List.getElem?_set_self (by rw [fvs_len]; exact hl), hj]
    simp [am_set]
  · rw [List.getElem?_set_ne e, fvs_at]
    congr 1
    funext c
    simp [am_set, Ne.symm e]
theorem ok_up {M : am_M} (h : am_ok M) {o j : Nat} {x : Int} (hx : if am_wide o j then (-9223372036854775808 ≤ x ∧ x < 9223372036854775808) else (-2147483648 ≤ x ∧ x < 2147483648)) : am_ok (am_up M o j x) := by
  intro p i
  have h0 := h p i
  unfold am_up
  by_cases e : p = o
  · subst e
    rw [if_pos rfl]
    unfold am_set
    by_cases e2 : i = j
    · subst e2
      rw [if_pos rfl]
      exact hx
    · rw [if_neg e2]
      exact h0
  · rw [if_neg e]
    exact h0
/-- the locals -/
def am_lr (al : Nat → Nat) (n : Nat) (als : List am_V) (ls : Array Slot) : Prop := ls.size = n ∧ lv_wf ls ∧ ∀ (i : Nat) (a : am_V), als[i]? = some a → a = aJ ∨ ∃ v, ls[i]? = some (.val v) ∧ am_rv al a v
def am_lvs (ls : Array Slot) : List (Nat × Value) := (List.range ls.size).filterMap (fun (i : Nat) => match (ls[i]? : Option Slot) with
  | some (Slot.val v) => some (i, v)
  | _ => none)
theorem lvs_has {n : Nat} {ls : Array Slot} (h1 : ls.size = n) (h2 : lv_wf ls) : lv_has ls n (am_lvs ls) := by
  refine ⟨h1, h2, fun q hq => ?_⟩
  obtain ⟨i, -, hi⟩ := List.mem_filterMap.mp hq
  split at hi
  · cases hi
    assumption
  · cases hi
theorem lvs_in {ls : Array Slot} {i : Nat} {v : Value} (h : ls[i]? = some (.val v)) : (i, v) ∈ am_lvs ls := by
  refine List.mem_filterMap.mpr ⟨i, List.mem_range.mpr (lv_lt h), ?_⟩
  rw [h]
theorem kil_at (als : List am_V) (j i : Nat) (a : am_V) (h : (am_kil als j)[i]? = some a) : a = aJ ∨ (als[i]? = some a ∧ ¬ (i = j ∧ ∃ x, a = aL x)) := by
  unfold am_kil at h
  split at h
  next x hx =>
    by_cases e : j = i
    · subst e
      have hl : j < als.length := (List.getElem?_eq_some_iff.mp hx).1
      rw [List.getElem?_set_self hl] at h
      cases h
      exact Or.inl rfl
    · rw [List.getElem?_set_ne e] at h
      exact Or.inr ⟨h, fun q => e q.1.symm⟩
  next hx =>
    refine Or.inr ⟨h, fun q => ?_⟩
    obtain ⟨rfl, x, rfl⟩ := q
    exact hx x h
theorem st1_at (als : List am_V) (j i : Nat) (a b : am_V) (h : (am_st1 als j b)[i]? = some a) : (i = j ∧ a = b) ∨ a = aJ ∨ (i ≠ j ∧ als[i]? = some a ∧ ¬ (i + 1 = j ∧ ∃ x, a = aL x)) := by
  cases j with
  | zero =>
    unfold am_st1 at h
    by_cases e : i = 0
    · subst e
      by_cases hl : 0 < als.length
      · rw [List.getElem?_set_self hl] at h
        cases h
        exact Or.inl ⟨rfl, rfl⟩
      · rw [List.getElem?_eq_none (by rw [List.length_set]; omega)] at h
        cases h
    · rw [List.getElem?_set_ne (Ne.symm e)] at h
      exact Or.inr (Or.inr ⟨e, h, fun q => by omega⟩)
  | succ j =>
    unfold am_st1 at h
    by_cases e : i = j + 1
    · subst e
      by_cases hl : j + 1 < (am_kil als j).length
      · rw [List.getElem?_set_self hl] at h
        cases h
        exact Or.inl ⟨rfl, rfl⟩
      · rw [List.getElem?_eq_none (by rw [List.length_set]; omega)] at h
        cases h
    · rw [List.getElem?_set_ne (Ne.symm e)] at h
      rcases kil_at als j i a h with h1 | ⟨h1, h2⟩
      · exact Or.inr (Or.inl h1)
      · exact Or.inr (Or.inr ⟨e, h1, fun q => h2 ⟨by omega, q.2⟩⟩)
theorem rv_c2 {al : Nat → Nat} {a : am_V} {v : Value} (h : am_rv al a v) (hc : v.category = 2) : ∃ x, a = aL x := by
  match a, h with
  | .inl n, h => obtain ⟨x, rfl, -⟩ := rv_i h; cases hc
  | .inr (.inl n), h => exact ⟨n, rfl⟩
  | .inr (.inr (.inl 0)), h => obtain rfl := rv_n h; cases hc
  | .inr (.inr (.inl (o + 1))), h => obtain rfl := rv_r h; cases hc
  | .inr (.inr (.inr u)), h => exact (rv_j h).elim
/-- behind a store of one slot -/
theorem lr_st1 {al : Nat → Nat} {n : Nat} {als : List am_V} {ls ls' : Array Slot} {j : Nat} {b : am_V} {w : Value} (h : am_lr al n als ls) (hb : am_rv al b w) (h' : lv_has ls' n ((j, w) :: (am_lvs ls).filter (fun q => !(q.1 == j) && !(q.1 + 1 == j && q.2.category == 2)))) : am_lr al n (am_st1 als j b) ls' := by
  refine ⟨h'.1, h'.2.1, fun i a hi => ?_⟩
  rcases st1_at als j i a b hi with ⟨rfl, rfl⟩ | h1 | ⟨h1, h2, h3⟩
  · exact Or.inr ⟨w, h'.2.2 (i, w) List.mem_cons_self, hb⟩
  · exact Or.inl h1
  · rcases h.2.2 i a h2 with h4 | ⟨v, h4, h5⟩
    · exact Or.inl h4
    · refine Or.inr ⟨v, h'.2.2 (i, v) (List.mem_cons_of_mem _ (List.mem_filter.mpr ⟨lvs_in h4, ?_⟩)), h5⟩
      simp only [Bool.and_eq_true, Bool.not_eq_true', beq_eq_false_iff_ne, ne_eq, Bool.and_eq_false_iff]
      refine ⟨h1, ?_⟩
      by_cases e : i + 1 = j
      · exact Or.inr (fun hc => h3 ⟨e, rv_c2 h5 hc⟩)
      · exact Or.inl e
theorem lr_st2 {al : Nat → Nat} {n : Nat} {als : List am_V} {ls ls' : Array Slot} {j : Nat} {b : am_V} {w : Value} (h : am_lr al n als ls) (hb : am_rv al b w) (h' : lv_has ls' n ((j, w) :: (am_lvs ls).filter (fun q => !(q.1 == j) && (!(q.1 == j + 1) && !(q.1 + 1 == j && q.2.category == 2))))) : am_lr al n (am_st2 als j b) ls' := by
  refine ⟨h'.1, h'.2.1, fun i a hi => ?_⟩
  unfold am_st2 at hi
  by_cases e1 : i = j + 1
  · subst e1
    by_cases hl : j + 1 < (am_st1 als j b).length
    · rw [List.getElem?_set_self hl] at hi
      cases hi
      exact Or.inl rfl
    · rw [List.getElem?_eq_none (by rw [List.length_set]; omega)] at hi
      cases hi
  · rw [List.getElem?_set_ne (Ne.symm e1)] at hi
    rcases st1_at als j i a b hi with ⟨rfl, rfl⟩ | h1 | ⟨h1, h2, h3⟩
    · exact Or.inr ⟨w, h'.2.2 (i, w) List.mem_cons_self, hb⟩
    · exact Or.inl h1
    · rcases h.2.2 i a h2 with h4 | ⟨v, h4, h5⟩
      · exact Or.inl h4
      · refine Or.inr ⟨v, h'.2.2 (i, v) (List.mem_cons_of_mem _ (List.mem_filter.mpr ⟨lvs_in h4, ?_⟩)), h5⟩
        simp only [Bool.and_eq_true, Bool.not_eq_true', beq_eq_false_iff_ne, ne_eq, Bool.and_eq_false_iff]
        refine ⟨h1, e1, ?_⟩
        by_cases e : i + 1 = j
        · exact Or.inr (fun hc => h3 ⟨e, rv_c2 h5 hc⟩)
        · exact Or.inl e
theorem exp_at {al : Nat → Nat} : ∀ (as : List am_V) (vs : List Value) (k i : Nat) (a : am_V), am_rvs al as vs → (am_exp as)[i]? = some a → a = aJ ∨ ∃ v, (k + i, v) ∈ lv_args k vs ∧ am_rv al a v
  | [], _, _, _, _, _, hi => by simp [am_exp] at hi
  | _ :: _, [], _, _, _, h, _ => h.elim
  | .inr (.inl x) :: as, v :: vs, k, i, a, h, hi => by
    obtain ⟨y, rfl, hy⟩ := rv_l h.1
    match i, hi with
    | 0, hi =>
      simp only [am_exp, List.getElem?_cons_zero, Option.some.injEq] at hi
      subst hi
      exact Or.inr ⟨_, List.mem_cons_self, hy⟩
    | 1, hi =>
      simp only [am_exp, List.getElem?_cons_succ, List.getElem?_cons_zero, Option.some.injEq] at hi
      exact Or.inl hi.symm
    | i + 2, hi =>
      simp only [am_exp, List.getElem?_cons_succ] at hi
      rcases exp_at as vs (k + 2) i a h.2 hi with h1 | ⟨w, h1, h2⟩
      · exact Or.inl h1
      · refine Or.inr ⟨w, List.mem_cons_of_mem _ ?_, h2⟩
        rw [show k + (i + 2) = k + 2 + i by omega]
        exact h1
  | .inl x :: as, v :: vs, k, i, a, h, hi => by
    obtain ⟨y, rfl, hy⟩ := rv_i h.1
    match i, hi with
    | 0, hi =>
      simp only [am_exp, List.getElem?_cons_zero, Option.some.injEq] at hi
      subst hi
      exact Or.inr ⟨_, List.mem_cons_self, hy⟩
    | i + 1, hi =>
      simp only [am_exp, List.getElem?_cons_succ] at hi
      rcases exp_at as vs (k + 1) i a h.2 hi with h1 | ⟨w, h1, h2⟩
      · exact Or.inl h1
      · refine Or.inr ⟨w, List.mem_cons_of_mem _ ?_, h2⟩
        rw [show k + (i + 1) = k + 1 + i by omega]
        exact h1
  | .inr (.inr (.inl o)) :: as, v :: vs, k, i, a, h, hi => by
    have hc : ¬ v.category = 2 := fun hc => by obtain ⟨x, hx⟩ := rv_c2 h.1 hc; cases hx
    match i, hi with
    | 0, hi =>
      simp only [am_exp, List.getElem?_cons_zero, Option.some.injEq] at hi
      subst hi
      exact Or.inr ⟨_, List.mem_cons_self, h.1⟩
    | i + 1, hi =>
      simp only [am_exp, List.getElem?_cons_succ] at hi
      rcases exp_at as vs (k + 1) i a h.2 hi with h1 | ⟨w, h1, h2⟩
      · exact Or.inl h1
      · refine Or.inr ⟨w, List.mem_cons_of_mem _ ?_, h2⟩
        rw [show k + (i + 1) = k + 1 + i by omega, if_neg hc]
        exact h1
  | .inr (.inr (.inr u)) :: _, _ :: _, _, _, _, h, _ => (rv_j h.1).elim
theorem exp_len {al : Nat → Nat} : ∀ {as : List am_V} {vs : List Value}, am_rvs al as vs → (lg_sl vs).length = (am_exp as).length
  | [], [], _ => rfl
  | [], _ :: _, h => h.elim
  | _ :: _, [], h => h.elim
  | .inr (.inl x) :: as, v :: vs, h => by
    obtain ⟨y, rfl, hy⟩ := rv_l h.1
    have := exp_len h.2
    simp [lg_sl, am_exp, Value.category] at this ⊢
    omega
  | .inl x :: as, v :: vs, h => by
    obtain ⟨y, rfl, hy⟩ := rv_i h.1
    have := exp_len h.2
    simp [lg_sl, am_exp, Value.category] at this ⊢
    omega
  | .inr (.inr (.inl o)) :: as, v :: vs, h => by
    have hc : ¬ v.category = 2 := fun hc => by obtain ⟨x, hx⟩ := rv_c2 h.1 hc; cases hx
    have := exp_len h.2
    simp [lg_sl, am_exp, hc] at this ⊢
    omega
  | .inr (.inr (.inr u)) :: _, _ :: _, h => (rv_j h.1).elim
theorem lr_entry {al : Nat → Nat} {as : List am_V} {vs : List Value} {n : Nat} (h : am_rvs al as vs) (hl : (am_exp as).length ≤ n) : am_lr al n (am_init n as) ((lg_sl vs ++ List.replicate (n - (lg_sl vs).length) Slot.unset).toArray) := by
  have hv := lv_entry vs (n := n) (by rw [exp_len h]; exact hl)
  refine ⟨hv.1, hv.2.1, fun i a hi => ?_⟩
  unfold am_init at hi
  by_cases e : i < (am_exp as).length
  · rw [List.getElem?_append_left e] at hi
    rcases exp_at as vs 0 i a h hi with h1 | ⟨v, h1, h2⟩
    · exact Or.inl h1
    · rw [Nat.zero_add] at h1
      exact Or.inr ⟨v, hv.2.2 (i, v) h1, h2⟩
  · rw [List.getElem?_append_right (by omega)] at hi
    have := List.mem_of_getElem? hi
    exact Or.inl (List.mem_replicate.mp this).2
end
section
/-! an operation simulates an instruction -/
def am_Cx (G : am_G) (own : String) (bytes : ByteArray) (maxL : Nat) (ret : Option FieldType) (p : Program) (s : State) (m : MethodId) (args : Array Value) (meth : Method) (c : Code) : Prop :=
  p.tables.exec = Jvm.exec ∧ c.code = bytes ∧ c.maxLocals = maxL ∧ meth.sig.returnType = ret ∧ meth.locks = false ∧ s.vm.findClass own = some m.cls ∧ (∀ w ∈ lw_g, w.before args s = true) ∧ va_K G.1 am_cl (am_tys G) s ∧ am_inj G
def am_out (al : Nat → Nat) (ret : Option FieldType) (r : am_V) (o : Outcome) : Prop := match ret with
  | none => o = .returned none
  | some _ => ∃ v, o = .returned (some v) ∧ am_rv al r v
def am_Qc (G : am_G) (ret : Option FieldType) (q : am_Q) : Array Value → State → Outcome → State → Prop := fun _ st o t =>
  (∃ r M', q r M' ∧ am_out G.2.1 ret r o ∧ am_W G M' t.heap ∧ va_K G.1 am_cl (am_tys G) t) ∧ va_F (am_A G) st t
def am_Rel (G : am_G) (maxL : Nat) (H0 : Heap) (M : am_M) (als ast : List am_V) (H : Heap) (locs : List Loc) (ls : Array Slot) (st : List Value) : Prop :=
  am_W G M H ∧ va_S (am_A G) H0 H locs ∧ am_lr G.2.1 maxL als ls ∧ am_rvs G.2.1 ast st
def am_Go (G : am_G) (maxL : Nat) (ret : Option FieldType) (p : Program) (l : Launch) (e : Env) (R : Room) (s : State) (m : MethodId) (args : Array Value) (below : List Frame) (meth : Method) (c : Code) (q : am_Q) (pc : Nat) (als ast : List am_V) (M : am_M) : Prop :=
  ∀ (H : Heap) (locs : List Loc) (ls : Array Slot) (st : List Value), am_Rel G maxL s.heap M als ast H locs ls st → W p l e R s m args below meth c H locs 0 0 (MQ below (am_Qc G ret q) args s 0 0 (am_A G)) (F0 m pc ls st)
def am_Sim (own : String) (bytes : ByteArray) (maxL : Nat) (ret : Option FieldType) (R : Room) (pc : Nat) (op : am_O) : Prop :=
  ∀ (p : Program) (l : Launch) (e : Env) (s : State) (m : MethodId) (args : Array Value) (below : List Frame) (meth : Method) (c : Code) (G : am_G) (X : am_K) (q : am_Q),
    am_Cx G own bytes maxL ret p s m args meth c → (∀ pc als ast M, X pc als ast M → am_Go G maxL ret p l e R s m args below meth c q pc als ast M) → ∀ als ast M, op als ast M X q → am_Go G maxL ret p l e R s m args below meth c q pc als ast M
section SIM
variable {own : String} {bytes : ByteArray} {maxL : Nat} {ret : Option FieldType} {R : Room} {pc : Nat}

theorem k_ic {n : Int} (h : decide (-128 ≤ n ∧ n ≤ 127) = true) : (Int32.ofInt n).toInt = n := by
  have := of_decide_eq_true h
  exact Int32.toInt_ofInt_of_le (by omega) (by omega)
theorem k_bi {n : Int} (h : decide (-128 ≤ n ∧ n ≤ 127) = true) : ((Int8.ofInt n).toInt32).toInt = n := by
  have := of_decide_eq_true h
  rw [Int8.toInt_toInt32]
  exact Int8.toInt_ofInt_of_le (by omega) (by omega)
theorem k_si {n : Int} (h : decide (-32768 ≤ n ∧ n ≤ 32767) = true) : ((Int16.ofInt n).toInt32).toInt = n := by
  have := of_decide_eq_true h
  rw [Int16.toInt_toInt32]
  exact Int16.toInt_ofInt_of_le (by omega) (by omega)

theorem si_iconst {n : Int} (hd : decode bytes pc = .ok (.iconst n, 1)) (hn : decide (-128 ≤ n ∧ n ≤ 127) = true) : am_Sim own bytes maxL ret R pc (o_push (aI n) (pc + 1)) := by
  intro p l e s m args below meth c G X q C hX als ast M ho H locs ls st hr
  obtain ⟨hx, hb, hml, hret, hlk, hown, hts, hK, hinj⟩ := C
  obtain ⟨hW, hS, hl, hst⟩ := hr
  exact lv_iconst hx hb hd rfl (hX _ _ _ _ ho _ _ _ _ ⟨hW, hS, hl, k_ic hn, hst⟩)
theorem si_bipush {n : Int} (hd : decode bytes pc = .ok (.bipush n, 2)) (hn : decide (-128 ≤ n ∧ n ≤ 127) = true) : am_Sim own bytes maxL ret R pc (o_push (aI n) (pc + 2)) := by
  intro p l e s m args below meth c G X q C hX als ast M ho H locs ls st hr
  obtain ⟨hx, hb, hml, hret, hlk, hown, hts, hK, hinj⟩ := C
  obtain ⟨hW, hS, hl, hst⟩ := hr
  exact lv_bipush hx hb hd rfl (hX _ _ _ _ ho _ _ _ _ ⟨hW, hS, hl, k_bi hn, hst⟩)
theorem si_sipush {n : Int} (hd : decode bytes pc = .ok (.sipush n, 3)) (hn : decide (-32768 ≤ n ∧ n ≤ 32767) = true) : am_Sim own bytes maxL ret R pc (o_push (aI n) (pc + 3)) := by
  intro p l e s m args below meth c G X q C hX als ast M ho H locs ls st hr
  obtain ⟨hx, hb, hml, hret, hlk, hown, hts, hK, hinj⟩ := C
  obtain ⟨hW, hS, hl, hst⟩ := hr
  exact lv_sipush hx hb hd rfl (hX _ _ _ _ ho _ _ _ _ ⟨hW, hS, hl, k_si hn, hst⟩)
theorem si_lconst0 (hd : decode bytes pc = .ok (.lconst 0, 1)) : am_Sim own bytes maxL ret R pc (o_push (aL 0) (pc + 1)) := by
  intro p l e s m args below meth c G X q C hX als ast M ho H locs ls st hr
  obtain ⟨hx, hb, hml, hret, hlk, hown, hts, hK, hinj⟩ := C
  obtain ⟨hW, hS, hl, hst⟩ := hr
  exact lv_lconst hx hb hd rfl (hX _ _ _ _ ho _ _ _ _ ⟨hW, hS, hl, rfl, hst⟩)
theorem si_lconst1 (hd : decode bytes pc = .ok (.lconst 1, 1)) : am_Sim own bytes maxL ret R pc (o_push (aL 1) (pc + 1)) := by
  intro p l e s m args below meth c G X q C hX als ast M ho H locs ls st hr
  obtain ⟨hx, hb, hml, hret, hlk, hown, hts, hK, hinj⟩ := C
  obtain ⟨hW, hS, hl, hst⟩ := hr
  exact lv_lconst hx hb hd rfl (hX _ _ _ _ ho _ _ _ _ ⟨hW, hS, hl, rfl, hst⟩)
theorem si_null (hd : decode bytes pc = .ok (.aconst_null, 1)) : am_Sim own bytes maxL ret R pc (o_push aN (pc + 1)) := by
  intro p l e s m args below meth c G X q C hX als ast M ho H locs ls st hr
  obtain ⟨hx, hb, hml, hret, hlk, hown, hts, hK, hinj⟩ := C
  obtain ⟨hW, hS, hl, hst⟩ := hr
  exact lv_null hx hb hd (hX _ _ _ _ ho _ _ _ _ ⟨hW, hS, hl, trivial, hst⟩)
theorem si_ldc {i : Nat} {v : Int32} {n : Int} (hd : decode bytes pc = .ok (.ldc i, 2)) (hc : Cond.constant own i v ∈ lw_g) (hn : v.toInt = n) : am_Sim own bytes maxL ret R pc (o_push (aI n) (pc + 2)) := by
  intro p l e s m args below meth c G X q C hX als ast M ho H locs ls st hr
  obtain ⟨hx, hb, hml, hret, hlk, hown, hts, hK, hinj⟩ := C
  obtain ⟨hW, hS, hl, hst⟩ := hr
  exact lv_ldc hx hb hown (hts _ hc) hd (hX _ _ _ _ ho _ _ _ _ ⟨hW, hS, hl, hn, hst⟩)
theorem si_ldcw {i : Nat} {v : Int32} {n : Int} (hd : decode bytes pc = .ok (.ldc_w i, 3)) (hc : Cond.constant own i v ∈ lw_g) (hn : v.toInt = n) : am_Sim own bytes maxL ret R pc (o_push (aI n) (pc + 3)) := by
  intro p l e s m args below meth c G X q C hX als ast M ho H locs ls st hr
  obtain ⟨hx, hb, hml, hret, hlk, hown, hts, hK, hinj⟩ := C
  obtain ⟨hW, hS, hl, hst⟩ := hr
  exact lv_ldcw hx hb hown (hts _ hc) hd (hX _ _ _ _ ho _ _ _ _ ⟨hW, hS, hl, hn, hst⟩)
theorem si_ldc2 {i : Nat} {v : Int64} {n : Int} (hd : decode bytes pc = .ok (.ldc2_w i, 3)) (hc : Cond.constantLong own i v ∈ lw_g) (hn : v.toInt = n) : am_Sim own bytes maxL ret R pc (o_push (aL n) (pc + 3)) := by
  intro p l e s m args below meth c G X q C hX als ast M ho H locs ls st hr
  obtain ⟨hx, hb, hml, hret, hlk, hown, hts, hK, hinj⟩ := C
  obtain ⟨hW, hS, hl, hst⟩ := hr
  exact lv_ldc2 hx hb hown (hts _ hc) hd (hX _ _ _ _ ho _ _ _ _ ⟨hW, hS, hl, hn, hst⟩)
theorem si_iloadn {k : Fin 4} {i : Nat} (hd : decode bytes pc = .ok (.iload_n k, 1)) (hi : (k : Nat) = i) : am_Sim own bytes maxL ret R pc (o_iload i (pc + 1)) := by
  intro p l e s m args below meth c G X q C hX als ast M ho H locs ls st hr
  obtain ⟨hx, hb, hml, hret, hlk, hown, hts, hK, hinj⟩ := C
  obtain ⟨hW, hS, hl, hst⟩ := hr
  unfold o_iload at ho
  split at ho
  next x hx1 =>
    rcases hl.2.2 i _ hx1 with h0 | ⟨v, h1, h2⟩
    · cases h0
    · obtain ⟨y, rfl, rfl⟩ := rv_i h2
      exact lv_iload_n hx hb hd hi h1 (hX _ _ _ _ ho _ _ _ _ ⟨hW, hS, hl, rfl, hst⟩)
  next => exact ho.elim
theorem si_iload {i : Nat} (hd : decode bytes pc = .ok (.iload i, 2)) : am_Sim own bytes maxL ret R pc (o_iload i (pc + 2)) := by
  intro p l e s m args below meth c G X q C hX als ast M ho H locs ls st hr
  obtain ⟨hx, hb, hml, hret, hlk, hown, hts, hK, hinj⟩ := C
  obtain ⟨hW, hS, hl, hst⟩ := hr
  unfold o_iload at ho
  split at ho
  next x hx1 =>
    rcases hl.2.2 i _ hx1 with h0 | ⟨v, h1, h2⟩
    · cases h0
    · obtain ⟨y, rfl, rfl⟩ := rv_i h2
      exact lv_iload hx hb hd h1 (hX _ _ _ _ ho _ _ _ _ ⟨hW, hS, hl, rfl, hst⟩)
  next => exact ho.elim
theorem si_lloadn {k : Fin 4} {i : Nat} (hd : decode bytes pc = .ok (.lload_n k, 1)) (hi : (k : Nat) = i) : am_Sim own bytes maxL ret R pc (o_lload i (pc + 1)) := by
  intro p l e s m args below meth c G X q C hX als ast M ho H locs ls st hr
  obtain ⟨hx, hb, hml, hret, hlk, hown, hts, hK, hinj⟩ := C
  obtain ⟨hW, hS, hl, hst⟩ := hr
  unfold o_lload at ho
  split at ho
  next x hx1 =>
    rcases hl.2.2 i _ hx1 with h0 | ⟨v, h1, h2⟩
    · cases h0
    · obtain ⟨y, rfl, rfl⟩ := rv_l h2
      exact lv_lload_n hx hb hd hi h1 (hX _ _ _ _ ho _ _ _ _ ⟨hW, hS, hl, rfl, hst⟩)
  next => exact ho.elim
theorem si_lload {i : Nat} (hd : decode bytes pc = .ok (.lload i, 2)) : am_Sim own bytes maxL ret R pc (o_lload i (pc + 2)) := by
  intro p l e s m args below meth c G X q C hX als ast M ho H locs ls st hr
  obtain ⟨hx, hb, hml, hret, hlk, hown, hts, hK, hinj⟩ := C
  obtain ⟨hW, hS, hl, hst⟩ := hr
  unfold o_lload at ho
  split at ho
  next x hx1 =>
    rcases hl.2.2 i _ hx1 with h0 | ⟨v, h1, h2⟩
    · cases h0
    · obtain ⟨y, rfl, rfl⟩ := rv_l h2
      exact lv_lload hx hb hd h1 (hX _ _ _ _ ho _ _ _ _ ⟨hW, hS, hl, rfl, hst⟩)
  next => exact ho.elim
theorem si_aloadn {k : Fin 4} {i : Nat} (hd : decode bytes pc = .ok (.aload_n k, 1)) (hi : (k : Nat) = i) : am_Sim own bytes maxL ret R pc (o_aload i (pc + 1)) := by
  intro p l e s m args below meth c G X q C hX als ast M ho H locs ls st hr
  obtain ⟨hx, hb, hml, hret, hlk, hown, hts, hK, hinj⟩ := C
  obtain ⟨hW, hS, hl, hst⟩ := hr
  unfold o_aload at ho
  split at ho
  next x hx1 =>
    rcases hl.2.2 i _ hx1 with h0 | ⟨v, h1, h2⟩
    · cases h0
    · cases x with
      | zero =>
        obtain rfl := rv_n h2
        exact lv_aload_nN hx hb hd hi h1 (hX _ _ _ _ ho _ _ _ _ ⟨hW, hS, hl, trivial, hst⟩)
      | succ x =>
        obtain rfl := rv_r h2
        exact lv_aload_n hx hb hd hi h1 (hX _ _ _ _ ho _ _ _ _ ⟨hW, hS, hl, rfl, hst⟩)
  next => exact ho.elim
theorem si_aload {i : Nat} (hd : decode bytes pc = .ok (.aload i, 2)) : am_Sim own bytes maxL ret R pc (o_aload i (pc + 2)) := by
  intro p l e s m args below meth c G X q C hX als ast M ho H locs ls st hr
  obtain ⟨hx, hb, hml, hret, hlk, hown, hts, hK, hinj⟩ := C
  obtain ⟨hW, hS, hl, hst⟩ := hr
  unfold o_aload at ho
  split at ho
  next x hx1 =>
    rcases hl.2.2 i _ hx1 with h0 | ⟨v, h1, h2⟩
    · cases h0
    · cases x with
      | zero =>
        obtain rfl := rv_n h2
        exact lv_aloadN hx hb hd h1 (hX _ _ _ _ ho _ _ _ _ ⟨hW, hS, hl, trivial, hst⟩)
      | succ x =>
        obtain rfl := rv_r h2
        exact lv_aload hx hb hd h1 (hX _ _ _ _ ho _ _ _ _ ⟨hW, hS, hl, rfl, hst⟩)
  next => exact ho.elim
theorem si_istoren {k : Fin 4} {i : Nat} (hd : decode bytes pc = .ok (.istore_n k, 1)) (hi : (k : Nat) = i) (hn : Nat.ble (i + 1) maxL = true) : am_Sim own bytes maxL ret R pc (o_istore i (pc + 1)) := by
  intro p l e s m args below meth c G X q C hX als ast M ho H locs ls st hr
  obtain ⟨hx, hb, hml, hret, hlk, hown, hts, hK, hinj⟩ := C
  obtain ⟨hW, hS, hl, hst⟩ := hr
  unfold o_istore at ho
  split at ho
  next x st0 =>
    obtain ⟨v, vs, rfl, h1, h2⟩ := rvs_c hst
    obtain ⟨y, rfl, rfl⟩ := rv_i h1
    exact lv_istore_n hx hb hd hi (lvs_has hl.1 hl.2.1) (Nat.le_of_ble_eq_true hn) rfl (fun ls' h' => hX _ _ _ _ ho _ _ _ _ ⟨hW, hS, lr_st1 (w := .int y) hl rfl h', h2⟩)
  next => exact ho.elim
theorem si_istore {i : Nat} (hd : decode bytes pc = .ok (.istore i, 2)) (hn : Nat.ble (i + 1) maxL = true) : am_Sim own bytes maxL ret R pc (o_istore i (pc + 2)) := by
  intro p l e s m args below meth c G X q C hX als ast M ho H locs ls st hr
  obtain ⟨hx, hb, hml, hret, hlk, hown, hts, hK, hinj⟩ := C
  obtain ⟨hW, hS, hl, hst⟩ := hr
  unfold o_istore at ho
  split at ho
  next x st0 =>
    obtain ⟨v, vs, rfl, h1, h2⟩ := rvs_c hst
    obtain ⟨y, rfl, rfl⟩ := rv_i h1
    exact lv_istore hx hb hd (lvs_has hl.1 hl.2.1) (Nat.le_of_ble_eq_true hn) rfl (fun ls' h' => hX _ _ _ _ ho _ _ _ _ ⟨hW, hS, lr_st1 (w := .int y) hl rfl h', h2⟩)
  next => exact ho.elim
theorem si_lstoren {k : Fin 4} {i : Nat} (hd : decode bytes pc = .ok (.lstore_n k, 1)) (hi : (k : Nat) = i) (hn : Nat.ble (i + 2) maxL = true) : am_Sim own bytes maxL ret R pc (o_lstore i (pc + 1)) := by
  intro p l e s m args below meth c G X q C hX als ast M ho H locs ls st hr
  obtain ⟨hx, hb, hml, hret, hlk, hown, hts, hK, hinj⟩ := C
  obtain ⟨hW, hS, hl, hst⟩ := hr
  unfold o_lstore at ho
  split at ho
  next x st0 =>
    obtain ⟨v, vs, rfl, h1, h2⟩ := rvs_c hst
    obtain ⟨y, rfl, rfl⟩ := rv_l h1
    exact lv_lstore_n hx hb hd hi (lvs_has hl.1 hl.2.1) (Nat.le_of_ble_eq_true hn) rfl (fun ls' h' => hX _ _ _ _ ho _ _ _ _ ⟨hW, hS, lr_st2 (w := .long y) hl rfl h', h2⟩)
  next => exact ho.elim
theorem si_lstore {i : Nat} (hd : decode bytes pc = .ok (.lstore i, 2)) (hn : Nat.ble (i + 2) maxL = true) : am_Sim own bytes maxL ret R pc (o_lstore i (pc + 2)) := by
  intro p l e s m args below meth c G X q C hX als ast M ho H locs ls st hr
  obtain ⟨hx, hb, hml, hret, hlk, hown, hts, hK, hinj⟩ := C
  obtain ⟨hW, hS, hl, hst⟩ := hr
  unfold o_lstore at ho
  split at ho
  next x st0 =>
    obtain ⟨v, vs, rfl, h1, h2⟩ := rvs_c hst
    obtain ⟨y, rfl, rfl⟩ := rv_l h1
    exact lv_lstore hx hb hd (lvs_has hl.1 hl.2.1) (Nat.le_of_ble_eq_true hn) rfl (fun ls' h' => hX _ _ _ _ ho _ _ _ _ ⟨hW, hS, lr_st2 (w := .long y) hl rfl h', h2⟩)
  next => exact ho.elim
theorem si_astoren {k : Fin 4} {i : Nat} (hd : decode bytes pc = .ok (.astore_n k, 1)) (hi : (k : Nat) = i) (hn : Nat.ble (i + 1) maxL = true) : am_Sim own bytes maxL ret R pc (o_astore i (pc + 1)) := by
  intro p l e s m args below meth c G X q C hX als ast M ho H locs ls st hr
  obtain ⟨hx, hb, hml, hret, hlk, hown, hts, hK, hinj⟩ := C
  obtain ⟨hW, hS, hl, hst⟩ := hr
  unfold o_astore at ho
  split at ho
  next x st0 =>
    obtain ⟨v, vs, rfl, h1, h2⟩ := rvs_c hst
    cases x with
    | zero =>
      obtain rfl := rv_n h1
      exact lv_astore_nN hx hb hd hi (lvs_has hl.1 hl.2.1) (Nat.le_of_ble_eq_true hn) rfl (fun ls' h' => hX _ _ _ _ ho _ _ _ _ ⟨hW, hS, lr_st1 (w := .null) hl trivial h', h2⟩)
    | succ x =>
      obtain rfl := rv_r h1
      exact lv_astore_n hx hb hd hi (lvs_has hl.1 hl.2.1) (Nat.le_of_ble_eq_true hn) rfl (fun ls' h' => hX _ _ _ _ ho _ _ _ _ ⟨hW, hS, lr_st1 (w := .ref (G.2.1 x)) hl rfl h', h2⟩)
  next => exact ho.elim
theorem si_astore {i : Nat} (hd : decode bytes pc = .ok (.astore i, 2)) (hn : Nat.ble (i + 1) maxL = true) : am_Sim own bytes maxL ret R pc (o_astore i (pc + 2)) := by
  intro p l e s m args below meth c G X q C hX als ast M ho H locs ls st hr
  obtain ⟨hx, hb, hml, hret, hlk, hown, hts, hK, hinj⟩ := C
  obtain ⟨hW, hS, hl, hst⟩ := hr
  unfold o_astore at ho
  split at ho
  next x st0 =>
    obtain ⟨v, vs, rfl, h1, h2⟩ := rvs_c hst
    cases x with
    | zero =>
      obtain rfl := rv_n h1
      exact lv_astoreN hx hb hd (lvs_has hl.1 hl.2.1) (Nat.le_of_ble_eq_true hn) rfl (fun ls' h' => hX _ _ _ _ ho _ _ _ _ ⟨hW, hS, lr_st1 (w := .null) hl trivial h', h2⟩)
    | succ x =>
      obtain rfl := rv_r h1
      exact lv_astore hx hb hd (lvs_has hl.1 hl.2.1) (Nat.le_of_ble_eq_true hn) rfl (fun ls' h' => hX _ _ _ _ ho _ _ _ _ ⟨hW, hS, lr_st1 (w := .ref (G.2.1 x)) hl rfl h', h2⟩)
  next => exact ho.elim
theorem si_iinc {i : Nat} {n : Int} (hd : decode bytes pc = .ok (.iinc i n, 3)) (hn : Nat.ble (i + 1) maxL = true) (hc : decide (-128 ≤ n ∧ n ≤ 127) = true) : am_Sim own bytes maxL ret R pc (o_iinc i n (pc + 3)) := by
  intro p l e s m args below meth c G X q C hX als ast M ho H locs ls st hr
  obtain ⟨hx, hb, hml, hret, hlk, hown, hts, hK, hinj⟩ := C
  obtain ⟨hW, hS, hl, hst⟩ := hr
  unfold o_iinc at ho
  split at ho
  next x hx1 =>
    rcases hl.2.2 i _ hx1 with h0 | ⟨v, h1, h2⟩
    · cases h0
    · obtain ⟨y, rfl, rfl⟩ := rv_i h2
      obtain ⟨k, hk⟩ := List.getElem?_of_mem (lvs_in h1)
      exact lv_iinc hx hb hd (lvs_has hl.1 hl.2.1) hk rfl (Nat.le_of_ble_eq_true hn) rfl (fun ls' h' => hX _ _ _ _ ho _ _ _ _ ⟨hW, hS, lr_st1 (w := .int (y + Int32.ofInt n)) hl (show (y + Int32.ofInt n).toInt = _ by rw [n_add, k_ic hc]) h', hst⟩)
  next => exact ho.elim
theorem si_iadd (hd : decode bytes pc = .ok (.iadd, 1)) : am_Sim own bytes maxL ret R pc (o_bin (fun a b => w32 (a + b)) (pc + 1)) := by
  intro p l e s m args below meth c G X q C hX als ast M ho H locs ls st hr
  obtain ⟨hx, hb, hml, hret, hlk, hown, hts, hK, hinj⟩ := C
  obtain ⟨hW, hS, hl, hst⟩ := hr
  unfold o_bin at ho
  split at ho
  next y0 x0 st0 =>
    obtain ⟨v, vs, rfl, h1, h2⟩ := rvs_c hst
    obtain ⟨v2, vs2, rfl, h3, h4⟩ := rvs_c h2
    obtain ⟨y, rfl, rfl⟩ := rv_i h1
    obtain ⟨x, rfl, rfl⟩ := rv_i h3
    exact lv_iadd hx hb hd (hX _ _ _ _ ho _ _ _ _ ⟨hW, hS, hl, n_add x y, h4⟩)
  next => exact ho.elim
theorem si_isub (hd : decode bytes pc = .ok (.isub, 1)) : am_Sim own bytes maxL ret R pc (o_bin (fun a b => w32 (a - b)) (pc + 1)) := by
  intro p l e s m args below meth c G X q C hX als ast M ho H locs ls st hr
  obtain ⟨hx, hb, hml, hret, hlk, hown, hts, hK, hinj⟩ := C
  obtain ⟨hW, hS, hl, hst⟩ := hr
  unfold o_bin at ho
  split at ho
  next y0 x0 st0 =>
    obtain ⟨v, vs, rfl, h1, h2⟩ := rvs_c hst
    obtain ⟨v2, vs2, rfl, h3, h4⟩ := rvs_c h2
    obtain ⟨y, rfl, rfl⟩ := rv_i h1
    obtain ⟨x, rfl, rfl⟩ := rv_i h3
    exact lv_isub hx hb hd (hX _ _ _ _ ho _ _ _ _ ⟨hW, hS, hl, n_sub x y, h4⟩)
  next => exact ho.elim
theorem si_imul (hd : decode bytes pc = .ok (.imul, 1)) : am_Sim own bytes maxL ret R pc (o_bin (fun a b => w32 (a * b)) (pc + 1)) := by
  intro p l e s m args below meth c G X q C hX als ast M ho H locs ls st hr
  obtain ⟨hx, hb, hml, hret, hlk, hown, hts, hK, hinj⟩ := C
  obtain ⟨hW, hS, hl, hst⟩ := hr
  unfold o_bin at ho
  split at ho
  next y0 x0 st0 =>
    obtain ⟨v, vs, rfl, h1, h2⟩ := rvs_c hst
    obtain ⟨v2, vs2, rfl, h3, h4⟩ := rvs_c h2
    obtain ⟨y, rfl, rfl⟩ := rv_i h1
    obtain ⟨x, rfl, rfl⟩ := rv_i h3
    exact lv_imul hx hb hd (hX _ _ _ _ ho _ _ _ _ ⟨hW, hS, hl, n_mul x y, h4⟩)
  next => exact ho.elim
theorem si_iand (hd : decode bytes pc = .ok (.iand, 1)) : am_Sim own bytes maxL ret R pc (o_bin am_and (pc + 1)) := by
  intro p l e s m args below meth c G X q C hX als ast M ho H locs ls st hr
  obtain ⟨hx, hb, hml, hret, hlk, hown, hts, hK, hinj⟩ := C
  obtain ⟨hW, hS, hl, hst⟩ := hr
  unfold o_bin at ho
  split at ho
  next y0 x0 st0 =>
    obtain ⟨v, vs, rfl, h1, h2⟩ := rvs_c hst
    obtain ⟨v2, vs2, rfl, h3, h4⟩ := rvs_c h2
    obtain ⟨y, rfl, rfl⟩ := rv_i h1
    obtain ⟨x, rfl, rfl⟩ := rv_i h3
    exact lv_iand hx hb hd (hX _ _ _ _ ho _ _ _ _ ⟨hW, hS, hl, n_and x y, h4⟩)
  next => exact ho.elim
theorem si_ior (hd : decode bytes pc = .ok (.ior, 1)) : am_Sim own bytes maxL ret R pc (o_bin am_or (pc + 1)) := by
  intro p l e s m args below meth c G X q C hX als ast M ho H locs ls st hr
  obtain ⟨hx, hb, hml, hret, hlk, hown, hts, hK, hinj⟩ := C
  obtain ⟨hW, hS, hl, hst⟩ := hr
  unfold o_bin at ho
  split at ho
  next y0 x0 st0 =>
    obtain ⟨v, vs, rfl, h1, h2⟩ := rvs_c hst
    obtain ⟨v2, vs2, rfl, h3, h4⟩ := rvs_c h2
    obtain ⟨y, rfl, rfl⟩ := rv_i h1
    obtain ⟨x, rfl, rfl⟩ := rv_i h3
    exact lv_ior hx hb hd (hX _ _ _ _ ho _ _ _ _ ⟨hW, hS, hl, n_or x y, h4⟩)
  next => exact ho.elim
theorem si_ixor (hd : decode bytes pc = .ok (.ixor, 1)) : am_Sim own bytes maxL ret R pc (o_bin am_xor (pc + 1)) := by
  intro p l e s m args below meth c G X q C hX als ast M ho H locs ls st hr
  obtain ⟨hx, hb, hml, hret, hlk, hown, hts, hK, hinj⟩ := C
  obtain ⟨hW, hS, hl, hst⟩ := hr
  unfold o_bin at ho
  split at ho
  next y0 x0 st0 =>
    obtain ⟨v, vs, rfl, h1, h2⟩ := rvs_c hst
    obtain ⟨v2, vs2, rfl, h3, h4⟩ := rvs_c h2
    obtain ⟨y, rfl, rfl⟩ := rv_i h1
    obtain ⟨x, rfl, rfl⟩ := rv_i h3
    exact lv_ixor hx hb hd (hX _ _ _ _ ho _ _ _ _ ⟨hW, hS, hl, n_xor x y, h4⟩)
  next => exact ho.elim
theorem si_ladd (hd : decode bytes pc = .ok (.ladd, 1)) : am_Sim own bytes maxL ret R pc (o_binL (fun a b => w64 (a + b)) (pc + 1)) := by
  intro p l e s m args below meth c G X q C hX als ast M ho H locs ls st hr
  obtain ⟨hx, hb, hml, hret, hlk, hown, hts, hK, hinj⟩ := C
  obtain ⟨hW, hS, hl, hst⟩ := hr
  unfold o_binL at ho
  split at ho
  next y0 x0 st0 =>
    obtain ⟨v, vs, rfl, h1, h2⟩ := rvs_c hst
    obtain ⟨v2, vs2, rfl, h3, h4⟩ := rvs_c h2
    obtain ⟨y, rfl, rfl⟩ := rv_l h1
    obtain ⟨x, rfl, rfl⟩ := rv_l h3
    exact lv_ladd hx hb hd (hX _ _ _ _ ho _ _ _ _ ⟨hW, hS, hl, l_add x y, h4⟩)
  next => exact ho.elim
theorem si_lsub (hd : decode bytes pc = .ok (.lsub, 1)) : am_Sim own bytes maxL ret R pc (o_binL (fun a b => w64 (a - b)) (pc + 1)) := by
  intro p l e s m args below meth c G X q C hX als ast M ho H locs ls st hr
  obtain ⟨hx, hb, hml, hret, hlk, hown, hts, hK, hinj⟩ := C
  obtain ⟨hW, hS, hl, hst⟩ := hr
  unfold o_binL at ho
  split at ho
  next y0 x0 st0 =>
    obtain ⟨v, vs, rfl, h1, h2⟩ := rvs_c hst
    obtain ⟨v2, vs2, rfl, h3, h4⟩ := rvs_c h2
    obtain ⟨y, rfl, rfl⟩ := rv_l h1
    obtain ⟨x, rfl, rfl⟩ := rv_l h3
    exact lv_lsub hx hb hd (hX _ _ _ _ ho _ _ _ _ ⟨hW, hS, hl, l_sub x y, h4⟩)
  next => exact ho.elim
theorem si_lmul (hd : decode bytes pc = .ok (.lmul, 1)) : am_Sim own bytes maxL ret R pc (o_binL (fun a b => w64 (a * b)) (pc + 1)) := by
  intro p l e s m args below meth c G X q C hX als ast M ho H locs ls st hr
  obtain ⟨hx, hb, hml, hret, hlk, hown, hts, hK, hinj⟩ := C
  obtain ⟨hW, hS, hl, hst⟩ := hr
  unfold o_binL at ho
  split at ho
  next y0 x0 st0 =>
    obtain ⟨v, vs, rfl, h1, h2⟩ := rvs_c hst
    obtain ⟨v2, vs2, rfl, h3, h4⟩ := rvs_c h2
    obtain ⟨y, rfl, rfl⟩ := rv_l h1
    obtain ⟨x, rfl, rfl⟩ := rv_l h3
    exact lv_lmul hx hb hd (hX _ _ _ _ ho _ _ _ _ ⟨hW, hS, hl, l_mul x y, h4⟩)
  next => exact ho.elim
theorem si_land (hd : decode bytes pc = .ok (.land, 1)) : am_Sim own bytes maxL ret R pc (o_binL am_land (pc + 1)) := by
  intro p l e s m args below meth c G X q C hX als ast M ho H locs ls st hr
  obtain ⟨hx, hb, hml, hret, hlk, hown, hts, hK, hinj⟩ := C
  obtain ⟨hW, hS, hl, hst⟩ := hr
  unfold o_binL at ho
  split at ho
  next y0 x0 st0 =>
    obtain ⟨v, vs, rfl, h1, h2⟩ := rvs_c hst
    obtain ⟨v2, vs2, rfl, h3, h4⟩ := rvs_c h2
    obtain ⟨y, rfl, rfl⟩ := rv_l h1
    obtain ⟨x, rfl, rfl⟩ := rv_l h3
    exact lv_land hx hb hd (hX _ _ _ _ ho _ _ _ _ ⟨hW, hS, hl, l_and x y, h4⟩)
  next => exact ho.elim
theorem si_lor (hd : decode bytes pc = .ok (.lor, 1)) : am_Sim own bytes maxL ret R pc (o_binL am_lor (pc + 1)) := by
  intro p l e s m args below meth c G X q C hX als ast M ho H locs ls st hr
  obtain ⟨hx, hb, hml, hret, hlk, hown, hts, hK, hinj⟩ := C
  obtain ⟨hW, hS, hl, hst⟩ := hr
  unfold o_binL at ho
  split at ho
  next y0 x0 st0 =>
    obtain ⟨v, vs, rfl, h1, h2⟩ := rvs_c hst
    obtain ⟨v2, vs2, rfl, h3, h4⟩ := rvs_c h2
    obtain ⟨y, rfl, rfl⟩ := rv_l h1
    obtain ⟨x, rfl, rfl⟩ := rv_l h3
    exact lv_lor hx hb hd (hX _ _ _ _ ho _ _ _ _ ⟨hW, hS, hl, l_or x y, h4⟩)
  next => exact ho.elim
theorem si_idiv (hd : decode bytes pc = .ok (.idiv, 1)) : am_Sim own bytes maxL ret R pc (o_idiv (pc + 1)) := by
  intro p l e s m args below meth c G X q C hX als ast M ho H locs ls st hr
  obtain ⟨hx, hb, hml, hret, hlk, hown, hts, hK, hinj⟩ := C
  obtain ⟨hW, hS, hl, hst⟩ := hr
  unfold o_idiv at ho
  split at ho
  next y0 x0 st0 =>
    obtain ⟨v, vs, rfl, h1, h2⟩ := rvs_c hst
    obtain ⟨v2, vs2, rfl, h3, h4⟩ := rvs_c h2
    obtain ⟨y, rfl, rfl⟩ := rv_i h1
    obtain ⟨x, rfl, rfl⟩ := rv_i h3
    exact lv_idiv hx hb hd (fun h => by have := ho.1.2; rw [h] at this; exact absurd this (by decide)) (hX _ _ _ _ ho.2 _ _ _ _ ⟨hW, hS, hl, n_div ho.1.1 ho.1.2, h4⟩)
  next => exact ho.elim
theorem si_irem (hd : decode bytes pc = .ok (.irem, 1)) : am_Sim own bytes maxL ret R pc (o_irem (pc + 1)) := by
  intro p l e s m args below meth c G X q C hX als ast M ho H locs ls st hr
  obtain ⟨hx, hb, hml, hret, hlk, hown, hts, hK, hinj⟩ := C
  obtain ⟨hW, hS, hl, hst⟩ := hr
  unfold o_irem at ho
  split at ho
  next y0 x0 st0 =>
    obtain ⟨v, vs, rfl, h1, h2⟩ := rvs_c hst
    obtain ⟨v2, vs2, rfl, h3, h4⟩ := rvs_c h2
    obtain ⟨y, rfl, rfl⟩ := rv_i h1
    obtain ⟨x, rfl, rfl⟩ := rv_i h3
    exact lv_irem hx hb hd (fun h => by have := ho.1.2; rw [h] at this; exact absurd this (by decide)) (hX _ _ _ _ ho.2 _ _ _ _ ⟨hW, hS, hl, n_rem ho.1.1 ho.1.2, h4⟩)
  next => exact ho.elim
theorem si_ldiv (hd : decode bytes pc = .ok (.ldiv, 1)) : am_Sim own bytes maxL ret R pc (o_ldiv (pc + 1)) := by
  intro p l e s m args below meth c G X q C hX als ast M ho H locs ls st hr
  obtain ⟨hx, hb, hml, hret, hlk, hown, hts, hK, hinj⟩ := C
  obtain ⟨hW, hS, hl, hst⟩ := hr
  unfold o_ldiv at ho
  split at ho
  next y0 x0 st0 =>
    obtain ⟨v, vs, rfl, h1, h2⟩ := rvs_c hst
    obtain ⟨v2, vs2, rfl, h3, h4⟩ := rvs_c h2
    obtain ⟨y, rfl, rfl⟩ := rv_l h1
    obtain ⟨x, rfl, rfl⟩ := rv_l h3
    exact lv_ldiv hx hb hd (fun h => by have := ho.1.2; rw [h] at this; exact absurd this (by decide)) (hX _ _ _ _ ho.2 _ _ _ _ ⟨hW, hS, hl, l_div ho.1.1 ho.1.2, h4⟩)
  next => exact ho.elim
theorem si_lrem (hd : decode bytes pc = .ok (.lrem, 1)) : am_Sim own bytes maxL ret R pc (o_lrem (pc + 1)) := by
  intro p l e s m args below meth c G X q C hX als ast M ho H locs ls st hr
  obtain ⟨hx, hb, hml, hret, hlk, hown, hts, hK, hinj⟩ := C
  obtain ⟨hW, hS, hl, hst⟩ := hr
  unfold o_lrem at ho
  split at ho
  next y0 x0 st0 =>
    obtain ⟨v, vs, rfl, h1, h2⟩ := rvs_c hst
    obtain ⟨v2, vs2, rfl, h3, h4⟩ := rvs_c h2
    obtain ⟨y, rfl, rfl⟩ := rv_l h1
    obtain ⟨x, rfl, rfl⟩ := rv_l h3
    exact lv_lrem hx hb hd (fun h => by have := ho.1.2; rw [h] at this; exact absurd this (by decide)) (hX _ _ _ _ ho.2 _ _ _ _ ⟨hW, hS, hl, l_rem ho.1.1 ho.1.2, h4⟩)
  next => exact ho.elim
theorem si_lcmp (hd : decode bytes pc = .ok (.lcmp, 1)) : am_Sim own bytes maxL ret R pc (o_lcmp (pc + 1)) := by
  intro p l e s m args below meth c G X q C hX als ast M ho H locs ls st hr
  obtain ⟨hx, hb, hml, hret, hlk, hown, hts, hK, hinj⟩ := C
  obtain ⟨hW, hS, hl, hst⟩ := hr
  unfold o_lcmp at ho
  split at ho
  next y0 x0 st0 =>
    obtain ⟨v, vs, rfl, h1, h2⟩ := rvs_c hst
    obtain ⟨v2, vs2, rfl, h3, h4⟩ := rvs_c h2
    obtain ⟨y, rfl, rfl⟩ := rv_l h1
    obtain ⟨x, rfl, rfl⟩ := rv_l h3
    exact W.lcmp hx hb hd (hX _ _ _ _ ho _ _ _ _ ⟨hW, hS, hl, l_cmp x y, h4⟩)
  next => exact ho.elim
theorem si_ishl (hd : decode bytes pc = .ok (.ishl, 1)) : am_Sim own bytes maxL ret R pc (o_sh am_shl (pc + 1)) := by
  intro p l e s m args below meth c G X q C hX als ast M ho H locs ls st hr
  obtain ⟨hx, hb, hml, hret, hlk, hown, hts, hK, hinj⟩ := C
  obtain ⟨hW, hS, hl, hst⟩ := hr
  unfold o_sh at ho
  split at ho
  next y0 x0 st0 =>
    obtain ⟨v, vs, rfl, h1, h2⟩ := rvs_c hst
    obtain ⟨v2, vs2, rfl, h3, h4⟩ := rvs_c h2
    obtain ⟨y, rfl, rfl⟩ := rv_i h1
    obtain ⟨x, rfl, rfl⟩ := rv_i h3
    exact lv_ishl hx hb hd (hX _ _ _ _ ho.2 _ _ _ _ ⟨hW, hS, hl, n_shl ho.1.1 ho.1.2, h4⟩)
  next => exact ho.elim
theorem si_ishr (hd : decode bytes pc = .ok (.ishr, 1)) : am_Sim own bytes maxL ret R pc (o_sh am_shr (pc + 1)) := by
  intro p l e s m args below meth c G X q C hX als ast M ho H locs ls st hr
  obtain ⟨hx, hb, hml, hret, hlk, hown, hts, hK, hinj⟩ := C
  obtain ⟨hW, hS, hl, hst⟩ := hr
  unfold o_sh at ho
  split at ho
  next y0 x0 st0 =>
    obtain ⟨v, vs, rfl, h1, h2⟩ := rvs_c hst
    obtain ⟨v2, vs2, rfl, h3, h4⟩ := rvs_c h2
    obtain ⟨y, rfl, rfl⟩ := rv_i h1
    obtain ⟨x, rfl, rfl⟩ := rv_i h3
    exact lv_ishr hx hb hd (hX _ _ _ _ ho.2 _ _ _ _ ⟨hW, hS, hl, n_shr ho.1.1 ho.1.2, h4⟩)
  next => exact ho.elim
theorem si_iushr (hd : decode bytes pc = .ok (.iushr, 1)) : am_Sim own bytes maxL ret R pc (o_sh am_ushr (pc + 1)) := by
  intro p l e s m args below meth c G X q C hX als ast M ho H locs ls st hr
  obtain ⟨hx, hb, hml, hret, hlk, hown, hts, hK, hinj⟩ := C
  obtain ⟨hW, hS, hl, hst⟩ := hr
  unfold o_sh at ho
  split at ho
  next y0 x0 st0 =>
    obtain ⟨v, vs, rfl, h1, h2⟩ := rvs_c hst
    obtain ⟨v2, vs2, rfl, h3, h4⟩ := rvs_c h2
    obtain ⟨y, rfl, rfl⟩ := rv_i h1
    obtain ⟨x, rfl, rfl⟩ := rv_i h3
    exact lv_iushr hx hb hd rfl (hX _ _ _ _ ho.2 _ _ _ _ ⟨hW, hS, hl, n_ushr ho.1.1 ho.1.2, h4⟩)
  next => exact ho.elim
theorem si_lshl (hd : decode bytes pc = .ok (.lshl, 1)) : am_Sim own bytes maxL ret R pc (o_shL am_lshl (pc + 1)) := by
  intro p l e s m args below meth c G X q C hX als ast M ho H locs ls st hr
  obtain ⟨hx, hb, hml, hret, hlk, hown, hts, hK, hinj⟩ := C
  obtain ⟨hW, hS, hl, hst⟩ := hr
  unfold o_shL at ho
  split at ho
  next y0 x0 st0 =>
    obtain ⟨v, vs, rfl, h1, h2⟩ := rvs_c hst
    obtain ⟨v2, vs2, rfl, h3, h4⟩ := rvs_c h2
    obtain ⟨y, rfl, rfl⟩ := rv_i h1
    obtain ⟨x, rfl, rfl⟩ := rv_l h3
    exact lv_lshl hx hb hd rfl (hX _ _ _ _ ho.2 _ _ _ _ ⟨hW, hS, hl, l_shl ho.1.1 ho.1.2, h4⟩)
  next => exact ho.elim
theorem si_lushr (hd : decode bytes pc = .ok (.lushr, 1)) : am_Sim own bytes maxL ret R pc (o_shL am_lushr (pc + 1)) := by
  intro p l e s m args below meth c G X q C hX als ast M ho H locs ls st hr
  obtain ⟨hx, hb, hml, hret, hlk, hown, hts, hK, hinj⟩ := C
  obtain ⟨hW, hS, hl, hst⟩ := hr
  unfold o_shL at ho
  split at ho
  next y0 x0 st0 =>
    obtain ⟨v, vs, rfl, h1, h2⟩ := rvs_c hst
    obtain ⟨v2, vs2, rfl, h3, h4⟩ := rvs_c h2
    obtain ⟨y, rfl, rfl⟩ := rv_i h1
    obtain ⟨x, rfl, rfl⟩ := rv_l h3
    exact lv_lushr hx hb hd rfl (hX _ _ _ _ ho.2 _ _ _ _ ⟨hW, hS, hl, l_ushr ho.1.1 ho.1.2, h4⟩)
  next => exact ho.elim
theorem si_i2b (hd : decode bytes pc = .ok (.i2b, 1)) : am_Sim own bytes maxL ret R pc (o_un w8 (pc + 1)) := by
  intro p l e s m args below meth c G X q C hX als ast M ho H locs ls st hr
  obtain ⟨hx, hb, hml, hret, hlk, hown, hts, hK, hinj⟩ := C
  obtain ⟨hW, hS, hl, hst⟩ := hr
  unfold o_un at ho
  split at ho
  next x0 st0 =>
    obtain ⟨v, vs, rfl, h1, h2⟩ := rvs_c hst
    obtain ⟨x, rfl, rfl⟩ := rv_i h1
    exact lv_i2b hx hb hd rfl (hX _ _ _ _ ho _ _ _ _ ⟨hW, hS, hl, n_b x, h2⟩)
  next => exact ho.elim
theorem si_i2s (hd : decode bytes pc = .ok (.i2s, 1)) : am_Sim own bytes maxL ret R pc (o_un w16 (pc + 1)) := by
  intro p l e s m args below meth c G X q C hX als ast M ho H locs ls st hr
  obtain ⟨hx, hb, hml, hret, hlk, hown, hts, hK, hinj⟩ := C
  obtain ⟨hW, hS, hl, hst⟩ := hr
  unfold o_un at ho
  split at ho
  next x0 st0 =>
    obtain ⟨v, vs, rfl, h1, h2⟩ := rvs_c hst
    obtain ⟨x, rfl, rfl⟩ := rv_i h1
    exact lv_i2s hx hb hd rfl (hX _ _ _ _ ho _ _ _ _ ⟨hW, hS, hl, n_s x, h2⟩)
  next => exact ho.elim
theorem si_i2l (hd : decode bytes pc = .ok (.i2l, 1)) : am_Sim own bytes maxL ret R pc (o_i2l (pc + 1)) := by
  intro p l e s m args below meth c G X q C hX als ast M ho H locs ls st hr
  obtain ⟨hx, hb, hml, hret, hlk, hown, hts, hK, hinj⟩ := C
  obtain ⟨hW, hS, hl, hst⟩ := hr
  unfold o_i2l at ho
  split at ho
  next x0 st0 =>
    obtain ⟨v, vs, rfl, h1, h2⟩ := rvs_c hst
    obtain ⟨x, rfl, rfl⟩ := rv_i h1
    exact lv_i2l hx hb hd rfl (hX _ _ _ _ ho _ _ _ _ ⟨hW, hS, hl, Int32.toInt_toInt64 x, h2⟩)
  next => exact ho.elim
theorem si_pop (hd : decode bytes pc = .ok (.pop, 1)) : am_Sim own bytes maxL ret R pc (o_pop (pc + 1)) := by
  intro p l e s m args below meth c G X q C hX als ast M ho H locs ls st hr
  obtain ⟨hx, hb, hml, hret, hlk, hown, hts, hK, hinj⟩ := C
  obtain ⟨hW, hS, hl, hst⟩ := hr
  unfold o_pop at ho
  split at ho
  next x0 st0 =>
    obtain ⟨v, vs, rfl, h1, h2⟩ := rvs_c hst
    obtain ⟨x, rfl, rfl⟩ := rv_i h1
    exact lv_pop hx hb hd rfl (hX _ _ _ _ ho _ _ _ _ ⟨hW, hS, hl, h2⟩)
  next => exact ho.elim
theorem si_pop2 (hd : decode bytes pc = .ok (.pop2, 1)) : am_Sim own bytes maxL ret R pc (o_pop2 (pc + 1)) := by
  intro p l e s m args below meth c G X q C hX als ast M ho H locs ls st hr
  obtain ⟨hx, hb, hml, hret, hlk, hown, hts, hK, hinj⟩ := C
  obtain ⟨hW, hS, hl, hst⟩ := hr
  unfold o_pop2 at ho
  split at ho
  next x0 st0 =>
    obtain ⟨v, vs, rfl, h1, h2⟩ := rvs_c hst
    obtain ⟨x, rfl, rfl⟩ := rv_l h1
    exact lv_pop2_2 hx hb hd rfl (hX _ _ _ _ ho _ _ _ _ ⟨hW, hS, hl, h2⟩)
  next => exact ho.elim
theorem si_dup (hd : decode bytes pc = .ok (.dup, 1)) : am_Sim own bytes maxL ret R pc (o_dup (pc + 1)) := by
  intro p l e s m args below meth c G X q C hX als ast M ho H locs ls st hr
  obtain ⟨hx, hb, hml, hret, hlk, hown, hts, hK, hinj⟩ := C
  obtain ⟨hW, hS, hl, hst⟩ := hr
  unfold o_dup at ho
  split at ho
  next x0 st0 =>
    obtain ⟨v, vs, rfl, h1, h2⟩ := rvs_c hst
    obtain ⟨x, rfl, rfl⟩ := rv_i h1
    exact lv_dup hx hb hd rfl (hX _ _ _ _ ho _ _ _ _ ⟨hW, hS, hl, rfl, rfl, h2⟩)
  next x0 st0 =>
    obtain ⟨v, vs, rfl, h1, h2⟩ := rvs_c hst
    cases x0 with
    | zero =>
      obtain rfl := rv_n h1
      exact lv_dup hx hb hd rfl (hX _ _ _ _ ho _ _ _ _ ⟨hW, hS, hl, trivial, trivial, h2⟩)
    | succ x0 =>
      obtain rfl := rv_r h1
      exact lv_dup hx hb hd rfl (hX _ _ _ _ ho _ _ _ _ ⟨hW, hS, hl, rfl, rfl, h2⟩)
  next => exact ho.elim
theorem si_dup2 (hd : decode bytes pc = .ok (.dup2, 1)) : am_Sim own bytes maxL ret R pc (o_dup2 (pc + 1)) := by
  intro p l e s m args below meth c G X q C hX als ast M ho H locs ls st hr
  obtain ⟨hx, hb, hml, hret, hlk, hown, hts, hK, hinj⟩ := C
  obtain ⟨hW, hS, hl, hst⟩ := hr
  unfold o_dup2 at ho
  split at ho
  next x0 st0 =>
    obtain ⟨v, vs, rfl, h1, h2⟩ := rvs_c hst
    obtain ⟨x, rfl, rfl⟩ := rv_l h1
    exact lv_dup2_2 hx hb hd rfl (hX _ _ _ _ ho _ _ _ _ ⟨hW, hS, hl, rfl, rfl, h2⟩)
  next y0 x0 st0 =>
    obtain ⟨v, vs, rfl, h1, h2⟩ := rvs_c hst
    obtain ⟨v2, vs2, rfl, h3, h4⟩ := rvs_c h2
    obtain ⟨y, rfl, rfl⟩ := rv_i h1
    cases x0 with
    | zero =>
      obtain rfl := rv_n h3
      exact lv_dup2_11 hx hb hd rfl rfl (hX _ _ _ _ ho _ _ _ _ ⟨hW, hS, hl, rfl, trivial, rfl, trivial, h4⟩)
    | succ x0 =>
      obtain rfl := rv_r h3
      exact lv_dup2_11 hx hb hd rfl rfl (hX _ _ _ _ ho _ _ _ _ ⟨hW, hS, hl, rfl, rfl, rfl, rfl, h4⟩)
  next => exact ho.elim
theorem si_goto {off : Int} {t : Nat} (hd : decode bytes pc = .ok (.goto off, 3)) (ht : (pc : Int) + off = (t : Int)) : am_Sim own bytes maxL ret R pc (o_goto t) := by
  intro p l e s m args below meth c G X q C hX als ast M ho H locs ls st hr
  obtain ⟨hx, hb, hml, hret, hlk, hown, hts, hK, hinj⟩ := C
  obtain ⟨hW, hS, hl, hst⟩ := hr
  exact lv_goto hx hb hd ht (hX _ _ _ _ ho _ _ _ _ ⟨hW, hS, hl, hst⟩)
theorem k_lt (x y : Int32) : x < y ↔ x.toInt < y.toInt := Int32.lt_iff_toInt_lt
theorem k_le (x y : Int32) : x ≤ y ↔ x.toInt ≤ y.toInt := Int32.le_iff_toInt_le
theorem k_eq (x y : Int32) : x = y ↔ x.toInt = y.toInt := Int32.toInt_inj.symm

theorem si_if_eq {off : Int} {t : Nat} (hd : decode bytes pc = .ok (.ifCond .eq off, 3)) (ht : (pc : Int) + off = (t : Int)) : am_Sim own bytes maxL ret R pc (o_if (fun a => a = 0) t (pc + 3)) := by
  intro p l e s m args below meth c G X q C hX als ast M ho H locs ls st hr
  obtain ⟨hx, hb, hml, hret, hlk, hown, hts, hK, hinj⟩ := C
  obtain ⟨hW, hS, hl, hst⟩ := hr
  unfold o_if at ho
  split at ho
  next x0 st0 =>
    obtain ⟨v, vs, rfl, h1, h2⟩ := rvs_c hst
    obtain ⟨x, rfl, rfl⟩ := rv_i h1
    exact lv_if_eq hx hb hd ht (fun h => (hX _ _ _ _ (ho.1 ((k_eq x 0).mp h)) _ _ _ _ ⟨hW, hS, hl, h2⟩)) (fun h => (hX _ _ _ _ (ho.2 (fun h0 => h ((k_eq x 0).mpr h0))) _ _ _ _ ⟨hW, hS, hl, h2⟩))
  next => exact ho.elim
theorem si_ic_eq {off : Int} {t : Nat} (hd : decode bytes pc = .ok (.if_icmp .eq off, 3)) (ht : (pc : Int) + off = (t : Int)) : am_Sim own bytes maxL ret R pc (o_ic (fun a b => a = b) t (pc + 3)) := by
  intro p l e s m args below meth c G X q C hX als ast M ho H locs ls st hr
  obtain ⟨hx, hb, hml, hret, hlk, hown, hts, hK, hinj⟩ := C
  obtain ⟨hW, hS, hl, hst⟩ := hr
  unfold o_ic at ho
  split at ho
  next y0 x0 st0 =>
    obtain ⟨v, vs, rfl, h1, h2⟩ := rvs_c hst
    obtain ⟨v2, vs2, rfl, h3, h4⟩ := rvs_c h2
    obtain ⟨y, rfl, rfl⟩ := rv_i h1
    obtain ⟨x, rfl, rfl⟩ := rv_i h3
    exact lv_icmp_eq hx hb hd ht (fun h => (hX _ _ _ _ (ho.1 ((k_eq x y).mp h)) _ _ _ _ ⟨hW, hS, hl, h4⟩)) (fun h => (hX _ _ _ _ (ho.2 (fun h0 => h ((k_eq x y).mpr h0))) _ _ _ _ ⟨hW, hS, hl, h4⟩))
  next => exact ho.elim
theorem si_if_ne {off : Int} {t : Nat} (hd : decode bytes pc = .ok (.ifCond .ne off, 3)) (ht : (pc : Int) + off = (t : Int)) : am_Sim own bytes maxL ret R pc (o_if (fun a => ¬ a = 0) t (pc + 3)) := by
  intro p l e s m args below meth c G X q C hX als ast M ho H locs ls st hr
  obtain ⟨hx, hb, hml, hret, hlk, hown, hts, hK, hinj⟩ := C
  obtain ⟨hW, hS, hl, hst⟩ := hr
  unfold o_if at ho
  split at ho
  next x0 st0 =>
    obtain ⟨v, vs, rfl, h1, h2⟩ := rvs_c hst
    obtain ⟨x, rfl, rfl⟩ := rv_i h1
    exact lv_if_ne hx hb hd ht (fun h => (hX _ _ _ _ (ho.1 (fun h0 => h ((k_eq x 0).mpr h0))) _ _ _ _ ⟨hW, hS, hl, h2⟩)) (fun h => (hX _ _ _ _ (ho.2 (fun h0 => h0 ((k_eq x 0).mp h))) _ _ _ _ ⟨hW, hS, hl, h2⟩))
  next => exact ho.elim
theorem si_ic_ne {off : Int} {t : Nat} (hd : decode bytes pc = .ok (.if_icmp .ne off, 3)) (ht : (pc : Int) + off = (t : Int)) : am_Sim own bytes maxL ret R pc (o_ic (fun a b => ¬ a = b) t (pc + 3)) := by
  intro p l e s m args below meth c G X q C hX als ast M ho H locs ls st hr
  obtain ⟨hx, hb, hml, hret, hlk, hown, hts, hK, hinj⟩ := C
  obtain ⟨hW, hS, hl, hst⟩ := hr
  unfold o_ic at ho
  split at ho
  next y0 x0 st0 =>
    obtain ⟨v, vs, rfl, h1, h2⟩ := rvs_c hst
    obtain ⟨v2, vs2, rfl, h3, h4⟩ := rvs_c h2
    obtain ⟨y, rfl, rfl⟩ := rv_i h1
    obtain ⟨x, rfl, rfl⟩ := rv_i h3
    exact lv_icmp_ne hx hb hd ht (fun h => (hX _ _ _ _ (ho.1 (fun h0 => h ((k_eq x y).mpr h0))) _ _ _ _ ⟨hW, hS, hl, h4⟩)) (fun h => (hX _ _ _ _ (ho.2 (fun h0 => h0 ((k_eq x y).mp h))) _ _ _ _ ⟨hW, hS, hl, h4⟩))
  next => exact ho.elim
theorem si_if_lt {off : Int} {t : Nat} (hd : decode bytes pc = .ok (.ifCond .lt off, 3)) (ht : (pc : Int) + off = (t : Int)) : am_Sim own bytes maxL ret R pc (o_if (fun a => a < 0) t (pc + 3)) := by
  intro p l e s m args below meth c G X q C hX als ast M ho H locs ls st hr
  obtain ⟨hx, hb, hml, hret, hlk, hown, hts, hK, hinj⟩ := C
  obtain ⟨hW, hS, hl, hst⟩ := hr
  unfold o_if at ho
  split at ho
  next x0 st0 =>
    obtain ⟨v, vs, rfl, h1, h2⟩ := rvs_c hst
    obtain ⟨x, rfl, rfl⟩ := rv_i h1
    exact lv_if_lt hx hb hd ht (fun h => (hX _ _ _ _ (ho.1 ((k_lt x 0).mp h)) _ _ _ _ ⟨hW, hS, hl, h2⟩)) (fun h => (hX _ _ _ _ (ho.2 (fun h0 => h ((k_lt x 0).mpr h0))) _ _ _ _ ⟨hW, hS, hl, h2⟩))
  next => exact ho.elim
theorem si_ic_lt {off : Int} {t : Nat} (hd : decode bytes pc = .ok (.if_icmp .lt off, 3)) (ht : (pc : Int) + off = (t : Int)) : am_Sim own bytes maxL ret R pc (o_ic (fun a b => a < b) t (pc + 3)) := by
  intro p l e s m args below meth c G X q C hX als ast M ho H locs ls st hr
  obtain ⟨hx, hb, hml, hret, hlk, hown, hts, hK, hinj⟩ := C
  obtain ⟨hW, hS, hl, hst⟩ := hr
  unfold o_ic at ho
  split at ho
  next y0 x0 st0 =>
    obtain ⟨v, vs, rfl, h1, h2⟩ := rvs_c hst
    obtain ⟨v2, vs2, rfl, h3, h4⟩ := rvs_c h2
    obtain ⟨y, rfl, rfl⟩ := rv_i h1
    obtain ⟨x, rfl, rfl⟩ := rv_i h3
    exact lv_icmp_lt hx hb hd ht (fun h => (hX _ _ _ _ (ho.1 ((k_lt x y).mp h)) _ _ _ _ ⟨hW, hS, hl, h4⟩)) (fun h => (hX _ _ _ _ (ho.2 (fun h0 => h ((k_lt x y).mpr h0))) _ _ _ _ ⟨hW, hS, hl, h4⟩))
  next => exact ho.elim
theorem si_if_ge {off : Int} {t : Nat} (hd : decode bytes pc = .ok (.ifCond .ge off, 3)) (ht : (pc : Int) + off = (t : Int)) : am_Sim own bytes maxL ret R pc (o_if (fun a => 0 ≤ a) t (pc + 3)) := by
  intro p l e s m args below meth c G X q C hX als ast M ho H locs ls st hr
  obtain ⟨hx, hb, hml, hret, hlk, hown, hts, hK, hinj⟩ := C
  obtain ⟨hW, hS, hl, hst⟩ := hr
  unfold o_if at ho
  split at ho
  next x0 st0 =>
    obtain ⟨v, vs, rfl, h1, h2⟩ := rvs_c hst
    obtain ⟨x, rfl, rfl⟩ := rv_i h1
    exact lv_if_ge hx hb hd ht (fun h => (hX _ _ _ _ (ho.1 ((k_le 0 x).mp h)) _ _ _ _ ⟨hW, hS, hl, h2⟩)) (fun h => (hX _ _ _ _ (ho.2 (fun h0 => h ((k_le 0 x).mpr h0))) _ _ _ _ ⟨hW, hS, hl, h2⟩))
  next => exact ho.elim
theorem si_ic_ge {off : Int} {t : Nat} (hd : decode bytes pc = .ok (.if_icmp .ge off, 3)) (ht : (pc : Int) + off = (t : Int)) : am_Sim own bytes maxL ret R pc (o_ic (fun a b => b ≤ a) t (pc + 3)) := by
  intro p l e s m args below meth c G X q C hX als ast M ho H locs ls st hr
  obtain ⟨hx, hb, hml, hret, hlk, hown, hts, hK, hinj⟩ := C
  obtain ⟨hW, hS, hl, hst⟩ := hr
  unfold o_ic at ho
  split at ho
  next y0 x0 st0 =>
    obtain ⟨v, vs, rfl, h1, h2⟩ := rvs_c hst
    obtain ⟨v2, vs2, rfl, h3, h4⟩ := rvs_c h2
    obtain ⟨y, rfl, rfl⟩ := rv_i h1
    obtain ⟨x, rfl, rfl⟩ := rv_i h3
    exact lv_icmp_ge hx hb hd ht (fun h => (hX _ _ _ _ (ho.1 ((k_le y x).mp h)) _ _ _ _ ⟨hW, hS, hl, h4⟩)) (fun h => (hX _ _ _ _ (ho.2 (fun h0 => h ((k_le y x).mpr h0))) _ _ _ _ ⟨hW, hS, hl, h4⟩))
  next => exact ho.elim
theorem si_if_gt {off : Int} {t : Nat} (hd : decode bytes pc = .ok (.ifCond .gt off, 3)) (ht : (pc : Int) + off = (t : Int)) : am_Sim own bytes maxL ret R pc (o_if (fun a => 0 < a) t (pc + 3)) := by
  intro p l e s m args below meth c G X q C hX als ast M ho H locs ls st hr
  obtain ⟨hx, hb, hml, hret, hlk, hown, hts, hK, hinj⟩ := C
  obtain ⟨hW, hS, hl, hst⟩ := hr
  unfold o_if at ho
  split at ho
  next x0 st0 =>
    obtain ⟨v, vs, rfl, h1, h2⟩ := rvs_c hst
    obtain ⟨x, rfl, rfl⟩ := rv_i h1
    exact lv_if_gt hx hb hd ht (fun h => (hX _ _ _ _ (ho.1 ((k_lt 0 x).mp h)) _ _ _ _ ⟨hW, hS, hl, h2⟩)) (fun h => (hX _ _ _ _ (ho.2 (fun h0 => h ((k_lt 0 x).mpr h0))) _ _ _ _ ⟨hW, hS, hl, h2⟩))
  next => exact ho.elim
theorem si_ic_gt {off : Int} {t : Nat} (hd : decode bytes pc = .ok (.if_icmp .gt off, 3)) (ht : (pc : Int) + off = (t : Int)) : am_Sim own bytes maxL ret R pc (o_ic (fun a b => b < a) t (pc + 3)) := by
  intro p l e s m args below meth c G X q C hX als ast M ho H locs ls st hr
  obtain ⟨hx, hb, hml, hret, hlk, hown, hts, hK, hinj⟩ := C
  obtain ⟨hW, hS, hl, hst⟩ := hr
  unfold o_ic at ho
  split at ho
  next y0 x0 st0 =>
    obtain ⟨v, vs, rfl, h1, h2⟩ := rvs_c hst
    obtain ⟨v2, vs2, rfl, h3, h4⟩ := rvs_c h2
    obtain ⟨y, rfl, rfl⟩ := rv_i h1
    obtain ⟨x, rfl, rfl⟩ := rv_i h3
    exact lv_icmp_gt hx hb hd ht (fun h => (hX _ _ _ _ (ho.1 ((k_lt y x).mp h)) _ _ _ _ ⟨hW, hS, hl, h4⟩)) (fun h => (hX _ _ _ _ (ho.2 (fun h0 => h ((k_lt y x).mpr h0))) _ _ _ _ ⟨hW, hS, hl, h4⟩))
  next => exact ho.elim
theorem si_if_le {off : Int} {t : Nat} (hd : decode bytes pc = .ok (.ifCond .le off, 3)) (ht : (pc : Int) + off = (t : Int)) : am_Sim own bytes maxL ret R pc (o_if (fun a => a ≤ 0) t (pc + 3)) := by
  intro p l e s m args below meth c G X q C hX als ast M ho H locs ls st hr
  obtain ⟨hx, hb, hml, hret, hlk, hown, hts, hK, hinj⟩ := C
  obtain ⟨hW, hS, hl, hst⟩ := hr
  unfold o_if at ho
  split at ho
  next x0 st0 =>
    obtain ⟨v, vs, rfl, h1, h2⟩ := rvs_c hst
    obtain ⟨x, rfl, rfl⟩ := rv_i h1
    exact lv_if_le hx hb hd ht (fun h => (hX _ _ _ _ (ho.1 ((k_le x 0).mp h)) _ _ _ _ ⟨hW, hS, hl, h2⟩)) (fun h => (hX _ _ _ _ (ho.2 (fun h0 => h ((k_le x 0).mpr h0))) _ _ _ _ ⟨hW, hS, hl, h2⟩))
  next => exact ho.elim
theorem si_ic_le {off : Int} {t : Nat} (hd : decode bytes pc = .ok (.if_icmp .le off, 3)) (ht : (pc : Int) + off = (t : Int)) : am_Sim own bytes maxL ret R pc (o_ic (fun a b => a ≤ b) t (pc + 3)) := by
  intro p l e s m args below meth c G X q C hX als ast M ho H locs ls st hr
  obtain ⟨hx, hb, hml, hret, hlk, hown, hts, hK, hinj⟩ := C
  obtain ⟨hW, hS, hl, hst⟩ := hr
  unfold o_ic at ho
  split at ho
  next y0 x0 st0 =>
    obtain ⟨v, vs, rfl, h1, h2⟩ := rvs_c hst
    obtain ⟨v2, vs2, rfl, h3, h4⟩ := rvs_c h2
    obtain ⟨y, rfl, rfl⟩ := rv_i h1
    obtain ⟨x, rfl, rfl⟩ := rv_i h3
    exact lv_icmp_le hx hb hd ht (fun h => (hX _ _ _ _ (ho.1 ((k_le x y).mp h)) _ _ _ _ ⟨hW, hS, hl, h4⟩)) (fun h => (hX _ _ _ _ (ho.2 (fun h0 => h ((k_le x y).mpr h0))) _ _ _ _ ⟨hW, hS, hl, h4⟩))
  next => exact ho.elim
theorem si_ifnull {off : Int} {t : Nat} (hd : decode bytes pc = .ok (.ifnull off, 3)) (ht : (pc : Int) + off = (t : Int)) : am_Sim own bytes maxL ret R pc (o_nul t (pc + 3)) := by
  intro p l e s m args below meth c G X q C hX als ast M ho H locs ls st hr
  obtain ⟨hx, hb, hml, hret, hlk, hown, hts, hK, hinj⟩ := C
  obtain ⟨hW, hS, hl, hst⟩ := hr
  unfold o_nul at ho
  split at ho
  next st0 =>
    obtain ⟨v, vs, rfl, h1, h2⟩ := rvs_c hst
    obtain rfl := rv_n h1
    exact lv_ifnullN hx hb hd ht (hX _ _ _ _ ho _ _ _ _ ⟨hW, hS, hl, h2⟩)
  next x0 st0 =>
    obtain ⟨v, vs, rfl, h1, h2⟩ := rvs_c hst
    obtain rfl := rv_r h1
    exact lv_ifnull hx hb hd (hX _ _ _ _ ho _ _ _ _ ⟨hW, hS, hl, h2⟩)
  next => exact ho.elim
theorem si_ifnonnull {off : Int} {t : Nat} (hd : decode bytes pc = .ok (.ifnonnull off, 3)) (ht : (pc : Int) + off = (t : Int)) : am_Sim own bytes maxL ret R pc (o_nul (pc + 3) t) := by
  intro p l e s m args below meth c G X q C hX als ast M ho H locs ls st hr
  obtain ⟨hx, hb, hml, hret, hlk, hown, hts, hK, hinj⟩ := C
  obtain ⟨hW, hS, hl, hst⟩ := hr
  unfold o_nul at ho
  split at ho
  next st0 =>
    obtain ⟨v, vs, rfl, h1, h2⟩ := rvs_c hst
    obtain rfl := rv_n h1
    exact lv_ifnonnullN hx hb hd (hX _ _ _ _ ho _ _ _ _ ⟨hW, hS, hl, h2⟩)
  next x0 st0 =>
    obtain ⟨v, vs, rfl, h1, h2⟩ := rvs_c hst
    obtain rfl := rv_r h1
    exact lv_ifnonnull hx hb hd ht (hX _ _ _ _ ho _ _ _ _ ⟨hW, hS, hl, h2⟩)
  next => exact ho.elim
end SIM
end
section
/-! switches, fields, arrays, calls, returns; a method out of its operations -/
def am_Sound (y : MethodName) (bytes : ByteArray) (maxL : Nat) (ret : Option FieldType) (fr lo : Nat) (S : am_E) : Prop :=
  ∀ (l : Launch) (G : am_G) (as : List am_V) (vs : List Value) (M : am_M) (q : am_Q), am_inj G → am_rvs G.2.1 as vs → S as M q →
    Met l y (Cond.code y bytes maxL ret :: lw_g) ({ frames := fr, cells := 0, slots := 0, locals := lo } : Room) (va_Pc vs (fun U => am_W G M U.heap ∧ va_K G.1 am_cl (am_tys G) U)) (am_Qc G ret q) 0 0 (am_A G)
theorem lw_goodIn {w : Cond} (h : w ∈ lw_g) : GoodIn lw_g (w :: lw_g) := by
  intro u hu
  have hm : u ∈ lw_g := by
    rcases List.mem_cons.mp hu with rfl | h1
    · exact h
    · exact h1
  exact ⟨hm, good_of_word (List.mem_filter.mp hm).2⟩
theorem fk_spec {o ci f c : Nat} (h : am_fk o ci f = some c) : ∃ fs, am_kd o = .inl (ci, fs) ∧ fs[f]? = some c := by
  unfold am_fk at h
  split at h
  next c1 fs hk =>
    split at h
    next e =>
      subst e
      exact ⟨fs, hk, h⟩
    next => cases h
  next => cases h
theorem isC_spec {o ci : Nat} (h : am_isC o ci = true) : ∃ fs, am_kd o = .inl (ci, fs) := by
  unfold am_isC at h
  split at h
  next c1 fs hk =>
    have : c1 = ci := by simpa using h
    subst this
    exact ⟨fs, hk⟩
  next => cases h
theorem al_spec {o k N : Nat} (h : am_al o k = some N) : am_kd o = .inr (k, N) := by
  unfold am_al at h
  split at h
  next => cases h
  next c1 n1 hk =>
    split at h
    next e =>
      subst e
      cases h
      exact hk
    next => cases h
theorem wd_f {o ci f c : Nat} {fs : List Nat} (hk : am_kd o = .inl (ci, fs)) (hf : fs[f]? = some c) : am_wide o f = (c == 1) := by
  unfold am_wide
  rw [hk]
  simp [List.getD_eq_getElem?_getD, hf]
theorem wd_a {o k N j : Nat} (hk : am_kd o = .inr (k, N)) : am_wide o j = (k == 1) := by
  unfold am_wide
  rw [hk]
theorem ok_i {M : am_M} (h : am_ok M) {o j : Nat} (hw : am_wide o j = false) : (Int32.ofInt (M o j)).toInt = M o j := by
  have h1 := h o j
  rw [hw] at h1
  have h2 : -2147483648 ≤ M o j ∧ M o j < 2147483648 := h1
  exact Int32.toInt_ofInt_of_le h2.1 h2.2
theorem ok_l {M : am_M} (h : am_ok M) {o j : Nat} (hw : am_wide o j = true) : (Int64.ofInt (M o j)).toInt = M o j := by
  have h1 := h o j
  rw [hw] at h1
  have h2 : -9223372036854775808 ≤ M o j ∧ M o j < 9223372036854775808 := h1
  exact Int64.toInt_ofInt_of_le h2.1 h2.2
theorem ok_upI {M : am_M} (h : am_ok M) {o j : Nat} (hw : am_wide o j = false) (x : Int32) : am_ok (am_up M o j x.toInt) :=
  ok_up h (by rw [hw]; exact ⟨i32_lo x, i32_hi x⟩)
theorem ok_upL {M : am_M} (h : am_ok M) {o j : Nat} (hw : am_wide o j = true) (x : Int64) : am_ok (am_up M o j x.toInt) :=
  ok_up h (by rw [hw]; exact ⟨i64_lo x, i64_hi x⟩)
theorem tab_le : am_tab.all (fun d => match d with | .inr (_, n) => Nat.ble n 256 | .inl _ => true) = true := by decide +kernel
theorem kd_le {o k N : Nat} (h : am_kd o = .inr (k, N)) : N ≤ 256 := by
  unfold am_kd at h
  rw [List.getD_eq_getElem?_getD] at h
  cases e : am_tab[o]? with
  | none => rw [e] at h; cases h; omega
  | some d =>
    rw [e] at h
    have h1 := List.all_eq_true.mp tab_le d (List.mem_of_getElem? e)
    have h2 : d = .inr (k, N) := h
    rw [h2] at h1
    exact Nat.le_of_ble_eq_true h1
section SIM
variable {own : String} {bytes : ByteArray} {maxL : Nat} {ret : Option FieldType} {R : Room} {pc : Nat}
theorem si_tsw {dflt lo hi : Int} {offs : Array Int} {len d : Nat} {ts : List Nat} (hd : decode bytes pc = .ok (.tableswitch dflt lo hi offs, len)) (h0 : (pc : Int) + dflt = (d : Int)) (h1 : offs.toList.map (fun o => (pc : Int) + o) = ts.map Int.ofNat) (h2 : (ts.length : Int) = hi - lo + 1) : am_Sim own bytes maxL ret R pc (o_tsw lo hi ts d) := by
  intro p l e s m args below meth c G X q C hX als ast M ho H locs ls st hr
  obtain ⟨hx, hb, hml, hret, hlk, hown, hts, hK, hinj⟩ := C
  obtain ⟨hW, hS, hl, hst⟩ := hr
  unfold o_tsw at ho
  split at ho
  next x0 st0 =>
    obtain ⟨v, vs, rfl, h3, h4⟩ := rvs_c hst
    obtain ⟨x, rfl, rfl⟩ := rv_i h3
    unfold am_tgt at ho
    by_cases hc : x.toInt < lo ∨ hi < x.toInt
    · rw [if_pos hc] at ho
      exact lv_tableOut hx hb hd hc h0 (hX _ _ _ _ ho _ _ _ _ ⟨hW, hS, hl, h4⟩)
    · rw [if_neg hc] at ho
      have hlt : (x.toInt - lo).toNat < ts.length := by omega
      have h5 : (offs.toList.map (fun o => (pc : Int) + o))[(x.toInt - lo).toNat]? = some (Int.ofNat (ts.getD (x.toInt - lo).toNat d)) := by
        rw [h1, List.getElem?_map, List.getD_eq_getElem?_getD, List.getElem?_eq_getElem hlt]
        rfl
      rw [List.getElem?_map, Array.getElem?_toList] at h5
      cases e : offs[(x.toInt - lo).toNat]? with
      | none => rw [e] at h5; cases h5
      | some off =>
        rw [e] at h5
        exact lv_tableIn hx hb hd (fun h => hc (Or.inl h)) (fun h => hc (Or.inr h)) e (Option.some.inj h5) (hX _ _ _ _ ho _ _ _ _ ⟨hW, hS, hl, h4⟩)
  next => exact ho.elim
theorem lsw_off (pc d : Nat) (dflt : Int) (h0 : (pc : Int) + dflt = (d : Int)) (v : Int) : ∀ (ps : List (Int × Int)) (ts : List (Int × Nat)), ps.map (fun q => (q.1, (pc : Int) + q.2)) = ts.map (fun q => (q.1, Int.ofNat q.2)) → (pc : Int) + Op.lookupswitch.offset ps dflt v = (am_ltg v d ts : Int)
  | [], [], _ => by rw [Op.lookupswitch.offset_nil]; exact h0
  | [], _ :: _, h => by cases h
  | _ :: _, [], h => by cases h
  | (a, o) :: ps, (b, t) :: ts, h => by
    simp only [List.map_cons, List.cons.injEq, Prod.mk.injEq] at h
    obtain ⟨⟨rfl, h1⟩, h2⟩ := h
    rw [Op.lookupswitch.offset_cons]
    unfold am_ltg
    by_cases e : v = a
    · subst e
      rw [if_pos rfl]
      split
      next => exact h1
      next hne => exact absurd rfl (by first | exact hne | (intro _; exact hne rfl))
    · rw [if_neg e]
      split
      next he => exact absurd (by first | exact he | exact he.symm) e
      next => exact lsw_off pc d dflt h0 v ps ts h2
theorem si_lsw {dflt : Int} {ps : Array (Int × Int)} {len d : Nat} {ts : List (Int × Nat)} (hd : decode bytes pc = .ok (.lookupswitch dflt ps, len)) (h0 : (pc : Int) + dflt = (d : Int)) (hp : (ps.toList.zip (ps.toList.drop 1)).all (fun (a, next) => a.1 < next.1) = true) (h1 : ps.toList.map (fun q => (q.1, (pc : Int) + q.2)) = ts.map (fun q => (q.1, Int.ofNat q.2))) : am_Sim own bytes maxL ret R pc (o_lsw ts d) := by
  intro p l e s m args below meth c G X q C hX als ast M ho H locs ls st hr
  obtain ⟨hx, hb, hml, hret, hlk, hown, hts, hK, hinj⟩ := C
  obtain ⟨hW, hS, hl, hst⟩ := hr
  unfold o_lsw at ho
  split at ho
  next x0 st0 =>
    obtain ⟨v, vs, rfl, h3, h4⟩ := rvs_c hst
    obtain ⟨x, rfl, rfl⟩ := rv_i h3
    exact lv_lookup hx hb hd hp rfl (lsw_off pc d dflt h0 x.toInt _ _ h1) (hX _ _ _ _ ho _ _ _ _ ⟨hW, hS, hl, h4⟩)
  next => exact ho.elim
theorem si_getf {C : String} {T : u_T} {N ci f i : Nat} (hd : decode bytes pc = .ok (.getfield i, 3)) (hc : am_cl[ci]? = some (C, T, N)) (hin : ∀ w ∈ u_ws C T N, w ∈ lw_g) (hf : Nat.ble (f + 1) N = true) (hlink : Cond.fieldLink own i (T f).1 (T f).2.1 (T f).2.2.1 ∈ lw_g) : am_Sim own bytes maxL ret R pc (o_getf ci f (pc + 3)) := by
  intro p l e s m args below meth c G X q C hX als ast M ho H locs ls st hr
  obtain ⟨hx, hb, hml, hret, hlk, hown, hts, hK, hinj⟩ := C
  obtain ⟨hW, hS, hl, hst⟩ := hr
  unfold o_getf at ho
  split at ho
  next o st0 =>
    obtain ⟨v, vs, rfl, h3, h4⟩ := rvs_c hst
    obtain rfl := rv_r h3
    have key : ∀ (c0 : Nat) (w : Value), am_fk o ci f = some c0 → am_fv G.2.1 (M o f) c0 = w → W p l e R s m args below meth c H locs 0 0 (MQ below (am_Qc G ret q) args s 0 0 (am_A G)) (F0 m (pc + 3) ls (w :: vs)) → W p l e R s m args below meth c H locs 0 0 (MQ below (am_Qc G ret q) args s 0 0 (am_A G)) (F0 m pc ls (.ref (G.2.1 o) :: vs)) := by
      intro c0 w hk hw kk
      obtain ⟨fs, k1, k2⟩ := fk_spec hk
      have hlt : o < am_N := kd_lt k1 (by simp)
      have he := wl_at G M hlt
      rw [k1] at he
      exact va_get hx hb hts hin hown hK hW.2 o he hc f (Nat.le_of_ble_eq_true hf) (hts _ hlink) (fun _ h => h) (by rw [fvs_at, k2, Nat.zero_add, ← hw]; rfl) hd kk
    split at ho
    next hk =>
      obtain ⟨fs, k1, k2⟩ := fk_spec hk
      exact key 0 _ hk rfl (hX _ _ _ _ ho _ _ _ _ ⟨hW, hS, hl, ok_i hW.1 (wd_f k1 k2), h4⟩)
    next hk =>
      obtain ⟨fs, k1, k2⟩ := fk_spec hk
      exact key 1 _ hk rfl (hX _ _ _ _ ho _ _ _ _ ⟨hW, hS, hl, ok_l hW.1 (wd_f k1 k2), h4⟩)
    next t hk => exact key (t + 2) _ hk rfl (hX _ _ _ _ ho _ _ _ _ ⟨hW, hS, hl, rfl, h4⟩)
    next => exact ho.elim
  next => exact ho.elim
theorem si_put_core {p : Program} {l : Launch} {e : Env} {s : State} {m : MethodId} {args : Array Value} {below : List Frame} {meth : Method} {c : Code} {G : am_G} {q : am_Q} {M : am_M} {H : Heap} {locs : List Loc} {ls : Array Slot} {vs : List Value} {C : String} {T : u_T} {N ci f i o c0 : Nat} {x : Int} {v : Value} {ty : FieldType}
    (hC : am_Cx G own bytes maxL ret p s m args meth c) (hd : decode bytes pc = .ok (.putfield i, 3)) (hc : am_cl[ci]? = some (C, T, N)) (hin : ∀ w ∈ u_ws C T N, w ∈ lw_g) (ty0 : Nat → FieldType) (hty : ∀ k, k < N → parseFieldDescriptor (T k).2.2.1 = some (ty0 k)) (hnm : ∀ a, a < N → ∀ b, b < N → a ≠ b → (T a).2.1 ≠ (T b).2.1) (hf : Nat.ble (f + 1) N = true) (hlink : Cond.fieldLink own i (T f).1 (T f).2.1 (T f).2.2.1 ∈ lw_g) (hfin : (T f).2.2.2 = false)
    (hk : am_fk o ci f = some c0) (hc0 : c0 < 2) (hv : am_fv G.2.1 x c0 = v) (hdd : parseFieldDescriptor (T f).2.2.1 = some ty) (hn : narrow ty v = v) (hfit : fits ty v = true) (hok : am_ok (am_up M o f x)) (hW : am_W G M H) (hS : va_S (am_A G) s.heap H locs)
    (kk : ∀ (H1 : Heap) (locs1 : List Loc), am_W G (am_up M o f x) H1 → va_S (am_A G) s.heap H1 locs1 → W p l e R s m args below meth c H1 locs1 0 0 (MQ below (am_Qc G ret q) args s 0 0 (am_A G)) (F0 m (pc + 3) ls vs)) :
    W p l e R s m args below meth c H locs 0 0 (MQ below (am_Qc G ret q) args s 0 0 (am_A G)) (F0 m pc ls (v :: .ref (G.2.1 o) :: vs)) := by
  obtain ⟨hx, hb, hml, hret, hlk, hown, hts, hK, hinj⟩ := hC
  obtain ⟨fs, k1, k2⟩ := fk_spec hk
  have hlt : o < am_N := kd_lt k1 (by simp)
  have he := wl_at G M hlt
  rw [k1] at he
  refine va_put hx hb hts hin ty0 hty hnm hown hK hW.2 (wl_D hinj M) hS o he hc f (Nat.le_of_ble_eq_true hf) (hts _ hlink) (fun _ h => h) hfin hdd hn hfit (by rw [fvs_len]; exact (List.getElem?_eq_some_iff.mp k2).1) hd (fun H1 locs1 hP hD hS1 => kk H1 locs1 ⟨hok, ?_⟩ hS1)
  rw [← hv, fvs_set G.2.1 (M o) fs x k2 hc0] at hP
  have e1 : am_cell G (am_set (M o) f x) (am_kd o) = .inr (ci, am_fvs G.2.1 (am_set (M o) f x) 0 fs) := by rw [k1]; rfl
  rw [← e1, wl_set G M hlt, ← up_ob] at hP
  exact hP
theorem si_putI {C : String} {T : u_T} {N ci f i : Nat} (hd : decode bytes pc = .ok (.putfield i, 3)) (hc : am_cl[ci]? = some (C, T, N)) (hin : ∀ w ∈ u_ws C T N, w ∈ lw_g) (ty0 : Nat → FieldType) (hty : ∀ k, k < N → parseFieldDescriptor (T k).2.2.1 = some (ty0 k)) (hnm : ∀ a, a < N → ∀ b, b < N → a ≠ b → (T a).2.1 ≠ (T b).2.1) (hf : Nat.ble (f + 1) N = true) (hlink : Cond.fieldLink own i (T f).1 (T f).2.1 (T f).2.2.1 ∈ lw_g) (hfin : (T f).2.2.2 = false) (hd2 : parseFieldDescriptor (T f).2.2.1 = some .int) : am_Sim own bytes maxL ret R pc (o_putI ci f (pc + 3)) := by
  intro p l e s m args below meth c G X q C hX als ast M ho H locs ls st hr
  have hC := C
  obtain ⟨hW, hS, hl, hst⟩ := hr
  unfold o_putI at ho
  split at ho
  next x0 o st0 =>
    obtain ⟨v, vs, rfl, h1, h2⟩ := rvs_c hst
    obtain ⟨v2, vs2, rfl, h3, h4⟩ := rvs_c h2
    obtain ⟨x, rfl, rfl⟩ := rv_i h1
    obtain rfl := rv_r h3
    obtain ⟨hk, ho⟩ := ho
    obtain ⟨fs, k1, k2⟩ := fk_spec hk
    exact si_put_core hC hd hc hin ty0 hty hnm hf hlink hfin hk (by omega) (show Value.int (Int32.ofInt x.toInt) = .int x by rw [Int32.ofInt_toInt]) hd2 rfl rfl (ok_upI hW.1 (wd_f k1 k2) x) hW hS (fun H1 locs1 hW1 hS1 => hX _ _ _ _ ho _ _ _ _ ⟨hW1, hS1, hl, h4⟩)
  next => exact ho.elim
theorem si_putL {C : String} {T : u_T} {N ci f i : Nat} (hd : decode bytes pc = .ok (.putfield i, 3)) (hc : am_cl[ci]? = some (C, T, N)) (hin : ∀ w ∈ u_ws C T N, w ∈ lw_g) (ty0 : Nat → FieldType) (hty : ∀ k, k < N → parseFieldDescriptor (T k).2.2.1 = some (ty0 k)) (hnm : ∀ a, a < N → ∀ b, b < N → a ≠ b → (T a).2.1 ≠ (T b).2.1) (hf : Nat.ble (f + 1) N = true) (hlink : Cond.fieldLink own i (T f).1 (T f).2.1 (T f).2.2.1 ∈ lw_g) (hfin : (T f).2.2.2 = false) (hd2 : parseFieldDescriptor (T f).2.2.1 = some .long) : am_Sim own bytes maxL ret R pc (o_putL ci f (pc + 3)) := by
  intro p l e s m args below meth c G X q C hX als ast M ho H locs ls st hr
  have hC := C
  obtain ⟨hW, hS, hl, hst⟩ := hr
  unfold o_putL at ho
  split at ho
  next x0 o st0 =>
    obtain ⟨v, vs, rfl, h1, h2⟩ := rvs_c hst
    obtain ⟨v2, vs2, rfl, h3, h4⟩ := rvs_c h2
    obtain ⟨x, rfl, rfl⟩ := rv_l h1
    obtain rfl := rv_r h3
    obtain ⟨hk, ho⟩ := ho
    obtain ⟨fs, k1, k2⟩ := fk_spec hk
    exact si_put_core hC hd hc hin ty0 hty hnm hf hlink hfin hk (by omega) (show Value.long (Int64.ofInt x.toInt) = .long x by rw [Int64.ofInt_toInt]) hd2 rfl rfl (ok_upL hW.1 (wd_f k1 k2) x) hW hS (fun H1 locs1 hW1 hS1 => hX _ _ _ _ ho _ _ _ _ ⟨hW1, hS1, hl, h4⟩)
  next => exact ho.elim
theorem si_iald (hd : decode bytes pc = .ok (.iaload, 1)) : am_Sim own bytes maxL ret R pc (o_iald (pc + 1)) := by
  intro p l e s m args below meth c G X q C hX als ast M ho H locs ls st hr
  obtain ⟨hx, hb, hml, hret, hlk, hown, hts, hK, hinj⟩ := C
  obtain ⟨hW, hS, hl, hst⟩ := hr
  unfold o_iald at ho
  split at ho
  next i0 o st0 =>
    obtain ⟨v, vs, rfl, h1, h2⟩ := rvs_c hst
    obtain ⟨v2, vs2, rfl, h3, h4⟩ := rvs_c h2
    obtain ⟨i, rfl, rfl⟩ := rv_i h1
    obtain rfl := rv_r h3
    obtain ⟨⟨N, ha, b1, b2⟩, ho⟩ := ho
    have k1 := al_spec ha
    have hlt : o < am_N := kd_lt k1 (by simp; omega)
    have he := wl_at G M hlt
    rw [k1] at he
    exact va_iald hx hb hK hW.2 o 0 he rfl (n_idx b1 b2) hd (hX _ _ _ _ ho _ _ _ _ ⟨hW, hS, hl, ok_i hW.1 (wd_a k1), h4⟩)
  next => exact ho.elim
theorem si_lald (hd : decode bytes pc = .ok (.laload, 1)) : am_Sim own bytes maxL ret R pc (o_lald (pc + 1)) := by
  intro p l e s m args below meth c G X q C hX als ast M ho H locs ls st hr
  obtain ⟨hx, hb, hml, hret, hlk, hown, hts, hK, hinj⟩ := C
  obtain ⟨hW, hS, hl, hst⟩ := hr
  unfold o_lald at ho
  split at ho
  next i0 o st0 =>
    obtain ⟨v, vs, rfl, h1, h2⟩ := rvs_c hst
    obtain ⟨v2, vs2, rfl, h3, h4⟩ := rvs_c h2
    obtain ⟨i, rfl, rfl⟩ := rv_i h1
    obtain rfl := rv_r h3
    obtain ⟨⟨N, ha, b1, b2⟩, ho⟩ := ho
    have k1 := al_spec ha
    have hlt : o < am_N := kd_lt k1 (by simp)
    have he := wl_at G M hlt
    rw [k1] at he
    exact va_lald hx hb hK hW.2 o 1 he rfl (n_idx b1 b2) hd (hX _ _ _ _ ho _ _ _ _ ⟨hW, hS, hl, ok_l hW.1 (wd_a k1), h4⟩)
  next => exact ho.elim
theorem si_aald (hd : decode bytes pc = .ok (.aaload, 1)) : am_Sim own bytes maxL ret R pc (o_aald (pc + 1)) := by
  intro p l e s m args below meth c G X q C hX als ast M ho H locs ls st hr
  obtain ⟨hx, hb, hml, hret, hlk, hown, hts, hK, hinj⟩ := C
  obtain ⟨hW, hS, hl, hst⟩ := hr
  unfold o_aald at ho
  split at ho
  next i0 o st0 =>
    obtain ⟨v, vs, rfl, h1, h2⟩ := rvs_c hst
    obtain ⟨v2, vs2, rfl, h3, h4⟩ := rvs_c h2
    obtain ⟨i, rfl, rfl⟩ := rv_i h1
    obtain rfl := rv_r h3
    split at ho
    next b N k1 =>
      obtain ⟨⟨b1, b2⟩, ho⟩ := ho
      have hlt : o < am_N := kd_lt k1 (by simp)
      have he := wl_at G M hlt
      rw [k1] at he
      exact va_aldq hx hb hK hW.2 o 2 he rfl (n_idx b1 b2) hd (hX _ _ _ _ ho _ _ _ _ ⟨hW, hS, hl, rfl, h4⟩)
    next => exact ho.elim
  next => exact ho.elim
theorem si_iast (hd : decode bytes pc = .ok (.iastore, 1)) : am_Sim own bytes maxL ret R pc (o_iast (pc + 1)) := by
  intro p l e s m args below meth c G X q C hX als ast M ho H locs ls st hr
  obtain ⟨hx, hb, hml, hret, hlk, hown, hts, hK, hinj⟩ := C
  obtain ⟨hW, hS, hl, hst⟩ := hr
  unfold o_iast at ho
  split at ho
  next x0 i0 o st0 =>
    obtain ⟨v, vs, rfl, h1, h2⟩ := rvs_c hst
    obtain ⟨v2, vs2, rfl, h3, h4⟩ := rvs_c h2
    obtain ⟨v3, vs3, rfl, h5, h6⟩ := rvs_c h4
    obtain ⟨x, rfl, rfl⟩ := rv_i h1
    obtain ⟨i, rfl, rfl⟩ := rv_i h3
    obtain rfl := rv_r h5
    obtain ⟨⟨N, ha, b1, b2⟩, ho⟩ := ho
    have k1 := al_spec ha
    have hlt : o < am_N := kd_lt k1 (by simp; omega)
    have he := wl_at G M hlt
    rw [k1] at he
    refine va_iast hx hb hK hW.2 (wl_D hinj M) hS o 0 he rfl (n_idx b1 b2) hd (fun H1 locs1 hP hD hS1 => hX _ _ _ _ ho _ _ _ _ ⟨⟨ok_upI hW.1 (wd_a k1) x, ?_⟩, hS1, hl, h6⟩)
    have e1 : am_cell G (am_set (M o) i.toInt.toNat x.toInt) (am_kd o) = .inl (G.2.2.1, N, .inl (upd (fun j => Int32.ofInt (M o j)) i.toNatClampNeg x)) := by
      rw [k1]
      show (Sum.inl (G.2.2.1, N, Sum.inl (fun j => Int32.ofInt (am_set (M o) i.toInt.toNat x.toInt j))) : va_E) = _
      congr 4
      funext j
      unfold am_set upd
      rw [n_clamp]
      split
      · rw [Int32.ofInt_toInt]
      · rfl
    rw [← e1, wl_set G M hlt, ← up_ob] at hP
    exact hP
  next => exact ho.elim
theorem si_last (hd : decode bytes pc = .ok (.lastore, 1)) : am_Sim own bytes maxL ret R pc (o_last (pc + 1)) := by
  intro p l e s m args below meth c G X q C hX als ast M ho H locs ls st hr
  obtain ⟨hx, hb, hml, hret, hlk, hown, hts, hK, hinj⟩ := C
  obtain ⟨hW, hS, hl, hst⟩ := hr
  unfold o_last at ho
  split at ho
  next x0 i0 o st0 =>
    obtain ⟨v, vs, rfl, h1, h2⟩ := rvs_c hst
    obtain ⟨v2, vs2, rfl, h3, h4⟩ := rvs_c h2
    obtain ⟨v3, vs3, rfl, h5, h6⟩ := rvs_c h4
    obtain ⟨x, rfl, rfl⟩ := rv_l h1
    obtain ⟨i, rfl, rfl⟩ := rv_i h3
    obtain rfl := rv_r h5
    obtain ⟨⟨N, ha, b1, b2⟩, ho⟩ := ho
    have k1 := al_spec ha
    have hlt : o < am_N := kd_lt k1 (by simp)
    have he := wl_at G M hlt
    rw [k1] at he
    refine va_last hx hb hK hW.2 (wl_D hinj M) hS o 1 he rfl (n_idx b1 b2) hd (fun H1 locs1 hP hD hS1 => hX _ _ _ _ ho _ _ _ _ ⟨⟨ok_upL hW.1 (wd_a k1) x, ?_⟩, hS1, hl, h6⟩)
    have e1 : am_cell G (am_set (M o) i.toInt.toNat x.toInt) (am_kd o) = .inl (G.2.2.2.1, N, .inr (.inl (vp_updL (fun j => Int64.ofInt (M o j)) i.toNatClampNeg x))) := by
      rw [k1]
      show (Sum.inl (G.2.2.2.1, N, Sum.inr (Sum.inl (fun j => Int64.ofInt (am_set (M o) i.toInt.toNat x.toInt j)))) : va_E) = _
      congr 5
      funext j
      unfold am_set vp_updL
      rw [n_clamp]
      split
      · rw [Int64.ofInt_toInt]
      · rfl
    rw [← e1, wl_set G M hlt, ← up_ob] at hP
    exact hP
  next => exact ho.elim
theorem si_alen (hd : decode bytes pc = .ok (.arraylength, 1)) : am_Sim own bytes maxL ret R pc (o_alen (pc + 1)) := by
  intro p l e s m args below meth c G X q C hX als ast M ho H locs ls st hr
  obtain ⟨hx, hb, hml, hret, hlk, hown, hts, hK, hinj⟩ := C
  obtain ⟨hW, hS, hl, hst⟩ := hr
  unfold o_alen at ho
  split at ho
  next o st0 =>
    obtain ⟨v, vs, rfl, h1, h2⟩ := rvs_c hst
    obtain rfl := rv_r h1
    have nn : ∀ N : Nat, N ≤ 256 → (Int32.ofNat N).toInt = (N : Int) := fun N h => Int32.toInt_ofNat_of_lt (by omega)
    split at ho
    next N k1 =>
      have hlt : o < am_N := kd_lt k1 (by simp; omega)
      have he := wl_at G M hlt
      rw [k1] at he
      exact va_alen hx hb hK hW.2 o 0 he (ty := .int) rfl rfl hd (hX _ _ _ _ ho.2 _ _ _ _ ⟨hW, hS, hl, nn N (kd_le k1), h2⟩)
    next N k1 =>
      have hlt : o < am_N := kd_lt k1 (by simp)
      have he := wl_at G M hlt
      rw [k1] at he
      exact va_alen hx hb hK hW.2 o 1 he (ty := .long) rfl rfl hd (hX _ _ _ _ ho.2 _ _ _ _ ⟨hW, hS, hl, nn N (kd_le k1), h2⟩)
    next => exact ho.elim
  next => exact ho.elim
end SIM
end
section
/-! the native copy, calls, returns; a method out of its operations -/
theorem ok_ob {M : am_M} (h : am_ok M) {a b : Nat} {n0 n1 k : Nat} (ha : am_kd a = .inr (k, n0)) (hb : am_kd b = .inr (k, n1)) (sp dp n : Nat) : am_ok (am_ob M b (am_cpy (M a) (M b) sp dp n)) := by
  intro p i
  unfold am_ob
  by_cases e : p = b
  · subst e
    rw [if_pos rfl]
    unfold am_cpy
    rw [wd_a hb]
    by_cases e2 : dp ≤ i ∧ i < dp + n
    · have := h a (sp + (i - dp))
      rw [wd_a ha] at this
      rw [if_pos e2]
      exact this
    · have := h p i
      rw [wd_a hb] at this
      rw [if_neg e2]
      exact this
  · rw [if_neg e]
    exact h p i
theorem n_tc {x : Int32} (_h : 0 ≤ x.toInt) : x.toNatClampNeg = x.toInt.toNat := rfl
theorem n_nn {x : Int32} (h : 0 ≤ x.toInt) : ¬ x < 0 := fun h1 => by have := (k_lt x 0).mp h1; rw [Int32.toInt_zero] at this; omega
/-- the call as the kit has it, its end as ours -/
theorem am_ret {p : Program} {l : Launch} {e : Env} {R : Room} {s : State} {m : MethodId} {args : Array Value} {below : List Frame} {meth : Method} {c : Code} {G : am_G} {q : am_Q} {H : Heap} {locs : List Loc} {ls : Array Slot} {st0 rest : List Value} {a : Array Value} {pc : Nat} {zret ret : Option FieldType} {P : am_Q}
    (hr : va_Run p l e R s m args below meth c H locs 0 0 0 0 (F0 m pc ls st0) rest (am_Qc G zret P a) (am_A G)) (hS : va_S (am_A G) s.heap H locs)
    (kk : ∀ (r : am_V) (M' : am_M) (v : Option Value) (H1 : Heap) (locs1 : List Loc), P r M' → am_out G.2.1 zret r (.returned v) → am_W G M' H1 → va_S (am_A G) s.heap H1 locs1 → W p l e R s m args below meth c H1 locs1 0 0 (MQ below (am_Qc G ret q) args s 0 0 (am_A G)) (F0 m (pc + 3) ls (v.toList ++ rest))) :
    W p l e R s m args below meth c H locs 0 0 (MQ below (am_Qc G ret q) args s 0 0 (am_A G)) (F0 m pc ls st0) := by
  intro T hT X
  obtain ⟨v, st₀, t, T', L, h0, X', hL, e1, e2, ⟨⟨r, M', hq, hout, hW', hK'⟩, hz, hk⟩, st⟩ := hr T hT X
  rw [h0] at hz hk
  obtain ⟨t2, a1, b1⟩ := kk r M' v T'.heap (locs ++ L) hq hout (by rw [e1]; exact hW')
    ⟨Nat.le_trans hS.1 (by rw [e1]; exact hz), fun x h1 h2 => by rw [e1, hk x (Nat.lt_of_lt_of_le h1 hS.1) h2]; exact hS.2.1 x h1 h2, fun x hx => by
      rcases List.mem_append.mp hx with h | h
      · exact hS.2.2 x h
      · exact hL x h⟩ T' rfl X'
  exact ⟨t2, st t2 a1, b1⟩
theorem out_push {al : Nat → Nat} {zret : Option FieldType} {r : am_V} {v : Option Value} {as : List am_V} {vs : List Value} (h : am_out al zret r (.returned v)) (hr : am_rvs al as vs) : am_rvs al (am_push zret.isNone r as) (v.toList ++ vs) := by
  cases zret with
  | none =>
    have : v = none := by simpa [am_out] using h
    subst this
    exact hr
  | some t =>
    obtain ⟨w, h1, h2⟩ := h
    have : v = some w := by simpa using h1
    subst this
    exact ⟨h2, hr⟩
theorem am_blind {G : am_G} {vs : List Value} {M : am_M} : FrameBlind (va_Pc vs (fun U => am_W G M U.heap ∧ va_K G.1 am_cl (am_tys G) U)) := by
  intro a U g mk h
  obtain ⟨h1, h2, h3⟩ := h
  exact ⟨h1, h2, va_K.moved (u := U) (U := U.calling g mk a) (Vm.Alike.refl U.vm) h3⟩
section SIM
variable {own : String} {bytes : ByteArray} {maxL : Nat} {ret : Option FieldType} {R : Room} {pc : Nat}
theorem si_max {i : Nat} (hd : decode bytes pc = .ok (.invokestatic i, 3)) (h1 : Cond.methodLink own i Lib.Math.max.name ∈ lw_g) (h2 : Cond.static Lib.Math.max.name ∈ lw_g) (h3 : Cond.initialized "java/lang/Math" ∈ lw_g) (h4 : Cond.code Lib.Math.max.name Lib.Math.max.code 2 (some .int) ∈ lw_g) (hR : Nat.ble 1 R.frames = true ∧ Nat.ble 21 R.locals = true) : am_Sim own bytes maxL ret R pc (fun ls st M k q => am_cat (st.drop 2) ≤ 8 ∧ o_bin (fun a b => if a < b then b else a) (pc + 3) ls st M k q) := by
  intro p l e s m args below meth c G X q C hX als ast M ho H locs ls st hr
  obtain ⟨hx, hb, hml, hret, hlk, hown, hts, hK, hinj⟩ := C
  obtain ⟨hW, hS, hl, hst⟩ := hr
  obtain ⟨hcat, ho⟩ := ho
  unfold o_bin at ho
  split at ho
  next y0 x0 st0 =>
    obtain ⟨v, vs, rfl, a1, a2⟩ := rvs_c hst
    obtain ⟨v2, vs2, rfl, a3, a4⟩ := rvs_c a2
    obtain ⟨y, rfl, rfl⟩ := rv_i a1
    obtain ⟨x, rfl, rfl⟩ := rv_i a3
    have h21 := Nat.le_of_ble_eq_true hR.2
    have hc : am_cat st0 ≤ 8 := hcat
    refine va_mmax hx hb (by rw [hml]; exact hl.1.symm) hown (hts _ h1) (hts _ h2) (hts _ h3) (hts _ h4) (Nat.le_of_ble_eq_true hR.1) (by rw [rvs_cat a4]; omega) (Nat.zero_le _) (Nat.zero_le _) hd (hX _ _ _ _ ho _ _ _ _ ⟨hW, hS, hl, ?_, a4⟩)
    show (if x < y then y else x).toInt = if x.toInt < y.toInt then y.toInt else x.toInt
    by_cases h : x < y
    · rw [if_pos h, if_pos ((k_lt x y).mp h)]
    · rw [if_neg h, if_neg (fun h9 => h ((k_lt x y).mpr h9))]
  next => exact ho.elim
theorem si_min {i : Nat} (hd : decode bytes pc = .ok (.invokestatic i, 3)) (h1 : Cond.methodLink own i Lib.Math.min.name ∈ lw_g) (h2 : Cond.static Lib.Math.min.name ∈ lw_g) (h3 : Cond.initialized "java/lang/Math" ∈ lw_g) (h4 : Cond.code Lib.Math.min.name Lib.Math.min.code 2 (some .int) ∈ lw_g) (hR : Nat.ble 1 R.frames = true ∧ Nat.ble 21 R.locals = true) : am_Sim own bytes maxL ret R pc (fun ls st M k q => am_cat (st.drop 2) ≤ 8 ∧ o_bin (fun a b => if b < a then b else a) (pc + 3) ls st M k q) := by
  intro p l e s m args below meth c G X q C hX als ast M ho H locs ls st hr
  obtain ⟨hx, hb, hml, hret, hlk, hown, hts, hK, hinj⟩ := C
  obtain ⟨hW, hS, hl, hst⟩ := hr
  obtain ⟨hcat, ho⟩ := ho
  unfold o_bin at ho
  split at ho
  next y0 x0 st0 =>
    obtain ⟨v, vs, rfl, a1, a2⟩ := rvs_c hst
    obtain ⟨v2, vs2, rfl, a3, a4⟩ := rvs_c a2
    obtain ⟨y, rfl, rfl⟩ := rv_i a1
    obtain ⟨x, rfl, rfl⟩ := rv_i a3
    have h21 := Nat.le_of_ble_eq_true hR.2
    have hc : am_cat st0 ≤ 8 := hcat
    refine va_mmin hx hb (by rw [hml]; exact hl.1.symm) hown (hts _ h1) (hts _ h2) (hts _ h3) (hts _ h4) (Nat.le_of_ble_eq_true hR.1) (by rw [rvs_cat a4]; omega) (Nat.zero_le _) (Nat.zero_le _) hd (hX _ _ _ _ ho _ _ _ _ ⟨hW, hS, hl, ?_, a4⟩)
    show (if y < x then y else x).toInt = if y.toInt < x.toInt then y.toInt else x.toInt
    by_cases h : y < x
    · rw [if_pos h, if_pos ((k_lt y x).mp h)]
    · rw [if_neg h, if_neg (fun h9 => h ((k_lt y x).mpr h9))]
  next => exact ho.elim
theorem si_acpyI {i : Nat} (hd : decode bytes pc = .ok (.invokestatic i, 3)) (h1 : Cond.methodLink own i arraycopyName ∈ lw_g) (h0 : Cond.native arraycopyName ∈ lw_g) (h2 : Cond.static arraycopyName ∈ lw_g) (h3 : Cond.initialized "java/lang/System" ∈ lw_g) (hR : Nat.ble 1 R.frames = true ∧ Nat.ble 26 R.locals = true) : am_Sim own bytes maxL ret R pc (o_acpy 0 (pc + 3)) := by
  intro p l e s m args below meth c G X q C hX als ast M ho H locs ls st hr
  obtain ⟨hx, hb, hml, hret, hlk, hown, hts, hK, hinj⟩ := C
  obtain ⟨hW, hS, hl, hst⟩ := hr
  unfold o_acpy at ho
  split at ho
  next n0 dp0 b sp0 a st0 =>
    obtain ⟨v, vs, rfl, a1, a2⟩ := rvs_c hst
    obtain ⟨v2, vs2, rfl, a3, a4⟩ := rvs_c a2
    obtain ⟨v3, vs3, rfl, a5, a6⟩ := rvs_c a4
    obtain ⟨v4, vs4, rfl, a7, a8⟩ := rvs_c a6
    obtain ⟨v5, vs5, rfl, a9, a10⟩ := rvs_c a8
    obtain ⟨n, rfl, rfl⟩ := rv_i a1
    obtain ⟨dp, rfl, rfl⟩ := rv_i a3
    obtain rfl := rv_r a5
    obtain ⟨sp, rfl, rfl⟩ := rv_i a7
    obtain rfl := rv_r a9
    obtain ⟨n0, n1, ha, hb1, ⟨c1, c2, c3, c4, c5, c6, c7⟩, hcat, ho⟩ := ho
    have k0 := al_spec ha
    have k1 := al_spec hb1
    have h26 := Nat.le_of_ble_eq_true hR.2
    have hlt0 : a < am_N := kd_lt k0 (by simp; omega)
    have hlt1 : b < am_N := kd_lt k1 (by simp; omega)
    have he0 := wl_at G M hlt0
    have he1 := wl_at G M hlt1
    rw [k0] at he0
    rw [k1] at he1
    refine va_copyi hx hb (by rw [hml]; exact hl.1.symm) hown (hts _ h1) (hts _ h0) (hts _ h2) (hts _ h3) hK hW.2 (wl_D hinj M) hS a b 0 0 (ty := .int) he0 he1 rfl rfl rfl (n_nn c1) (n_nn c2) (n_nn c3) (by rw [n_clamp, n_clamp]; omega) (by rw [n_clamp, n_clamp]; omega) (fun _ _ => rfl) (Nat.le_of_ble_eq_true hR.1) (by rw [rvs_cat a10]; show am_cat st0 + 18 ≤ R.locals; omega) hd (fun H1 locs1 hP hD hS1 => hX _ _ _ _ ho _ _ _ _ ⟨⟨ok_ob hW.1 k0 k1 _ _ _, ?_⟩, hS1, hl, a10⟩)
    have e1 : am_cell G (am_cpy (M a) (M b) sp.toInt.toNat dp.toInt.toNat n.toInt.toNat) (am_kd b) = .inl (G.2.2.1, n1, .inl (va_cpy (fun j => Int32.ofInt (M a j)) (fun j => Int32.ofInt (M b j)) sp.toNatClampNeg dp.toNatClampNeg n.toNatClampNeg)) := by
      rw [k1]
      show (Sum.inl (G.2.2.1, n1, Sum.inl (fun j => Int32.ofInt (am_cpy (M a) (M b) sp.toInt.toNat dp.toInt.toNat n.toInt.toNat j))) : va_E) = _
      congr 4
      funext j
      unfold am_cpy va_cpy
      rw [n_clamp, n_clamp, n_clamp]
      split <;> rfl
    rw [← e1, wl_set G M hlt1] at hP
    exact hP
  next => exact ho.elim
theorem si_acpyL {i : Nat} (hd : decode bytes pc = .ok (.invokestatic i, 3)) (h1 : Cond.methodLink own i arraycopyName ∈ lw_g) (h0 : Cond.native arraycopyName ∈ lw_g) (h2 : Cond.static arraycopyName ∈ lw_g) (h3 : Cond.initialized "java/lang/System" ∈ lw_g) (hR : Nat.ble 1 R.frames = true ∧ Nat.ble 26 R.locals = true) : am_Sim own bytes maxL ret R pc (o_acpy 1 (pc + 3)) := by
  intro p l e s m args below meth c G X q C hX als ast M ho H locs ls st hr
  obtain ⟨hx, hb, hml, hret, hlk, hown, hts, hK, hinj⟩ := C
  obtain ⟨hW, hS, hl, hst⟩ := hr
  unfold o_acpy at ho
  split at ho
  next n0 dp0 b sp0 a st0 =>
    obtain ⟨v, vs, rfl, a1, a2⟩ := rvs_c hst
    obtain ⟨v2, vs2, rfl, a3, a4⟩ := rvs_c a2
    obtain ⟨v3, vs3, rfl, a5, a6⟩ := rvs_c a4
    obtain ⟨v4, vs4, rfl, a7, a8⟩ := rvs_c a6
    obtain ⟨v5, vs5, rfl, a9, a10⟩ := rvs_c a8
    obtain ⟨n, rfl, rfl⟩ := rv_i a1
    obtain ⟨dp, rfl, rfl⟩ := rv_i a3
    obtain rfl := rv_r a5
    obtain ⟨sp, rfl, rfl⟩ := rv_i a7
    obtain rfl := rv_r a9
    obtain ⟨n0, n1, ha, hb1, ⟨c1, c2, c3, c4, c5, c6, c7⟩, hcat, ho⟩ := ho
    have k0 := al_spec ha
    have k1 := al_spec hb1
    have h26 := Nat.le_of_ble_eq_true hR.2
    have hlt0 : a < am_N := kd_lt k0 (by simp)
    have hlt1 : b < am_N := kd_lt k1 (by simp)
    have he0 := wl_at G M hlt0
    have he1 := wl_at G M hlt1
    rw [k0] at he0
    rw [k1] at he1
    refine va_copyl hx hb (by rw [hml]; exact hl.1.symm) hown (hts _ h1) (hts _ h0) (hts _ h2) (hts _ h3) hK hW.2 (wl_D hinj M) hS a b 1 1 (ty := .long) he0 he1 rfl rfl rfl (n_nn c1) (n_nn c2) (n_nn c3) (by rw [n_clamp, n_clamp]; omega) (by rw [n_clamp, n_clamp]; omega) (fun _ _ => rfl) (Nat.le_of_ble_eq_true hR.1) (by rw [rvs_cat a10]; show am_cat st0 + 18 ≤ R.locals; omega) hd (fun H1 locs1 hP hD hS1 => hX _ _ _ _ ho _ _ _ _ ⟨⟨ok_ob hW.1 k0 k1 _ _ _, ?_⟩, hS1, hl, a10⟩)
    have e1 : am_cell G (am_cpy (M a) (M b) sp.toInt.toNat dp.toInt.toNat n.toInt.toNat) (am_kd b) = .inl (G.2.2.2.1, n1, .inr (.inl (va_cpy (fun j => Int64.ofInt (M a j)) (fun j => Int64.ofInt (M b j)) sp.toNatClampNeg dp.toNatClampNeg n.toNatClampNeg))) := by
      rw [k1]
      show (Sum.inl (G.2.2.2.1, n1, Sum.inr (Sum.inl (fun j => Int64.ofInt (am_cpy (M a) (M b) sp.toInt.toNat dp.toInt.toNat n.toInt.toNat j)))) : va_E) = _
      congr 5
      funext j
      unfold am_cpy va_cpy
      rw [n_clamp, n_clamp, n_clamp]
      split <;> rfl
    rw [← e1, wl_set G M hlt1] at hP
    exact hP
  next => exact ho.elim
theorem si_call {S : am_E} {z : MethodName} {zb : ByteArray} {zL fr lo i n : Nat} {zret : Option FieldType} (hZ : am_Sound z zb zL zret fr lo S) (hd : decode bytes pc = .ok (.invokestatic i, 3)) (hli : Cond.methodLink own i z ∈ lw_g) (hst : Cond.static z ∈ lw_g) (hini : Cond.initialized z.cls ∈ lw_g) (hcode : Cond.code z zb zL zret ∈ lw_g) (hdd : z.cls ≠ "java/lang/invoke/MethodHandle" ∧ z.cls ≠ "java/lang/invoke/VarHandle" ∧ (parseMethodDescriptor z.desc).map (fun d => d.parameters.length) = some n) (hR : Nat.ble (fr + 1) R.frames = true ∧ Nat.ble (8 + (zL + 11) + lo) R.locals = true) : am_Sim own bytes maxL ret R pc (o_call S n zret.isNone (pc + 3)) := by
  intro p l e s m args below meth c G X q C hX als ast M ho H locs ls st hr
  obtain ⟨hx, hb, hml, hret, hlk, hown, hts, hK, hinj⟩ := C
  obtain ⟨hW, hS, hl, hst1⟩ := hr
  obtain ⟨hlen, hcat, ho⟩ := ho
  obtain ⟨ht, hdr⟩ := rvs_take n hst1
  have hM := hZ l G _ _ M _ hinj (rvs_rev ht) ho
  have cb := callB_of (R := R) n hts (lw_goodIn hcode) rfl rfl rfl (hts _ hini) (hts _ hli) hdd ⟨Nat.le_of_ble_eq_true hR.1, Nat.le_of_ble_eq_true hR.2⟩ (rm := { frames := fr, cells := 0, slots := 0, locals := lo })
  have hsl : st.length = ast.length := (rvs_len hst1).symm
  refine am_ret (va_runS (As := (st.take n).reverse) (rest := st.drop n) (g := F0 m pc ls st) ⟨hx, hb, hml, hown, hts⟩ hM ⟨cb, hts _ hst⟩ ⟨am_blind, fun U hU hW1 => ⟨rfl, by rw [hU]; exact hW, va_K.moved hW1.alike hK⟩⟩ rfl (by rw [List.length_reverse, List.length_take]; omega) hl.1 (by rw [List.reverse_reverse, List.take_append_drop]) (lv_room (by rw [rvs_cat hdr]; exact hcat)) hd ⟨Nat.zero_le _, Nat.zero_le _⟩) hS (fun r M' v H1 locs1 hp hout hW1 hS1 => hX _ _ _ _ hp _ _ _ _ ⟨hW1, hS1, hl, out_push hout hdr⟩)
theorem si_callv {S : am_E} {z : MethodName} {zb : ByteArray} {zL fr lo i n ci N : Nat} {T : u_T} {C : String} {zret : Option FieldType} (hZ : am_Sound z zb zL zret fr lo S) (hc : am_cl[ci]? = some (C, T, N)) (hd : decode bytes pc = .ok (.invokevirtual i, 3)) (hli : Cond.methodLink own i z ∈ lw_g) (hst : Cond.instanceMethod z ∈ lw_g) (hse : Cond.selects C z z ∈ lw_g) (hini : Cond.initialized z.cls ∈ lw_g) (hcode : Cond.code z zb zL zret ∈ lw_g) (hdd : z.cls ≠ "java/lang/invoke/MethodHandle" ∧ z.cls ≠ "java/lang/invoke/VarHandle" ∧ (parseMethodDescriptor z.desc).map (fun d => d.parameters.length) = some n) (hR : Nat.ble (fr + 1) R.frames = true ∧ Nat.ble (8 + (zL + 11) + lo) R.locals = true) : am_Sim own bytes maxL ret R pc (o_callv S ci n zret.isNone (pc + 3)) := by
  intro p l e s m args below meth c G X q C hX als ast M ho H locs ls st hr
  obtain ⟨hx, hb, hml, hret, hlk, hown, hts, hK, hinj⟩ := C
  obtain ⟨hW, hS, hl, hst1⟩ := hr
  unfold o_callv at ho
  split at ho
  next o rest0 hdrop =>
    obtain ⟨hisc, hcat, ho⟩ := ho
    obtain ⟨ht, hdr⟩ := rvs_take n hst1
    rw [hdrop] at hdr
    obtain ⟨w, ws, hst2, h1, h2⟩ := rvs_c hdr
    obtain rfl := rv_r h1
    obtain ⟨fs, k1⟩ := isC_spec hisc
    have hlt : o < am_N := kd_lt k1 (by simp)
    have he := wl_at G M hlt
    rw [k1] at he
    have hM := hZ l G (aR o :: (ast.take n).reverse) (Value.ref (G.2.1 o) :: (st.take n).reverse) M _ hinj ⟨rfl, rvs_rev ht⟩ ho
    have cb := callB_of (R := R) n hts (lw_goodIn hcode) rfl rfl rfl (hts _ hini) (hts _ hli) hdd ⟨Nat.le_of_ble_eq_true hR.1, Nat.le_of_ble_eq_true hR.2⟩ (rm := { frames := fr, cells := 0, slots := 0, locals := lo })
    have hsl : st.length = ast.length := (rvs_len hst1).symm
    have hln : n ≤ ast.length := by
      rcases Nat.lt_or_ge ast.length n with h9 | h9
      · rw [List.drop_eq_nil_of_le (by omega)] at hdrop
        cases hdrop
      · exact h9
    refine am_ret (va_runV (b := G.2.1 o) (C := C) (As := (st.take n).reverse) (rest := ws) (g := F0 m pc ls st) ⟨hx, hb, hml, hown, hts⟩ hM ⟨cb, hts _ hst, hts _ hse⟩ ⟨am_blind, va_recv hK hW.2 hc he, fun U hU hW1 => ⟨rfl, by rw [hU]; exact hW, va_K.moved hW1.alike hK⟩⟩ rfl (by rw [List.length_reverse, List.length_take]; omega) hl.1 (by rw [List.reverse_reverse, ← hst2, List.take_append_drop]) (lv_room (by rw [rvs_cat h2]; exact hcat)) hd ⟨Nat.zero_le _, Nat.zero_le _⟩) hS (fun r M' v H1 locs1 hp hout hW1 hS1 => hX _ _ _ _ hp _ _ _ _ ⟨hW1, hS1, hl, out_push hout h2⟩)
  next => exact ho.elim
theorem si_iret (hret0 : ret = some .int) (hd : decode bytes pc = .ok (.ireturn, 1)) : am_Sim own bytes maxL ret R pc o_iret := by
  intro p l e s m args below meth c G X q C hX als ast M ho H locs ls st hr
  obtain ⟨hx, hb, hml, hret, hlk, hown, hts, hK, hinj⟩ := C
  obtain ⟨hW, hS, hl, hst⟩ := hr
  subst hret0
  unfold o_iret at ho
  split at ho
  next x0 =>
    obtain ⟨v, vs, rfl, h1, h2⟩ := rvs_c hst
    obtain rfl := rvs_0 h2
    obtain ⟨x, rfl, rfl⟩ := rv_i h1
    exact W.iret hx hb hret (fun t ht hW1 => ⟨⟨_, _, ho, ⟨_, rfl, rfl⟩, by rw [ht]; exact hW, va_K.moved hW1.alike hK⟩, hS.F ht⟩) hS.2.2 hd hlk
  next => exact ho.elim
theorem si_zret (hret0 : ret = some .boolean) (hd : decode bytes pc = .ok (.ireturn, 1)) : am_Sim own bytes maxL ret R pc o_zret := by
  intro p l e s m args below meth c G X q C hX als ast M ho H locs ls st hr
  obtain ⟨hx, hb, hml, hret, hlk, hown, hts, hK, hinj⟩ := C
  obtain ⟨hW, hS, hl, hst⟩ := hr
  subst hret0
  unfold o_zret at ho
  split at ho
  next x0 =>
    obtain ⟨v, vs, rfl, h1, h2⟩ := rvs_c hst
    obtain rfl := rvs_0 h2
    obtain ⟨x, rfl, rfl⟩ := rv_i h1
    obtain ⟨h01, ho⟩ := ho
    have hn : narrow .boolean (.int x) = .int x := by
      rcases h01 with h | h
      · have : x = 0 := Int32.toInt_inj.mp (by rw [h]; rfl)
        subst this
        decide
      · have : x = 1 := Int32.toInt_inj.mp (by rw [h]; rfl)
        subst this
        decide
    exact W.zret hx hb hret hn (fun t ht hW1 => ⟨⟨_, _, ho, ⟨_, rfl, rfl⟩, by rw [ht]; exact hW, va_K.moved hW1.alike hK⟩, hS.F ht⟩) hS.2.2 hd hlk
  next => exact ho.elim
theorem si_lret (hret0 : ret = some .long) (hd : decode bytes pc = .ok (.lreturn, 1)) : am_Sim own bytes maxL ret R pc o_lret := by
  intro p l e s m args below meth c G X q C hX als ast M ho H locs ls st hr
  obtain ⟨hx, hb, hml, hret, hlk, hown, hts, hK, hinj⟩ := C
  obtain ⟨hW, hS, hl, hst⟩ := hr
  subst hret0
  unfold o_lret at ho
  split at ho
  next x0 =>
    obtain ⟨v, vs, rfl, h1, h2⟩ := rvs_c hst
    obtain rfl := rvs_0 h2
    obtain ⟨x, rfl, rfl⟩ := rv_l h1
    exact W.lret hx hb hret (fun t ht hW1 => ⟨⟨_, _, ho, ⟨_, rfl, rfl⟩, by rw [ht]; exact hW, va_K.moved hW1.alike hK⟩, hS.F ht⟩) hS.2.2 hd hlk
  next => exact ho.elim
theorem si_aret {n : String} (hret0 : ret = some (.object n)) (hd : decode bytes pc = .ok (.areturn, 1)) : am_Sim own bytes maxL ret R pc o_aret := by
  intro p l e s m args below meth c G X q C hX als ast M ho H locs ls st hr
  obtain ⟨hx, hb, hml, hret, hlk, hown, hts, hK, hinj⟩ := C
  obtain ⟨hW, hS, hl, hst⟩ := hr
  subst hret0
  unfold o_aret at ho
  split at ho
  next x0 =>
    obtain ⟨v, vs, rfl, h1, h2⟩ := rvs_c hst
    obtain rfl := rvs_0 h2
    cases x0 with
    | zero =>
      obtain rfl := rv_n h1
      exact W.aret hx hb hret (Or.inl ⟨_, rfl⟩) (Or.inl rfl) (fun t ht hW1 => ⟨⟨_, _, ho, ⟨_, rfl, trivial⟩, by rw [ht]; exact hW, va_K.moved hW1.alike hK⟩, hS.F ht⟩) hS.2.2 hd hlk
    | succ x0 =>
      obtain rfl := rv_r h1
      exact W.aret hx hb hret (Or.inl ⟨_, rfl⟩) (Or.inr ⟨_, rfl⟩) (fun t ht hW1 => ⟨⟨_, _, ho, ⟨_, rfl, rfl⟩, by rw [ht]; exact hW, va_K.moved hW1.alike hK⟩, hS.F ht⟩) hS.2.2 hd hlk
  next => exact ho.elim
theorem si_vret (hret0 : ret = none) (hd : decode bytes pc = .ok (.return_, 1)) : am_Sim own bytes maxL ret R pc o_vret := by
  intro p l e s m args below meth c G X q C hX als ast M ho H locs ls st hr
  obtain ⟨hx, hb, hml, hret, hlk, hown, hts, hK, hinj⟩ := C
  obtain ⟨hW, hS, hl, hst⟩ := hr
  subst hret0
  unfold o_vret at ho
  split at ho
  next =>
    obtain rfl := rvs_0 hst
    exact W.vret hx hb hret (fun t ht hW1 => ⟨⟨_, _, ho, rfl, by rw [ht]; exact hW, va_K.moved hW1.alike hK⟩, hS.F ht⟩) hS.2.2 hd hlk
  next => exact ho.elim
end SIM
theorem am_sound_of {y : MethodName} {own : String} {bytes : ByteArray} {maxL fr lo : Nat} {ret : Option FieldType} {cd : List (Nat × am_O)} (hy : plainName y.cls = true) (hown : y.cls = own)
    (h : ∀ e ∈ cd, am_Sim own bytes maxL ret ({ frames := fr, cells := 0, slots := 0, locals := lo } : Room) e.1 e.2) : am_Sound y bytes maxL ret fr lo (am_S cd maxL) := by
  intro l G as vs M q hinj hrv hS
  obtain ⟨P, hlen, hR, hPq⟩ := hS
  refine Met.ofW (cc := bytes) (maxL := maxL) (ret := ret) hy rfl ?_
  intro p e s m args below meth c s₁ B hml hv
  obtain ⟨rfl, hW, hK⟩ := hv
  have hts0 := atoms_spec (ws := Cond.code y bytes maxL ret :: lw_g) B.pre
  have hcx : am_Cx G own bytes maxL ret p s m vs.toArray meth c := ⟨B.exec, B.bytes, hml, B.returns, B.notSynchronized, by rw [← hown]; exact findClass_of_methodNamed B.named, fun w hw => hts0 w (List.mem_cons_of_mem _ hw), hK, hinj⟩
  have go := hR (fun pc als ast M => am_Go G maxL ret p l e ({ frames := fr, cells := 0, slots := 0, locals := lo } : Room) s m vs.toArray below meth c P pc als ast M) (fun en hen als ast M ho => h en hen p l e s m vs.toArray below meth c G _ P hcx (fun _ _ _ _ h => h) als ast M ho)
  rw [lg_entry_eq]
  have go2 := go s.heap [] ((lg_sl vs ++ List.replicate (maxL - (lg_sl vs).length) Slot.unset).toArray) [] ⟨hW, va_S.rf, lr_entry hrv hlen, trivial⟩
  intro T hT X
  obtain ⟨t, a1, o, b1, b2, ⟨⟨r, M', c1, c2, c3, c4⟩, c5⟩, b4⟩ := go2 T hT X
  exact ⟨t, a1, o, b1, b2, ⟨⟨r, M', hPq r M' c1, c2, c3, c4⟩, c5⟩, b4⟩
end
