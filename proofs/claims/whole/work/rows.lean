section
-- ===== PART A: goes FIRST, ahead of the names: the tables' words, and 'selects' of the private methods out of them =====
/-- a private method of a class that the tables say can be made, by its rows of tables_1 -/
def lw_okq (q : MethodName × Nat) : Prop := (q.1.cls ≠ "java/lang/invoke/MethodHandle" ∧ q.1.cls ≠ "java/lang/invoke/VarHandle") ∧ Cond.instantiable q.1.cls q.2 ∈ tables_1 ∧ Cond.privateMethod q.1 ∈ tables_1 ∧ Cond.instanceMethod q.1 ∈ tables_1
theorem lw_p0 : lw_okq (⟨"OneCable$Tape", "pass", "(CC)V"⟩, 6) := ⟨⟨by decide +kernel, by decide +kernel⟩, List.mem_of_getElem? (i := 35) (by decide +kernel), List.mem_of_getElem? (i := 538) (by decide +kernel), List.mem_of_getElem? (i := 539) (by decide +kernel)⟩
theorem lw_p1 : lw_okq (⟨"OneCable$Tape", "wordNumber", "()I"⟩, 6) := ⟨⟨by decide +kernel, by decide +kernel⟩, List.mem_of_getElem? (i := 35) (by decide +kernel), List.mem_of_getElem? (i := 542) (by decide +kernel), List.mem_of_getElem? (i := 543) (by decide +kernel)⟩
theorem lw_p2 : lw_okq (⟨"OneCable$Tape", "digits", "()I"⟩, 6) := ⟨⟨by decide +kernel, by decide +kernel⟩, List.mem_of_getElem? (i := 35) (by decide +kernel), List.mem_of_getElem? (i := 587) (by decide +kernel), List.mem_of_getElem? (i := 588) (by decide +kernel)⟩
theorem lw_p3 : lw_okq (⟨"OneCable$Telling", "bayLine", "()Z"⟩, 10) := ⟨⟨by decide +kernel, by decide +kernel⟩, List.mem_of_getElem? (i := 66) (by decide +kernel), List.mem_of_getElem? (i := 658) (by decide +kernel), List.mem_of_getElem? (i := 659) (by decide +kernel)⟩
theorem lw_p4 : lw_okq (⟨"OneCable$Telling", "takeWord", "(I)Z"⟩, 10) := ⟨⟨by decide +kernel, by decide +kernel⟩, List.mem_of_getElem? (i := 66) (by decide +kernel), List.mem_of_getElem? (i := 662) (by decide +kernel), List.mem_of_getElem? (i := 663) (by decide +kernel)⟩
theorem lw_p5 : lw_okq (⟨"OneCable$Telling", "fail", "(I)Z"⟩, 10) := ⟨⟨by decide +kernel, by decide +kernel⟩, List.mem_of_getElem? (i := 66) (by decide +kernel), List.mem_of_getElem? (i := 670) (by decide +kernel), List.mem_of_getElem? (i := 671) (by decide +kernel)⟩
theorem lw_p6 : lw_okq (⟨"OneCable$Telling", "takeNumber", "(II)Z"⟩, 10) := ⟨⟨by decide +kernel, by decide +kernel⟩, List.mem_of_getElem? (i := 66) (by decide +kernel), List.mem_of_getElem? (i := 675) (by decide +kernel), List.mem_of_getElem? (i := 676) (by decide +kernel)⟩
theorem lw_p7 : lw_okq (⟨"OneCable$Telling", "seesNumber", "(II)Z"⟩, 10) := ⟨⟨by decide +kernel, by decide +kernel⟩, List.mem_of_getElem? (i := 66) (by decide +kernel), List.mem_of_getElem? (i := 679) (by decide +kernel), List.mem_of_getElem? (i := 680) (by decide +kernel)⟩
theorem lw_p8 : lw_okq (⟨"OneCable$Telling", "takeSign", "(C)Z"⟩, 10) := ⟨⟨by decide +kernel, by decide +kernel⟩, List.mem_of_getElem? (i := 66) (by decide +kernel), List.mem_of_getElem? (i := 683) (by decide +kernel), List.mem_of_getElem? (i := 684) (by decide +kernel)⟩
theorem lw_p9 : lw_okq (⟨"OneCable$Telling", "line", "()Z"⟩, 10) := ⟨⟨by decide +kernel, by decide +kernel⟩, List.mem_of_getElem? (i := 66) (by decide +kernel), List.mem_of_getElem? (i := 691) (by decide +kernel), List.mem_of_getElem? (i := 692) (by decide +kernel)⟩
theorem lw_p10 : lw_okq (⟨"OneCable$Telling", "rockLine", "()Z"⟩, 10) := ⟨⟨by decide +kernel, by decide +kernel⟩, List.mem_of_getElem? (i := 66) (by decide +kernel), List.mem_of_getElem? (i := 695) (by decide +kernel), List.mem_of_getElem? (i := 696) (by decide +kernel)⟩
theorem lw_p11 : lw_okq (⟨"OneCable$Telling", "takeCell", "(I)Z"⟩, 10) := ⟨⟨by decide +kernel, by decide +kernel⟩, List.mem_of_getElem? (i := 66) (by decide +kernel), List.mem_of_getElem? (i := 699) (by decide +kernel), List.mem_of_getElem? (i := 700) (by decide +kernel)⟩
theorem lw_p12 : lw_okq (⟨"OneCable$Telling", "shoalLine", "()Z"⟩, 10) := ⟨⟨by decide +kernel, by decide +kernel⟩, List.mem_of_getElem? (i := 66) (by decide +kernel), List.mem_of_getElem? (i := 707) (by decide +kernel), List.mem_of_getElem? (i := 708) (by decide +kernel)⟩
theorem lw_p13 : lw_okq (⟨"OneCable$Telling", "boatLine", "()Z"⟩, 10) := ⟨⟨by decide +kernel, by decide +kernel⟩, List.mem_of_getElem? (i := 66) (by decide +kernel), List.mem_of_getElem? (i := 711) (by decide +kernel), List.mem_of_getElem? (i := 712) (by decide +kernel)⟩
theorem lw_p14 : lw_okq (⟨"OneCable$Telling", "takeName", "(I)Z"⟩, 10) := ⟨⟨by decide +kernel, by decide +kernel⟩, List.mem_of_getElem? (i := 66) (by decide +kernel), List.mem_of_getElem? (i := 715) (by decide +kernel), List.mem_of_getElem? (i := 716) (by decide +kernel)⟩
theorem lw_p15 : lw_okq (⟨"OneCable$Telling", "takeKind", "(I)Z"⟩, 10) := ⟨⟨by decide +kernel, by decide +kernel⟩, List.mem_of_getElem? (i := 66) (by decide +kernel), List.mem_of_getElem? (i := 723) (by decide +kernel), List.mem_of_getElem? (i := 724) (by decide +kernel)⟩
def lw_privs_1 : List (MethodName × Nat) := [(⟨"OneCable$Tape", "pass", "(CC)V"⟩, 6), (⟨"OneCable$Tape", "wordNumber", "()I"⟩, 6), (⟨"OneCable$Tape", "digits", "()I"⟩, 6), (⟨"OneCable$Telling", "bayLine", "()Z"⟩, 10), (⟨"OneCable$Telling", "takeWord", "(I)Z"⟩, 10), (⟨"OneCable$Telling", "fail", "(I)Z"⟩, 10), (⟨"OneCable$Telling", "takeNumber", "(II)Z"⟩, 10), (⟨"OneCable$Telling", "seesNumber", "(II)Z"⟩, 10), (⟨"OneCable$Telling", "takeSign", "(C)Z"⟩, 10), (⟨"OneCable$Telling", "line", "()Z"⟩, 10), (⟨"OneCable$Telling", "rockLine", "()Z"⟩, 10), (⟨"OneCable$Telling", "takeCell", "(I)Z"⟩, 10), (⟨"OneCable$Telling", "shoalLine", "()Z"⟩, 10), (⟨"OneCable$Telling", "boatLine", "()Z"⟩, 10), (⟨"OneCable$Telling", "takeName", "(I)Z"⟩, 10), (⟨"OneCable$Telling", "takeKind", "(I)Z"⟩, 10)]
theorem lw_r1 : ∀ q ∈ lw_privs_1, lw_okq q := List.forall_mem_cons.mpr ⟨lw_p0, List.forall_mem_cons.mpr ⟨lw_p1, List.forall_mem_cons.mpr ⟨lw_p2, List.forall_mem_cons.mpr ⟨lw_p3, List.forall_mem_cons.mpr ⟨lw_p4, List.forall_mem_cons.mpr ⟨lw_p5, List.forall_mem_cons.mpr ⟨lw_p6, List.forall_mem_cons.mpr ⟨lw_p7, List.forall_mem_cons.mpr ⟨lw_p8, List.forall_mem_cons.mpr ⟨lw_p9, List.forall_mem_cons.mpr ⟨lw_p10, List.forall_mem_cons.mpr ⟨lw_p11, List.forall_mem_cons.mpr ⟨lw_p12, List.forall_mem_cons.mpr ⟨lw_p13, List.forall_mem_cons.mpr ⟨lw_p14, List.forall_mem_cons.mpr ⟨lw_p15, fun _ h => absurd h List.not_mem_nil⟩⟩⟩⟩⟩⟩⟩⟩⟩⟩⟩⟩⟩⟩⟩⟩
theorem lw_p16 : lw_okq (⟨"OneCable$Telling", "cableLine", "()Z"⟩, 10) := ⟨⟨by decide +kernel, by decide +kernel⟩, List.mem_of_getElem? (i := 66) (by decide +kernel), List.mem_of_getElem? (i := 727) (by decide +kernel), List.mem_of_getElem? (i := 728) (by decide +kernel)⟩
theorem lw_p17 : lw_okq (⟨"OneCable$Telling", "lawLine", "(ILOneCable$Law;)Z"⟩, 10) := ⟨⟨by decide +kernel, by decide +kernel⟩, List.mem_of_getElem? (i := 66) (by decide +kernel), List.mem_of_getElem? (i := 735) (by decide +kernel), List.mem_of_getElem? (i := 736) (by decide +kernel)⟩
theorem lw_p18 : lw_okq (⟨"OneCable$Telling", "takeOnce", "(I)Z"⟩, 10) := ⟨⟨by decide +kernel, by decide +kernel⟩, List.mem_of_getElem? (i := 66) (by decide +kernel), List.mem_of_getElem? (i := 739) (by decide +kernel), List.mem_of_getElem? (i := 740) (by decide +kernel)⟩
theorem lw_p19 : lw_okq (⟨"OneCable$Telling", "takeLaw", "(LOneCable$Law;III)Z"⟩, 10) := ⟨⟨by decide +kernel, by decide +kernel⟩, List.mem_of_getElem? (i := 66) (by decide +kernel), List.mem_of_getElem? (i := 743) (by decide +kernel), List.mem_of_getElem? (i := 744) (by decide +kernel)⟩
theorem lw_p20 : lw_okq (⟨"OneCable$Telling", "takePart", "(LOneCable$Law;II)Z"⟩, 10) := ⟨⟨by decide +kernel, by decide +kernel⟩, List.mem_of_getElem? (i := 66) (by decide +kernel), List.mem_of_getElem? (i := 747) (by decide +kernel), List.mem_of_getElem? (i := 748) (by decide +kernel)⟩
theorem lw_p21 : lw_okq (⟨"OneCable$Telling", "seesJoiner", "(I)I"⟩, 10) := ⟨⟨by decide +kernel, by decide +kernel⟩, List.mem_of_getElem? (i := 66) (by decide +kernel), List.mem_of_getElem? (i := 752) (by decide +kernel), List.mem_of_getElem? (i := 753) (by decide +kernel)⟩
theorem lw_p22 : lw_okq (⟨"OneCable$Telling", "galesLine", "()Z"⟩, 10) := ⟨⟨by decide +kernel, by decide +kernel⟩, List.mem_of_getElem? (i := 66) (by decide +kernel), List.mem_of_getElem? (i := 756) (by decide +kernel), List.mem_of_getElem? (i := 757) (by decide +kernel)⟩
theorem lw_p23 : lw_okq (⟨"OneCable$Telling", "looseLine", "()Z"⟩, 10) := ⟨⟨by decide +kernel, by decide +kernel⟩, List.mem_of_getElem? (i := 66) (by decide +kernel), List.mem_of_getElem? (i := 760) (by decide +kernel), List.mem_of_getElem? (i := 761) (by decide +kernel)⟩
theorem lw_p24 : lw_okq (⟨"OneCable", "boatsAt", "(II)I"⟩, 11) := ⟨⟨by decide +kernel, by decide +kernel⟩, List.mem_of_getElem? (i := 27) (by decide +kernel), List.mem_of_getElem? (i := 865) (by decide +kernel), List.mem_of_getElem? (i := 866) (by decide +kernel)⟩
theorem lw_p25 : lw_okq (⟨"OneCable$Cable", "go", "(II)V"⟩, 4) := ⟨⟨by decide +kernel, by decide +kernel⟩, List.mem_of_getElem? (i := 329) (by decide +kernel), List.mem_of_getElem? (i := 881) (by decide +kernel), List.mem_of_getElem? (i := 882) (by decide +kernel)⟩
theorem lw_p26 : lw_okq (⟨"OneCable$Nets", "lift", "(IIII)I"⟩, 5) := ⟨⟨by decide +kernel, by decide +kernel⟩, List.mem_of_getElem? (i := 349) (by decide +kernel), List.mem_of_getElem? (i := 916) (by decide +kernel), List.mem_of_getElem? (i := 917) (by decide +kernel)⟩
theorem lw_p27 : lw_okq (⟨"OneCable$Nets", "sweep", "(III)I"⟩, 5) := ⟨⟨by decide +kernel, by decide +kernel⟩, List.mem_of_getElem? (i := 349) (by decide +kernel), List.mem_of_getElem? (i := 921) (by decide +kernel), List.mem_of_getElem? (i := 922) (by decide +kernel)⟩
theorem lw_p28 : lw_okq (⟨"OneCable$Course", "sortCells", "(I)V"⟩, 12) := ⟨⟨by decide +kernel, by decide +kernel⟩, List.mem_of_getElem? (i := 371) (by decide +kernel), List.mem_of_getElem? (i := 959) (by decide +kernel), List.mem_of_getElem? (i := 960) (by decide +kernel)⟩
theorem lw_p29 : lw_okq (⟨"OneCable$Course", "trace", "(II)V"⟩, 12) := ⟨⟨by decide +kernel, by decide +kernel⟩, List.mem_of_getElem? (i := 371) (by decide +kernel), List.mem_of_getElem? (i := 966) (by decide +kernel), List.mem_of_getElem? (i := 967) (by decide +kernel)⟩
theorem lw_p30 : lw_okq (⟨"OneCable$Course", "spread", "(II)V"⟩, 12) := ⟨⟨by decide +kernel, by decide +kernel⟩, List.mem_of_getElem? (i := 371) (by decide +kernel), List.mem_of_getElem? (i := 972) (by decide +kernel), List.mem_of_getElem? (i := 973) (by decide +kernel)⟩
theorem lw_p31 : lw_okq (⟨"OneCable$Course", "claim", "(III)Z"⟩, 12) := ⟨⟨by decide +kernel, by decide +kernel⟩, List.mem_of_getElem? (i := 371) (by decide +kernel), List.mem_of_getElem? (i := 977) (by decide +kernel), List.mem_of_getElem? (i := 978) (by decide +kernel)⟩
def lw_privs_2 : List (MethodName × Nat) := [(⟨"OneCable$Telling", "cableLine", "()Z"⟩, 10), (⟨"OneCable$Telling", "lawLine", "(ILOneCable$Law;)Z"⟩, 10), (⟨"OneCable$Telling", "takeOnce", "(I)Z"⟩, 10), (⟨"OneCable$Telling", "takeLaw", "(LOneCable$Law;III)Z"⟩, 10), (⟨"OneCable$Telling", "takePart", "(LOneCable$Law;II)Z"⟩, 10), (⟨"OneCable$Telling", "seesJoiner", "(I)I"⟩, 10), (⟨"OneCable$Telling", "galesLine", "()Z"⟩, 10), (⟨"OneCable$Telling", "looseLine", "()Z"⟩, 10), (⟨"OneCable", "boatsAt", "(II)I"⟩, 11), (⟨"OneCable$Cable", "go", "(II)V"⟩, 4), (⟨"OneCable$Nets", "lift", "(IIII)I"⟩, 5), (⟨"OneCable$Nets", "sweep", "(III)I"⟩, 5), (⟨"OneCable$Course", "sortCells", "(I)V"⟩, 12), (⟨"OneCable$Course", "trace", "(II)V"⟩, 12), (⟨"OneCable$Course", "spread", "(II)V"⟩, 12), (⟨"OneCable$Course", "claim", "(III)Z"⟩, 12)]
theorem lw_r2 : ∀ q ∈ lw_privs_2, lw_okq q := List.forall_mem_cons.mpr ⟨lw_p16, List.forall_mem_cons.mpr ⟨lw_p17, List.forall_mem_cons.mpr ⟨lw_p18, List.forall_mem_cons.mpr ⟨lw_p19, List.forall_mem_cons.mpr ⟨lw_p20, List.forall_mem_cons.mpr ⟨lw_p21, List.forall_mem_cons.mpr ⟨lw_p22, List.forall_mem_cons.mpr ⟨lw_p23, List.forall_mem_cons.mpr ⟨lw_p24, List.forall_mem_cons.mpr ⟨lw_p25, List.forall_mem_cons.mpr ⟨lw_p26, List.forall_mem_cons.mpr ⟨lw_p27, List.forall_mem_cons.mpr ⟨lw_p28, List.forall_mem_cons.mpr ⟨lw_p29, List.forall_mem_cons.mpr ⟨lw_p30, List.forall_mem_cons.mpr ⟨lw_p31, fun _ h => absurd h List.not_mem_nil⟩⟩⟩⟩⟩⟩⟩⟩⟩⟩⟩⟩⟩⟩⟩⟩
theorem lw_p32 : lw_okq (⟨"OneCable$Council", "wished", "(III)I"⟩, 7) := ⟨⟨by decide +kernel, by decide +kernel⟩, List.mem_of_getElem? (i := 415) (by decide +kernel), List.mem_of_getElem? (i := 998) (by decide +kernel), List.mem_of_getElem? (i := 999) (by decide +kernel)⟩
theorem lw_p33 : lw_okq (⟨"java/lang/Throwable", "fillInStackTrace", "(I)Ljava/lang/Throwable;"⟩, 6) := ⟨⟨by decide +kernel, by decide +kernel⟩, List.mem_of_getElem? (i := 1142) (by decide +kernel), List.mem_of_getElem? (i := 1140) (by decide +kernel), List.mem_of_getElem? (i := 1141) (by decide +kernel)⟩
theorem lw_p34 : lw_okq (⟨"OneCable$Storm", "lay", "(II)V"⟩, 8) := ⟨⟨by decide +kernel, by decide +kernel⟩, List.mem_of_getElem? (i := 446) (by decide +kernel), List.mem_of_getElem? (i := 1173) (by decide +kernel), List.mem_of_getElem? (i := 1174) (by decide +kernel)⟩
theorem lw_p35 : lw_okq (⟨"OneCable$Storm", "judge", "()V"⟩, 8) := ⟨⟨by decide +kernel, by decide +kernel⟩, List.mem_of_getElem? (i := 446) (by decide +kernel), List.mem_of_getElem? (i := 1177) (by decide +kernel), List.mem_of_getElem? (i := 1178) (by decide +kernel)⟩
theorem lw_p36 : lw_okq (⟨"OneCableModel", "lay", "(J)V"⟩, 34) := ⟨⟨by decide +kernel, by decide +kernel⟩, List.mem_of_getElem? (i := 1196) (by decide +kernel), List.mem_of_getElem? (i := 1194) (by decide +kernel), List.mem_of_getElem? (i := 1195) (by decide +kernel)⟩
theorem lw_p37 : lw_okq (⟨"OneCableModel", "standsAsAlways", "(I)V"⟩, 34) := ⟨⟨by decide +kernel, by decide +kernel⟩, List.mem_of_getElem? (i := 1196) (by decide +kernel), List.mem_of_getElem? (i := 1233) (by decide +kernel), List.mem_of_getElem? (i := 1234) (by decide +kernel)⟩
theorem lw_p38 : lw_okq (⟨"OneCableModel", "cutAll", "()V"⟩, 34) := ⟨⟨by decide +kernel, by decide +kernel⟩, List.mem_of_getElem? (i := 1196) (by decide +kernel), List.mem_of_getElem? (i := 1345) (by decide +kernel), List.mem_of_getElem? (i := 1346) (by decide +kernel)⟩
theorem lw_p39 : lw_okq (⟨"OneCableModel", "takeWord", "(I)V"⟩, 34) := ⟨⟨by decide +kernel, by decide +kernel⟩, List.mem_of_getElem? (i := 1196) (by decide +kernel), List.mem_of_getElem? (i := 1364) (by decide +kernel), List.mem_of_getElem? (i := 1365) (by decide +kernel)⟩
theorem lw_p40 : lw_okq (⟨"OneCableModel", "hasWord", "(I)Z"⟩, 34) := ⟨⟨by decide +kernel, by decide +kernel⟩, List.mem_of_getElem? (i := 1196) (by decide +kernel), List.mem_of_getElem? (i := 1368) (by decide +kernel), List.mem_of_getElem? (i := 1369) (by decide +kernel)⟩
theorem lw_p41 : lw_okq (⟨"OneCableModel", "isWord", "(I)Z"⟩, 34) := ⟨⟨by decide +kernel, by decide +kernel⟩, List.mem_of_getElem? (i := 1196) (by decide +kernel), List.mem_of_getElem? (i := 1372) (by decide +kernel), List.mem_of_getElem? (i := 1373) (by decide +kernel)⟩
theorem lw_p42 : lw_okq (⟨"OneCableModel", "wrong", "(I)V"⟩, 34) := ⟨⟨by decide +kernel, by decide +kernel⟩, List.mem_of_getElem? (i := 1196) (by decide +kernel), List.mem_of_getElem? (i := 1376) (by decide +kernel), List.mem_of_getElem? (i := 1377) (by decide +kernel)⟩
theorem lw_p43 : lw_okq (⟨"OneCableModel", "takeNumber", "(II)I"⟩, 34) := ⟨⟨by decide +kernel, by decide +kernel⟩, List.mem_of_getElem? (i := 1196) (by decide +kernel), List.mem_of_getElem? (i := 1380) (by decide +kernel), List.mem_of_getElem? (i := 1381) (by decide +kernel)⟩
theorem lw_p44 : lw_okq (⟨"OneCableModel", "takeSign", "(I)V"⟩, 34) := ⟨⟨by decide +kernel, by decide +kernel⟩, List.mem_of_getElem? (i := 1196) (by decide +kernel), List.mem_of_getElem? (i := 1384) (by decide +kernel), List.mem_of_getElem? (i := 1385) (by decide +kernel)⟩
theorem lw_p45 : lw_okq (⟨"OneCableModel", "isSign", "(I)Z"⟩, 34) := ⟨⟨by decide +kernel, by decide +kernel⟩, List.mem_of_getElem? (i := 1196) (by decide +kernel), List.mem_of_getElem? (i := 1388) (by decide +kernel), List.mem_of_getElem? (i := 1389) (by decide +kernel)⟩
theorem lw_p46 : lw_okq (⟨"OneCableModel", "readLine", "()V"⟩, 34) := ⟨⟨by decide +kernel, by decide +kernel⟩, List.mem_of_getElem? (i := 1196) (by decide +kernel), List.mem_of_getElem? (i := 1392) (by decide +kernel), List.mem_of_getElem? (i := 1393) (by decide +kernel)⟩
theorem lw_p47 : lw_okq (⟨"OneCableModel", "readCell", "()V"⟩, 34) := ⟨⟨by decide +kernel, by decide +kernel⟩, List.mem_of_getElem? (i := 1196) (by decide +kernel), List.mem_of_getElem? (i := 1396) (by decide +kernel), List.mem_of_getElem? (i := 1397) (by decide +kernel)⟩
def lw_privs_3 : List (MethodName × Nat) := [(⟨"OneCable$Council", "wished", "(III)I"⟩, 7), (⟨"java/lang/Throwable", "fillInStackTrace", "(I)Ljava/lang/Throwable;"⟩, 6), (⟨"OneCable$Storm", "lay", "(II)V"⟩, 8), (⟨"OneCable$Storm", "judge", "()V"⟩, 8), (⟨"OneCableModel", "lay", "(J)V"⟩, 34), (⟨"OneCableModel", "standsAsAlways", "(I)V"⟩, 34), (⟨"OneCableModel", "cutAll", "()V"⟩, 34), (⟨"OneCableModel", "takeWord", "(I)V"⟩, 34), (⟨"OneCableModel", "hasWord", "(I)Z"⟩, 34), (⟨"OneCableModel", "isWord", "(I)Z"⟩, 34), (⟨"OneCableModel", "wrong", "(I)V"⟩, 34), (⟨"OneCableModel", "takeNumber", "(II)I"⟩, 34), (⟨"OneCableModel", "takeSign", "(I)V"⟩, 34), (⟨"OneCableModel", "isSign", "(I)Z"⟩, 34), (⟨"OneCableModel", "readLine", "()V"⟩, 34), (⟨"OneCableModel", "readCell", "()V"⟩, 34)]
theorem lw_r3 : ∀ q ∈ lw_privs_3, lw_okq q := List.forall_mem_cons.mpr ⟨lw_p32, List.forall_mem_cons.mpr ⟨lw_p33, List.forall_mem_cons.mpr ⟨lw_p34, List.forall_mem_cons.mpr ⟨lw_p35, List.forall_mem_cons.mpr ⟨lw_p36, List.forall_mem_cons.mpr ⟨lw_p37, List.forall_mem_cons.mpr ⟨lw_p38, List.forall_mem_cons.mpr ⟨lw_p39, List.forall_mem_cons.mpr ⟨lw_p40, List.forall_mem_cons.mpr ⟨lw_p41, List.forall_mem_cons.mpr ⟨lw_p42, List.forall_mem_cons.mpr ⟨lw_p43, List.forall_mem_cons.mpr ⟨lw_p44, List.forall_mem_cons.mpr ⟨lw_p45, List.forall_mem_cons.mpr ⟨lw_p46, List.forall_mem_cons.mpr ⟨lw_p47, fun _ h => absurd h List.not_mem_nil⟩⟩⟩⟩⟩⟩⟩⟩⟩⟩⟩⟩⟩⟩⟩⟩
theorem lw_p48 : lw_okq (⟨"OneCableModel", "takeCell", "(I)I"⟩, 34) := ⟨⟨by decide +kernel, by decide +kernel⟩, List.mem_of_getElem? (i := 1196) (by decide +kernel), List.mem_of_getElem? (i := 1400) (by decide +kernel), List.mem_of_getElem? (i := 1401) (by decide +kernel)⟩
theorem lw_p49 : lw_okq (⟨"OneCableModel", "takeAfter", "(III)I"⟩, 34) := ⟨⟨by decide +kernel, by decide +kernel⟩, List.mem_of_getElem? (i := 1196) (by decide +kernel), List.mem_of_getElem? (i := 1404) (by decide +kernel), List.mem_of_getElem? (i := 1405) (by decide +kernel)⟩
theorem lw_p50 : lw_okq (⟨"OneCableModel", "readBoat", "()V"⟩, 34) := ⟨⟨by decide +kernel, by decide +kernel⟩, List.mem_of_getElem? (i := 1196) (by decide +kernel), List.mem_of_getElem? (i := 1408) (by decide +kernel), List.mem_of_getElem? (i := 1409) (by decide +kernel)⟩
theorem lw_p51 : lw_okq (⟨"OneCableModel", "isName", "()Z"⟩, 34) := ⟨⟨by decide +kernel, by decide +kernel⟩, List.mem_of_getElem? (i := 1196) (by decide +kernel), List.mem_of_getElem? (i := 1412) (by decide +kernel), List.mem_of_getElem? (i := 1413) (by decide +kernel)⟩
theorem lw_p52 : lw_okq (⟨"OneCableModel", "readCable", "()V"⟩, 34) := ⟨⟨by decide +kernel, by decide +kernel⟩, List.mem_of_getElem? (i := 1196) (by decide +kernel), List.mem_of_getElem? (i := 1416) (by decide +kernel), List.mem_of_getElem? (i := 1417) (by decide +kernel)⟩
theorem lw_p53 : lw_okq (⟨"OneCableModel", "readOnce", "()V"⟩, 34) := ⟨⟨by decide +kernel, by decide +kernel⟩, List.mem_of_getElem? (i := 1196) (by decide +kernel), List.mem_of_getElem? (i := 1420) (by decide +kernel), List.mem_of_getElem? (i := 1421) (by decide +kernel)⟩
theorem lw_p54 : lw_okq (⟨"OneCableModel", "all", "(I)V"⟩, 34) := ⟨⟨by decide +kernel, by decide +kernel⟩, List.mem_of_getElem? (i := 1196) (by decide +kernel), List.mem_of_getElem? (i := 1424) (by decide +kernel), List.mem_of_getElem? (i := 1425) (by decide +kernel)⟩
theorem lw_p55 : lw_okq (⟨"OneCableModel", "test", "(I)V"⟩, 34) := ⟨⟨by decide +kernel, by decide +kernel⟩, List.mem_of_getElem? (i := 1196) (by decide +kernel), List.mem_of_getElem? (i := 1428) (by decide +kernel), List.mem_of_getElem? (i := 1429) (by decide +kernel)⟩
theorem lw_p56 : lw_okq (⟨"OneCableModel", "sums", "(I)V"⟩, 34) := ⟨⟨by decide +kernel, by decide +kernel⟩, List.mem_of_getElem? (i := 1196) (by decide +kernel), List.mem_of_getElem? (i := 1432) (by decide +kernel), List.mem_of_getElem? (i := 1433) (by decide +kernel)⟩
theorem lw_p57 : lw_okq (⟨"OneCableModel", "products", "(I)V"⟩, 34) := ⟨⟨by decide +kernel, by decide +kernel⟩, List.mem_of_getElem? (i := 1196) (by decide +kernel), List.mem_of_getElem? (i := 1436) (by decide +kernel), List.mem_of_getElem? (i := 1437) (by decide +kernel)⟩
theorem lw_p58 : lw_okq (⟨"OneCableModel", "takePart", "(I)V"⟩, 34) := ⟨⟨by decide +kernel, by decide +kernel⟩, List.mem_of_getElem? (i := 1196) (by decide +kernel), List.mem_of_getElem? (i := 1440) (by decide +kernel), List.mem_of_getElem? (i := 1441) (by decide +kernel)⟩
theorem lw_p59 : lw_okq (⟨"OneCableModel", "emit", "(II)V"⟩, 34) := ⟨⟨by decide +kernel, by decide +kernel⟩, List.mem_of_getElem? (i := 1196) (by decide +kernel), List.mem_of_getElem? (i := 1444) (by decide +kernel), List.mem_of_getElem? (i := 1445) (by decide +kernel)⟩
theorem lw_p60 : lw_okq (⟨"OneCableModel", "hasSign", "(I)Z"⟩, 34) := ⟨⟨by decide +kernel, by decide +kernel⟩, List.mem_of_getElem? (i := 1196) (by decide +kernel), List.mem_of_getElem? (i := 1448) (by decide +kernel), List.mem_of_getElem? (i := 1449) (by decide +kernel)⟩
theorem lw_p61 : lw_okq (⟨"OneCableModel", "carry", "(II)V"⟩, 34) := ⟨⟨by decide +kernel, by decide +kernel⟩, List.mem_of_getElem? (i := 1196) (by decide +kernel), List.mem_of_getElem? (i := 1452) (by decide +kernel), List.mem_of_getElem? (i := 1453) (by decide +kernel)⟩
theorem lw_p62 : lw_okq (⟨"OneCableModel", "links", "()I"⟩, 34) := ⟨⟨by decide +kernel, by decide +kernel⟩, List.mem_of_getElem? (i := 1196) (by decide +kernel), List.mem_of_getElem? (i := 1456) (by decide +kernel), List.mem_of_getElem? (i := 1457) (by decide +kernel)⟩
theorem lw_p63 : lw_okq (⟨"OneCableModel", "boats", "()I"⟩, 34) := ⟨⟨by decide +kernel, by decide +kernel⟩, List.mem_of_getElem? (i := 1196) (by decide +kernel), List.mem_of_getElem? (i := 1460) (by decide +kernel), List.mem_of_getElem? (i := 1461) (by decide +kernel)⟩
def lw_privs_4 : List (MethodName × Nat) := [(⟨"OneCableModel", "takeCell", "(I)I"⟩, 34), (⟨"OneCableModel", "takeAfter", "(III)I"⟩, 34), (⟨"OneCableModel", "readBoat", "()V"⟩, 34), (⟨"OneCableModel", "isName", "()Z"⟩, 34), (⟨"OneCableModel", "readCable", "()V"⟩, 34), (⟨"OneCableModel", "readOnce", "()V"⟩, 34), (⟨"OneCableModel", "all", "(I)V"⟩, 34), (⟨"OneCableModel", "test", "(I)V"⟩, 34), (⟨"OneCableModel", "sums", "(I)V"⟩, 34), (⟨"OneCableModel", "products", "(I)V"⟩, 34), (⟨"OneCableModel", "takePart", "(I)V"⟩, 34), (⟨"OneCableModel", "emit", "(II)V"⟩, 34), (⟨"OneCableModel", "hasSign", "(I)Z"⟩, 34), (⟨"OneCableModel", "carry", "(II)V"⟩, 34), (⟨"OneCableModel", "links", "()I"⟩, 34), (⟨"OneCableModel", "boats", "()I"⟩, 34)]
theorem lw_r4 : ∀ q ∈ lw_privs_4, lw_okq q := List.forall_mem_cons.mpr ⟨lw_p48, List.forall_mem_cons.mpr ⟨lw_p49, List.forall_mem_cons.mpr ⟨lw_p50, List.forall_mem_cons.mpr ⟨lw_p51, List.forall_mem_cons.mpr ⟨lw_p52, List.forall_mem_cons.mpr ⟨lw_p53, List.forall_mem_cons.mpr ⟨lw_p54, List.forall_mem_cons.mpr ⟨lw_p55, List.forall_mem_cons.mpr ⟨lw_p56, List.forall_mem_cons.mpr ⟨lw_p57, List.forall_mem_cons.mpr ⟨lw_p58, List.forall_mem_cons.mpr ⟨lw_p59, List.forall_mem_cons.mpr ⟨lw_p60, List.forall_mem_cons.mpr ⟨lw_p61, List.forall_mem_cons.mpr ⟨lw_p62, List.forall_mem_cons.mpr ⟨lw_p63, fun _ h => absurd h List.not_mem_nil⟩⟩⟩⟩⟩⟩⟩⟩⟩⟩⟩⟩⟩⟩⟩⟩
theorem lw_p64 : lw_okq (⟨"OneCableModel", "apart", "(I)I"⟩, 34) := ⟨⟨by decide +kernel, by decide +kernel⟩, List.mem_of_getElem? (i := 1196) (by decide +kernel), List.mem_of_getElem? (i := 1464) (by decide +kernel), List.mem_of_getElem? (i := 1465) (by decide +kernel)⟩
theorem lw_p65 : lw_okq (⟨"OneCableModel", "of", "(II)I"⟩, 34) := ⟨⟨by decide +kernel, by decide +kernel⟩, List.mem_of_getElem? (i := 1196) (by decide +kernel), List.mem_of_getElem? (i := 1468) (by decide +kernel), List.mem_of_getElem? (i := 1469) (by decide +kernel)⟩
theorem lw_p66 : lw_okq (⟨"OneCableModel", "isBoat", "(I)Z"⟩, 34) := ⟨⟨by decide +kernel, by decide +kernel⟩, List.mem_of_getElem? (i := 1196) (by decide +kernel), List.mem_of_getElem? (i := 1479) (by decide +kernel), List.mem_of_getElem? (i := 1480) (by decide +kernel)⟩
theorem lw_p67 : lw_okq (⟨"OneCableModel", "holds", "(I)I"⟩, 34) := ⟨⟨by decide +kernel, by decide +kernel⟩, List.mem_of_getElem? (i := 1196) (by decide +kernel), List.mem_of_getElem? (i := 1483) (by decide +kernel), List.mem_of_getElem? (i := 1484) (by decide +kernel)⟩
theorem lw_p68 : lw_okq (⟨"OneCableModel", "forceAt", "(IIIII)I"⟩, 34) := ⟨⟨by decide +kernel, by decide +kernel⟩, List.mem_of_getElem? (i := 1196) (by decide +kernel), List.mem_of_getElem? (i := 1487) (by decide +kernel), List.mem_of_getElem? (i := 1488) (by decide +kernel)⟩
theorem lw_p69 : lw_okq (⟨"OneCableModel", "swellAt", "(IIII)I"⟩, 34) := ⟨⟨by decide +kernel, by decide +kernel⟩, List.mem_of_getElem? (i := 1196) (by decide +kernel), List.mem_of_getElem? (i := 1491) (by decide +kernel), List.mem_of_getElem? (i := 1492) (by decide +kernel)⟩
theorem lw_p70 : lw_okq (⟨"OneCableModel", "worthAt", "(I)I"⟩, 34) := ⟨⟨by decide +kernel, by decide +kernel⟩, List.mem_of_getElem? (i := 1196) (by decide +kernel), List.mem_of_getElem? (i := 1495) (by decide +kernel), List.mem_of_getElem? (i := 1496) (by decide +kernel)⟩
theorem lw_p71 : lw_okq (⟨"OneCableModel", "pullOf", "(I)I"⟩, 34) := ⟨⟨by decide +kernel, by decide +kernel⟩, List.mem_of_getElem? (i := 1196) (by decide +kernel), List.mem_of_getElem? (i := 1502) (by decide +kernel), List.mem_of_getElem? (i := 1503) (by decide +kernel)⟩
theorem lw_p72 : lw_okq (⟨"OneCableModel", "firstOf", "(I)I"⟩, 34) := ⟨⟨by decide +kernel, by decide +kernel⟩, List.mem_of_getElem? (i := 1196) (by decide +kernel), List.mem_of_getElem? (i := 1506) (by decide +kernel), List.mem_of_getElem? (i := 1507) (by decide +kernel)⟩
theorem lw_p73 : lw_okq (⟨"OneCableModel", "isTorn", "(I)Z"⟩, 34) := ⟨⟨by decide +kernel, by decide +kernel⟩, List.mem_of_getElem? (i := 1196) (by decide +kernel), List.mem_of_getElem? (i := 1510) (by decide +kernel), List.mem_of_getElem? (i := 1511) (by decide +kernel)⟩
theorem lw_p74 : lw_okq (⟨"OneCableModel", "isLink", "(I)Z"⟩, 34) := ⟨⟨by decide +kernel, by decide +kernel⟩, List.mem_of_getElem? (i := 1196) (by decide +kernel), List.mem_of_getElem? (i := 1518) (by decide +kernel), List.mem_of_getElem? (i := 1519) (by decide +kernel)⟩
theorem lw_p75 : lw_okq (⟨"OneCableModel", "findForces", "(IIII)V"⟩, 34) := ⟨⟨by decide +kernel, by decide +kernel⟩, List.mem_of_getElem? (i := 1196) (by decide +kernel), List.mem_of_getElem? (i := 1525) (by decide +kernel), List.mem_of_getElem? (i := 1526) (by decide +kernel)⟩
theorem lw_p76 : lw_okq (⟨"OneCableModel", "lastOf", "(I)I"⟩, 34) := ⟨⟨by decide +kernel, by decide +kernel⟩, List.mem_of_getElem? (i := 1196) (by decide +kernel), List.mem_of_getElem? (i := 1529) (by decide +kernel), List.mem_of_getElem? (i := 1530) (by decide +kernel)⟩
theorem lw_p77 : lw_okq (⟨"OneCableModel", "strain", "(III)I"⟩, 34) := ⟨⟨by decide +kernel, by decide +kernel⟩, List.mem_of_getElem? (i := 1196) (by decide +kernel), List.mem_of_getElem? (i := 1533) (by decide +kernel), List.mem_of_getElem? (i := 1534) (by decide +kernel)⟩
theorem lw_p78 : lw_okq (⟨"OneCableModel", "isIn", "(II)Z"⟩, 34) := ⟨⟨by decide +kernel, by decide +kernel⟩, List.mem_of_getElem? (i := 1196) (by decide +kernel), List.mem_of_getElem? (i := 1541) (by decide +kernel), List.mem_of_getElem? (i := 1542) (by decide +kernel)⟩
theorem lw_p79 : lw_okq (⟨"OneCableModel", "passes", "()V"⟩, 34) := ⟨⟨by decide +kernel, by decide +kernel⟩, List.mem_of_getElem? (i := 1196) (by decide +kernel), List.mem_of_getElem? (i := 1553) (by decide +kernel), List.mem_of_getElem? (i := 1554) (by decide +kernel)⟩
def lw_privs_5 : List (MethodName × Nat) := [(⟨"OneCableModel", "apart", "(I)I"⟩, 34), (⟨"OneCableModel", "of", "(II)I"⟩, 34), (⟨"OneCableModel", "isBoat", "(I)Z"⟩, 34), (⟨"OneCableModel", "holds", "(I)I"⟩, 34), (⟨"OneCableModel", "forceAt", "(IIIII)I"⟩, 34), (⟨"OneCableModel", "swellAt", "(IIII)I"⟩, 34), (⟨"OneCableModel", "worthAt", "(I)I"⟩, 34), (⟨"OneCableModel", "pullOf", "(I)I"⟩, 34), (⟨"OneCableModel", "firstOf", "(I)I"⟩, 34), (⟨"OneCableModel", "isTorn", "(I)Z"⟩, 34), (⟨"OneCableModel", "isLink", "(I)Z"⟩, 34), (⟨"OneCableModel", "findForces", "(IIII)V"⟩, 34), (⟨"OneCableModel", "lastOf", "(I)I"⟩, 34), (⟨"OneCableModel", "strain", "(III)I"⟩, 34), (⟨"OneCableModel", "isIn", "(II)Z"⟩, 34), (⟨"OneCableModel", "passes", "()V"⟩, 34)]
theorem lw_r5 : ∀ q ∈ lw_privs_5, lw_okq q := List.forall_mem_cons.mpr ⟨lw_p64, List.forall_mem_cons.mpr ⟨lw_p65, List.forall_mem_cons.mpr ⟨lw_p66, List.forall_mem_cons.mpr ⟨lw_p67, List.forall_mem_cons.mpr ⟨lw_p68, List.forall_mem_cons.mpr ⟨lw_p69, List.forall_mem_cons.mpr ⟨lw_p70, List.forall_mem_cons.mpr ⟨lw_p71, List.forall_mem_cons.mpr ⟨lw_p72, List.forall_mem_cons.mpr ⟨lw_p73, List.forall_mem_cons.mpr ⟨lw_p74, List.forall_mem_cons.mpr ⟨lw_p75, List.forall_mem_cons.mpr ⟨lw_p76, List.forall_mem_cons.mpr ⟨lw_p77, List.forall_mem_cons.mpr ⟨lw_p78, List.forall_mem_cons.mpr ⟨lw_p79, fun _ h => absurd h List.not_mem_nil⟩⟩⟩⟩⟩⟩⟩⟩⟩⟩⟩⟩⟩⟩⟩⟩
theorem lw_p80 : lw_okq (⟨"OneCableModel", "goesAll", "()V"⟩, 34) := ⟨⟨by decide +kernel, by decide +kernel⟩, List.mem_of_getElem? (i := 1196) (by decide +kernel), List.mem_of_getElem? (i := 1557) (by decide +kernel), List.mem_of_getElem? (i := 1558) (by decide +kernel)⟩
theorem lw_p81 : lw_okq (⟨"OneCableModel", "canGo", "(IIIIII)Z"⟩, 34) := ⟨⟨by decide +kernel, by decide +kernel⟩, List.mem_of_getElem? (i := 1196) (by decide +kernel), List.mem_of_getElem? (i := 1561) (by decide +kernel), List.mem_of_getElem? (i := 1562) (by decide +kernel)⟩
theorem lw_p82 : lw_okq (⟨"OneCableModel", "isWater", "(II)Z"⟩, 34) := ⟨⟨by decide +kernel, by decide +kernel⟩, List.mem_of_getElem? (i := 1196) (by decide +kernel), List.mem_of_getElem? (i := 1571) (by decide +kernel), List.mem_of_getElem? (i := 1572) (by decide +kernel)⟩
theorem lw_p83 : lw_okq (⟨"OneCableModel", "tearsAll", "()V"⟩, 34) := ⟨⟨by decide +kernel, by decide +kernel⟩, List.mem_of_getElem? (i := 1196) (by decide +kernel), List.mem_of_getElem? (i := 1575) (by decide +kernel), List.mem_of_getElem? (i := 1576) (by decide +kernel)⟩
theorem lw_p84 : lw_okq (⟨"OneCableModel", "wouldTear", "(I)Z"⟩, 34) := ⟨⟨by decide +kernel, by decide +kernel⟩, List.mem_of_getElem? (i := 1196) (by decide +kernel), List.mem_of_getElem? (i := 1579) (by decide +kernel), List.mem_of_getElem? (i := 1580) (by decide +kernel)⟩
theorem lw_p85 : lw_okq (⟨"OneCableModel", "strongOf", "(I)I"⟩, 34) := ⟨⟨by decide +kernel, by decide +kernel⟩, List.mem_of_getElem? (i := 1196) (by decide +kernel), List.mem_of_getElem? (i := 1583) (by decide +kernel), List.mem_of_getElem? (i := 1584) (by decide +kernel)⟩
theorem lw_p86 : lw_okq (⟨"OneCableModel", "catches", "(IIII)I"⟩, 34) := ⟨⟨by decide +kernel, by decide +kernel⟩, List.mem_of_getElem? (i := 1196) (by decide +kernel), List.mem_of_getElem? (i := 1587) (by decide +kernel), List.mem_of_getElem? (i := 1588) (by decide +kernel)⟩
theorem lw_p87 : lw_okq (⟨"OneCableModel", "takes", "(IIII)V"⟩, 34) := ⟨⟨by decide +kernel, by decide +kernel⟩, List.mem_of_getElem? (i := 1196) (by decide +kernel), List.mem_of_getElem? (i := 1591) (by decide +kernel), List.mem_of_getElem? (i := 1592) (by decide +kernel)⟩
theorem lw_p88 : lw_okq (⟨"OneCableModel", "sweeps", "(III)V"⟩, 34) := ⟨⟨by decide +kernel, by decide +kernel⟩, List.mem_of_getElem? (i := 1196) (by decide +kernel), List.mem_of_getElem? (i := 1595) (by decide +kernel), List.mem_of_getElem? (i := 1596) (by decide +kernel)⟩
theorem lw_p89 : lw_okq (⟨"OneCableModel", "canBe", "(IIII)Z"⟩, 34) := ⟨⟨by decide +kernel, by decide +kernel⟩, List.mem_of_getElem? (i := 1196) (by decide +kernel), List.mem_of_getElem? (i := 1607) (by decide +kernel), List.mem_of_getElem? (i := 1608) (by decide +kernel)⟩
theorem lw_p90 : lw_okq (⟨"OneCableModel", "findSoon", "(III)I"⟩, 34) := ⟨⟨by decide +kernel, by decide +kernel⟩, List.mem_of_getElem? (i := 1196) (by decide +kernel), List.mem_of_getElem? (i := 1615) (by decide +kernel), List.mem_of_getElem? (i := 1616) (by decide +kernel)⟩
theorem lw_p91 : lw_okq (⟨"OneCableModel", "isGoal", "(IIII)Z"⟩, 34) := ⟨⟨by decide +kernel, by decide +kernel⟩, List.mem_of_getElem? (i := 1196) (by decide +kernel), List.mem_of_getElem? (i := 1619) (by decide +kernel), List.mem_of_getElem? (i := 1620) (by decide +kernel)⟩
theorem lw_p92 : lw_okq (⟨"OneCableModel", "behind", "(IIIII)I"⟩, 34) := ⟨⟨by decide +kernel, by decide +kernel⟩, List.mem_of_getElem? (i := 1196) (by decide +kernel), List.mem_of_getElem? (i := 1623) (by decide +kernel), List.mem_of_getElem? (i := 1624) (by decide +kernel)⟩
theorem lw_p93 : lw_okq (⟨"OneCableModel", "findLeads", "(IIII)V"⟩, 34) := ⟨⟨by decide +kernel, by decide +kernel⟩, List.mem_of_getElem? (i := 1196) (by decide +kernel), List.mem_of_getElem? (i := 1627) (by decide +kernel), List.mem_of_getElem? (i := 1628) (by decide +kernel)⟩
theorem lw_p94 : lw_okq (⟨"OneCableModel", "canAll", "(I)Z"⟩, 34) := ⟨⟨by decide +kernel, by decide +kernel⟩, List.mem_of_getElem? (i := 1196) (by decide +kernel), List.mem_of_getElem? (i := 1635) (by decide +kernel), List.mem_of_getElem? (i := 1636) (by decide +kernel)⟩
theorem lw_p95 : lw_okq (⟨"OneCableModel", "wishOf", "(II)I"⟩, 34) := ⟨⟨by decide +kernel, by decide +kernel⟩, List.mem_of_getElem? (i := 1196) (by decide +kernel), List.mem_of_getElem? (i := 1639) (by decide +kernel), List.mem_of_getElem? (i := 1640) (by decide +kernel)⟩
def lw_privs_6 : List (MethodName × Nat) := [(⟨"OneCableModel", "goesAll", "()V"⟩, 34), (⟨"OneCableModel", "canGo", "(IIIIII)Z"⟩, 34), (⟨"OneCableModel", "isWater", "(II)Z"⟩, 34), (⟨"OneCableModel", "tearsAll", "()V"⟩, 34), (⟨"OneCableModel", "wouldTear", "(I)Z"⟩, 34), (⟨"OneCableModel", "strongOf", "(I)I"⟩, 34), (⟨"OneCableModel", "catches", "(IIII)I"⟩, 34), (⟨"OneCableModel", "takes", "(IIII)V"⟩, 34), (⟨"OneCableModel", "sweeps", "(III)V"⟩, 34), (⟨"OneCableModel", "canBe", "(IIII)Z"⟩, 34), (⟨"OneCableModel", "findSoon", "(III)I"⟩, 34), (⟨"OneCableModel", "isGoal", "(IIII)Z"⟩, 34), (⟨"OneCableModel", "behind", "(IIIII)I"⟩, 34), (⟨"OneCableModel", "findLeads", "(IIII)V"⟩, 34), (⟨"OneCableModel", "canAll", "(I)Z"⟩, 34), (⟨"OneCableModel", "wishOf", "(II)I"⟩, 34)]
theorem lw_r6 : ∀ q ∈ lw_privs_6, lw_okq q := List.forall_mem_cons.mpr ⟨lw_p80, List.forall_mem_cons.mpr ⟨lw_p81, List.forall_mem_cons.mpr ⟨lw_p82, List.forall_mem_cons.mpr ⟨lw_p83, List.forall_mem_cons.mpr ⟨lw_p84, List.forall_mem_cons.mpr ⟨lw_p85, List.forall_mem_cons.mpr ⟨lw_p86, List.forall_mem_cons.mpr ⟨lw_p87, List.forall_mem_cons.mpr ⟨lw_p88, List.forall_mem_cons.mpr ⟨lw_p89, List.forall_mem_cons.mpr ⟨lw_p90, List.forall_mem_cons.mpr ⟨lw_p91, List.forall_mem_cons.mpr ⟨lw_p92, List.forall_mem_cons.mpr ⟨lw_p93, List.forall_mem_cons.mpr ⟨lw_p94, List.forall_mem_cons.mpr ⟨lw_p95, fun _ h => absurd h List.not_mem_nil⟩⟩⟩⟩⟩⟩⟩⟩⟩⟩⟩⟩⟩⟩⟩⟩
theorem lw_p96 : lw_okq (⟨"OneCableModel", "isAnyBest", "(I)Z"⟩, 34) := ⟨⟨by decide +kernel, by decide +kernel⟩, List.mem_of_getElem? (i := 1196) (by decide +kernel), List.mem_of_getElem? (i := 1647) (by decide +kernel), List.mem_of_getElem? (i := 1648) (by decide +kernel)⟩
theorem lw_p97 : lw_okq (⟨"OneCableModel", "isBestOf", "(II)Z"⟩, 34) := ⟨⟨by decide +kernel, by decide +kernel⟩, List.mem_of_getElem? (i := 1196) (by decide +kernel), List.mem_of_getElem? (i := 1651) (by decide +kernel), List.mem_of_getElem? (i := 1652) (by decide +kernel)⟩
theorem lw_p98 : lw_okq (⟨"OneCableModel", "sumFor", "(II)I"⟩, 34) := ⟨⟨by decide +kernel, by decide +kernel⟩, List.mem_of_getElem? (i := 1196) (by decide +kernel), List.mem_of_getElem? (i := 1655) (by decide +kernel), List.mem_of_getElem? (i := 1656) (by decide +kernel)⟩
theorem lw_p99 : lw_okq (⟨"OneCableModel", "isRun", "(II)Z"⟩, 34) := ⟨⟨by decide +kernel, by decide +kernel⟩, List.mem_of_getElem? (i := 1196) (by decide +kernel), List.mem_of_getElem? (i := 1667) (by decide +kernel), List.mem_of_getElem? (i := 1668) (by decide +kernel)⟩
theorem lw_p100 : lw_okq (⟨"OneCableModel", "tries", "(II)V"⟩, 34) := ⟨⟨by decide +kernel, by decide +kernel⟩, List.mem_of_getElem? (i := 1196) (by decide +kernel), List.mem_of_getElem? (i := 1687) (by decide +kernel), List.mem_of_getElem? (i := 1688) (by decide +kernel)⟩
theorem lw_p101 : lw_okq (⟨"OneCableModel", "over", "()I"⟩, 34) := ⟨⟨by decide +kernel, by decide +kernel⟩, List.mem_of_getElem? (i := 1196) (by decide +kernel), List.mem_of_getElem? (i := 1691) (by decide +kernel), List.mem_of_getElem? (i := 1692) (by decide +kernel)⟩
theorem lw_p102 : lw_okq (⟨"OneCableModel", "draw", "(I)I"⟩, 34) := ⟨⟨by decide +kernel, by decide +kernel⟩, List.mem_of_getElem? (i := 1196) (by decide +kernel), List.mem_of_getElem? (i := 1704) (by decide +kernel), List.mem_of_getElem? (i := 1705) (by decide +kernel)⟩
def lw_privs_7 : List (MethodName × Nat) := [(⟨"OneCableModel", "isAnyBest", "(I)Z"⟩, 34), (⟨"OneCableModel", "isBestOf", "(II)Z"⟩, 34), (⟨"OneCableModel", "sumFor", "(II)I"⟩, 34), (⟨"OneCableModel", "isRun", "(II)Z"⟩, 34), (⟨"OneCableModel", "tries", "(II)V"⟩, 34), (⟨"OneCableModel", "over", "()I"⟩, 34), (⟨"OneCableModel", "draw", "(I)I"⟩, 34)]
theorem lw_r7 : ∀ q ∈ lw_privs_7, lw_okq q := List.forall_mem_cons.mpr ⟨lw_p96, List.forall_mem_cons.mpr ⟨lw_p97, List.forall_mem_cons.mpr ⟨lw_p98, List.forall_mem_cons.mpr ⟨lw_p99, List.forall_mem_cons.mpr ⟨lw_p100, List.forall_mem_cons.mpr ⟨lw_p101, List.forall_mem_cons.mpr ⟨lw_p102, fun _ h => absurd h List.not_mem_nil⟩⟩⟩⟩⟩⟩⟩
def lw_privs : List (MethodName × Nat) := lw_privs_1 ++ (lw_privs_2 ++ (lw_privs_3 ++ (lw_privs_4 ++ (lw_privs_5 ++ (lw_privs_6 ++ (lw_privs_7))))))
def lw_tbl : List Cond := k2_sels lw_privs ++ tables_1
theorem lw_privs_ok : ∀ q ∈ lw_privs, lw_okq q := by
  show ∀ q ∈ lw_privs_1 ++ (lw_privs_2 ++ (lw_privs_3 ++ (lw_privs_4 ++ (lw_privs_5 ++ (lw_privs_6 ++ (lw_privs_7)))))), lw_okq q
  exact List.forall_mem_append.mpr ⟨lw_r1, List.forall_mem_append.mpr ⟨lw_r2, List.forall_mem_append.mpr ⟨lw_r3, List.forall_mem_append.mpr ⟨lw_r4, List.forall_mem_append.mpr ⟨lw_r5, List.forall_mem_append.mpr ⟨lw_r6, lw_r7⟩⟩⟩⟩⟩⟩
end
section
def RX0 : String := "OneCable$Bay"
def TX0 : u_T := fun k => match k with
  | 0 => ("OneCable$Bay", "wide", "I", false)
  | 1 => ("OneCable$Bay", "deep", "I", false)
  | 2 => ("OneCable$Bay", "boats", "I", false)
  | 3 => ("OneCable$Bay", "gales", "I", false)
  | 4 => ("OneCable$Bay", "loose", "I", false)
  | 5 => ("OneCable$Bay", "rock", "[I", true)
  | 6 => ("OneCable$Bay", "shoal", "[I", true)
  | 7 => ("OneCable$Bay", "kind", "[I", true)
  | 8 => ("OneCable$Bay", "homeX", "[I", true)
  | 9 => ("OneCable$Bay", "homeY", "[I", true)
  | 10 => ("OneCable$Bay", "hold", "[I", true)
  | 11 => ("OneCable$Bay", "pull", "[I", true)
  | 12 => ("OneCable$Bay", "trust", "[I", true)
  | 13 => ("OneCable$Bay", "lengths", "[I", true)
  | 14 => ("OneCable$Bay", "strong", "[I", true)
  | 15 => ("OneCable$Bay", "swellLaw", "LOneCable$Law;", true)
  | _ => ("OneCable$Bay", "wishLaw", "LOneCable$Law;", true)
def tyX0 : Nat → FieldType := fun k => match k with
  | 0 => .int
  | 1 => .int
  | 2 => .int
  | 3 => .int
  | 4 => .int
  | 5 => .array .int
  | 6 => .array .int
  | 7 => .array .int
  | 8 => .array .int
  | 9 => .array .int
  | 10 => .array .int
  | 11 => .array .int
  | 12 => .array .int
  | 13 => .array .int
  | 14 => .array .int
  | 15 => .object "OneCable$Law"
  | _ => .object "OneCable$Law"
theorem nmX0 : ∀ a, a < 17 → ∀ b, b < 17 → a ≠ b → (TX0 a).2.1 ≠ (TX0 b).2.1 := by decide +kernel
theorem tyX0_ok : ∀ k, k < 17 → parseFieldDescriptor (TX0 k).2.2.1 = some (tyX0 k) := by decide +kernel
def RX1 : String := "OneCable$Cable"
def TX1 : u_T := fun k => match k with
  | 0 => ("OneCable$Cable", "bay", "LOneCable$Bay;", true)
  | 1 => ("OneCable$Cable", "now", "LOneCable$State;", true)
  | 2 => ("OneCable$Cable", "sea", "LOneCable$Sea;", true)
  | _ => ("OneCable$Cable", "before", "[I", true)
def tyX1 : Nat → FieldType := fun k => match k with
  | 0 => .object "OneCable$Bay"
  | 1 => .object "OneCable$State"
  | 2 => .object "OneCable$Sea"
  | _ => .array .int
theorem nmX1 : ∀ a, a < 4 → ∀ b, b < 4 → a ≠ b → (TX1 a).2.1 ≠ (TX1 b).2.1 := by decide +kernel
theorem tyX1_ok : ∀ k, k < 4 → parseFieldDescriptor (TX1 k).2.2.1 = some (tyX1 k) := by decide +kernel
def RX2 : String := "OneCable$Council"
def TX2 : u_T := fun k => match k with
  | 0 => ("OneCable$Council", "bay", "LOneCable$Bay;", true)
  | 1 => ("OneCable$Council", "now", "LOneCable$State;", true)
  | 2 => ("OneCable$Council", "sea", "LOneCable$Sea;", true)
  | 3 => ("OneCable$Council", "cable", "LOneCable$Cable;", true)
  | 4 => ("OneCable$Council", "can", "[Z", true)
  | 5 => ("OneCable$Council", "wishes", "[I", true)
  | _ => ("OneCable$Council", "facts", "[I", true)
def tyX2 : Nat → FieldType := fun k => match k with
  | 0 => .object "OneCable$Bay"
  | 1 => .object "OneCable$State"
  | 2 => .object "OneCable$Sea"
  | 3 => .object "OneCable$Cable"
  | 4 => .array .boolean
  | 5 => .array .int
  | _ => .array .int
theorem nmX2 : ∀ a, a < 7 → ∀ b, b < 7 → a ≠ b → (TX2 a).2.1 ≠ (TX2 b).2.1 := by decide +kernel
theorem tyX2_ok : ∀ k, k < 7 → parseFieldDescriptor (TX2 k).2.2.1 = some (tyX2 k) := by decide +kernel
def RX3 : String := "OneCable$Course"
def TX3 : u_T := fun k => match k with
  | 0 => ("OneCable$Course", "bay", "LOneCable$Bay;", true)
  | 1 => ("OneCable$Course", "now", "LOneCable$State;", true)
  | 2 => ("OneCable$Course", "cable", "LOneCable$Cable;", true)
  | 3 => ("OneCable$Course", "nets", "LOneCable$Nets;", true)
  | 4 => ("OneCable$Course", "moves", "[I", true)
  | 5 => ("OneCable$Course", "sort", "[I", true)
  | 6 => ("OneCable$Course", "seen", "[I", true)
  | 7 => ("OneCable$Course", "stop", "[I", true)
  | 8 => ("OneCable$Course", "cameBy", "[I", true)
  | 9 => ("OneCable$Course", "from", "I", false)
  | 10 => ("OneCable$Course", "to", "I", false)
  | _ => ("OneCable$Course", "stops", "I", false)
def tyX3 : Nat → FieldType := fun k => match k with
  | 0 => .object "OneCable$Bay"
  | 1 => .object "OneCable$State"
  | 2 => .object "OneCable$Cable"
  | 3 => .object "OneCable$Nets"
  | 4 => .array .int
  | 5 => .array .int
  | 6 => .array .int
  | 7 => .array .int
  | 8 => .array .int
  | 9 => .int
  | 10 => .int
  | _ => .int
theorem nmX3 : ∀ a, a < 12 → ∀ b, b < 12 → a ≠ b → (TX3 a).2.1 ≠ (TX3 b).2.1 := by decide +kernel
theorem tyX3_ok : ∀ k, k < 12 → parseFieldDescriptor (TX3 k).2.2.1 = some (tyX3 k) := by decide +kernel
def RX4 : String := "OneCable$Law"
def TX4 : u_T := fun k => match k with
  | 0 => ("OneCable$Law", "codes", "[I", true)
  | 1 => ("OneCable$Law", "stack", "[I", true)
  | _ => ("OneCable$Law", "size", "I", false)
def tyX4 : Nat → FieldType := fun k => match k with
  | 0 => .array .int
  | 1 => .array .int
  | _ => .int
theorem nmX4 : ∀ a, a < 3 → ∀ b, b < 3 → a ≠ b → (TX4 a).2.1 ≠ (TX4 b).2.1 := by decide +kernel
theorem tyX4_ok : ∀ k, k < 3 → parseFieldDescriptor (TX4 k).2.2.1 = some (tyX4 k) := by decide +kernel
def RX5 : String := "OneCable$Nets"
def TX5 : u_T := fun k => match k with
  | 0 => ("OneCable$Nets", "bay", "LOneCable$Bay;", true)
  | 1 => ("OneCable$Nets", "now", "LOneCable$State;", true)
  | 2 => ("OneCable$Nets", "fish", "[I", true)
  | 3 => ("OneCable$Nets", "room", "[I", true)
  | _ => ("OneCable$Nets", "together", "[I", true)
def tyX5 : Nat → FieldType := fun k => match k with
  | 0 => .object "OneCable$Bay"
  | 1 => .object "OneCable$State"
  | 2 => .array .int
  | 3 => .array .int
  | _ => .array .int
theorem nmX5 : ∀ a, a < 5 → ∀ b, b < 5 → a ≠ b → (TX5 a).2.1 ≠ (TX5 b).2.1 := by decide +kernel
theorem tyX5_ok : ∀ k, k < 5 → parseFieldDescriptor (TX5 k).2.2.1 = some (tyX5 k) := by decide +kernel
def RX6 : String := "OneCable$Sea"
def TX6 : u_T := fun k => match k with
  | 0 => ("OneCable$Sea", "bay", "LOneCable$Bay;", true)
  | 1 => ("OneCable$Sea", "known", "[I", true)
  | _ => ("OneCable$Sea", "facts", "[I", true)
def tyX6 : Nat → FieldType := fun k => match k with
  | 0 => .object "OneCable$Bay"
  | 1 => .array .int
  | _ => .array .int
theorem nmX6 : ∀ a, a < 3 → ∀ b, b < 3 → a ≠ b → (TX6 a).2.1 ≠ (TX6 b).2.1 := by decide +kernel
theorem tyX6_ok : ∀ k, k < 3 → parseFieldDescriptor (TX6 k).2.2.1 = some (tyX6 k) := by decide +kernel
def RX7 : String := "OneCable$State"
def TX7 : u_T := fun k => match k with
  | 0 => ("OneCable$State", "laid", "Z", false)
  | 1 => ("OneCable$State", "hour", "I", false)
  | 2 => ("OneCable$State", "fish", "[I", true)
  | 3 => ("OneCable$State", "x", "[I", true)
  | 4 => ("OneCable$State", "y", "[I", true)
  | 5 => ("OneCable$State", "caught", "[I", true)
  | 6 => ("OneCable$State", "ways", "[I", true)
  | 7 => ("OneCable$State", "shares", "[I", true)
  | _ => ("OneCable$State", "torn", "[I", true)
def tyX7 : Nat → FieldType := fun k => match k with
  | 0 => .boolean
  | 1 => .int
  | 2 => .array .int
  | 3 => .array .int
  | 4 => .array .int
  | 5 => .array .int
  | 6 => .array .int
  | 7 => .array .int
  | _ => .array .int
theorem nmX7 : ∀ a, a < 9 → ∀ b, b < 9 → a ≠ b → (TX7 a).2.1 ≠ (TX7 b).2.1 := by decide +kernel
theorem tyX7_ok : ∀ k, k < 9 → parseFieldDescriptor (TX7 k).2.2.1 = some (tyX7 k) := by decide +kernel
def RX8 : String := "OneCable$Storm"
def TX8 : u_T := fun k => match k with
  | 0 => ("OneCable$Storm", "bay", "LOneCable$Bay;", true)
  | 1 => ("OneCable$Storm", "now", "LOneCable$State;", true)
  | 2 => ("OneCable$Storm", "sea", "LOneCable$Sea;", true)
  | 3 => ("OneCable$Storm", "cable", "LOneCable$Cable;", true)
  | 4 => ("OneCable$Storm", "forces", "[I", true)
  | 5 => ("OneCable$Storm", "row", "[I", true)
  | 6 => ("OneCable$Storm", "best", "[I", true)
  | _ => ("OneCable$Storm", "least", "I", false)
def tyX8 : Nat → FieldType := fun k => match k with
  | 0 => .object "OneCable$Bay"
  | 1 => .object "OneCable$State"
  | 2 => .object "OneCable$Sea"
  | 3 => .object "OneCable$Cable"
  | 4 => .array .int
  | 5 => .array .int
  | 6 => .array .int
  | _ => .int
theorem nmX8 : ∀ a, a < 8 → ∀ b, b < 8 → a ≠ b → (TX8 a).2.1 ≠ (TX8 b).2.1 := by decide +kernel
theorem tyX8_ok : ∀ k, k < 8 → parseFieldDescriptor (TX8 k).2.2.1 = some (tyX8 k) := by decide +kernel
def RX9 : String := "OneCable$Tape"
def TX9 : u_T := fun k => match k with
  | 0 => ("OneCable$Tape", "signs", "[B", true)
  | 1 => ("OneCable$Tape", "length", "I", false)
  | 2 => ("OneCable$Tape", "place", "I", false)
  | 3 => ("OneCable$Tape", "after", "I", false)
  | 4 => ("OneCable$Tape", "token", "I", false)
  | _ => ("OneCable$Tape", "value", "I", false)
def tyX9 : Nat → FieldType := fun k => match k with
  | 0 => .array .byte
  | 1 => .int
  | 2 => .int
  | 3 => .int
  | 4 => .int
  | _ => .int
theorem nmX9 : ∀ a, a < 6 → ∀ b, b < 6 → a ≠ b → (TX9 a).2.1 ≠ (TX9 b).2.1 := by decide +kernel
theorem tyX9_ok : ∀ k, k < 6 → parseFieldDescriptor (TX9 k).2.2.1 = some (tyX9 k) := by decide +kernel
def RX10 : String := "OneCable$Telling"
def TX10 : u_T := fun k => match k with
  | 0 => ("OneCable$Telling", "tape", "LOneCable$Tape;", true)
  | 1 => ("OneCable$Telling", "draft", "LOneCable$Bay;", true)
  | 2 => ("OneCable$Telling", "nameFrom", "[I", true)
  | 3 => ("OneCable$Telling", "nameTo", "[I", true)
  | 4 => ("OneCable$Telling", "linksTold", "I", false)
  | 5 => ("OneCable$Telling", "onceTold", "I", false)
  | 6 => ("OneCable$Telling", "fault", "I", false)
  | 7 => ("OneCable$Telling", "number", "I", false)
  | 8 => ("OneCable$Telling", "cellX", "I", false)
  | _ => ("OneCable$Telling", "cellY", "I", false)
def tyX10 : Nat → FieldType := fun k => match k with
  | 0 => .object "OneCable$Tape"
  | 1 => .object "OneCable$Bay"
  | 2 => .array .int
  | 3 => .array .int
  | 4 => .int
  | 5 => .int
  | 6 => .int
  | 7 => .int
  | 8 => .int
  | _ => .int
theorem nmX10 : ∀ a, a < 10 → ∀ b, b < 10 → a ≠ b → (TX10 a).2.1 ≠ (TX10 b).2.1 := by decide +kernel
theorem tyX10_ok : ∀ k, k < 10 → parseFieldDescriptor (TX10 k).2.2.1 = some (tyX10 k) := by decide +kernel
def RX11 : String := "OneCable"
def TX11 : u_T := fun k => match k with
  | 0 => ("OneCable", "tape", "LOneCable$Tape;", true)
  | 1 => ("OneCable", "telling", "LOneCable$Telling;", true)
  | 2 => ("OneCable", "told", "LOneCable$Bay;", true)
  | 3 => ("OneCable", "now", "LOneCable$State;", true)
  | 4 => ("OneCable", "marks", "[LOneCable$State;", true)
  | 5 => ("OneCable", "sea", "LOneCable$Sea;", true)
  | 6 => ("OneCable", "cable", "LOneCable$Cable;", true)
  | 7 => ("OneCable", "nets", "LOneCable$Nets;", true)
  | 8 => ("OneCable", "course", "LOneCable$Course;", true)
  | 9 => ("OneCable", "council", "LOneCable$Council;", true)
  | _ => ("OneCable", "storms", "LOneCable$Storm;", true)
def tyX11 : Nat → FieldType := fun k => match k with
  | 0 => .object "OneCable$Tape"
  | 1 => .object "OneCable$Telling"
  | 2 => .object "OneCable$Bay"
  | 3 => .object "OneCable$State"
  | 4 => .array (.object "OneCable$State")
  | 5 => .object "OneCable$Sea"
  | 6 => .object "OneCable$Cable"
  | 7 => .object "OneCable$Nets"
  | 8 => .object "OneCable$Course"
  | 9 => .object "OneCable$Council"
  | _ => .object "OneCable$Storm"
theorem nmX11 : ∀ a, a < 11 → ∀ b, b < 11 → a ≠ b → (TX11 a).2.1 ≠ (TX11 b).2.1 := by decide +kernel
theorem tyX11_ok : ∀ k, k < 11 → parseFieldDescriptor (TX11 k).2.2.1 = some (tyX11 k) := by decide +kernel
def RX12 : String := "OneCableModel"
def TX12 : u_T := fun k => match k with
  | 0 => ("OneCableModel", "thrown", "I", false)
  | 1 => ("OneCableModel", "tape", "[I", true)
  | 2 => ("OneCableModel", "taped", "I", false)
  | 3 => ("OneCableModel", "size", "I", false)
  | 4 => ("OneCableModel", "sort", "[I", true)
  | 5 => ("OneCableModel", "place", "[I", true)
  | 6 => ("OneCableModel", "value", "[J", true)
  | 7 => ("OneCableModel", "at", "I", false)
  | 8 => ("OneCableModel", "fault", "I", false)
  | 9 => ("OneCableModel", "words", "[J", true)
  | 10 => ("OneCableModel", "rows", "[I", true)
  | 11 => ("OneCableModel", "op", "[I", true)
  | 12 => ("OneCableModel", "arg", "[I", true)
  | 13 => ("OneCableModel", "codes", "I", false)
  | 14 => ("OneCableModel", "names", "[J", true)
  | 15 => ("OneCableModel", "cables", "I", false)
  | 16 => ("OneCableModel", "told", "I", false)
  | 17 => ("OneCableModel", "ofWish", "Z", false)
  | 18 => ("OneCableModel", "factWords", "[I", true)
  | 19 => ("OneCableModel", "facts", "[I", true)
  | 20 => ("OneCableModel", "pile", "[I", true)
  | 21 => ("OneCableModel", "isMarked", "[Z", true)
  | 22 => ("OneCableModel", "force", "[I", true)
  | 23 => ("OneCableModel", "tears", "[Z", true)
  | 24 => ("OneCableModel", "fish", "[I", true)
  | 25 => ("OneCableModel", "has", "[I", true)
  | 26 => ("OneCableModel", "reached", "[Z", true)
  | 27 => ("OneCableModel", "leads", "[Z", true)
  | 28 => ("OneCableModel", "least", "[I", true)
  | 29 => ("OneCableModel", "row", "[I", true)
  | 30 => ("OneCableModel", "bestRow", "[I", true)
  | 31 => ("OneCableModel", "bestOver", "I", false)
  | 32 => ("OneCableModel", "hasRow", "Z", false)
  | _ => ("OneCableModel", "g", "J", false)
def tyX12 : Nat → FieldType := fun k => match k with
  | 0 => .int
  | 1 => .array .int
  | 2 => .int
  | 3 => .int
  | 4 => .array .int
  | 5 => .array .int
  | 6 => .array .long
  | 7 => .int
  | 8 => .int
  | 9 => .array .long
  | 10 => .array .int
  | 11 => .array .int
  | 12 => .array .int
  | 13 => .int
  | 14 => .array .long
  | 15 => .int
  | 16 => .int
  | 17 => .boolean
  | 18 => .array .int
  | 19 => .array .int
  | 20 => .array .int
  | 21 => .array .boolean
  | 22 => .array .int
  | 23 => .array .boolean
  | 24 => .array .int
  | 25 => .array .int
  | 26 => .array .boolean
  | 27 => .array .boolean
  | 28 => .array .int
  | 29 => .array .int
  | 30 => .array .int
  | 31 => .int
  | 32 => .boolean
  | _ => .long
theorem nmX12 : ∀ a, a < 34 → ∀ b, b < 34 → a ≠ b → (TX12 a).2.1 ≠ (TX12 b).2.1 := by decide +kernel
theorem tyX12_ok : ∀ k, k < 34 → parseFieldDescriptor (TX12 k).2.2.1 = some (tyX12 k) := by decide +kernel
def R_law : String := "OneCableLaw"
abbrev mCls : List vw_C := [(RX0, TX0, 17), (RX1, TX1, 4), (RX2, TX2, 7), (RX3, TX3, 12), (RX4, TX4, 3), (RX5, TX5, 5), (RX6, TX6, 3), (RX7, TX7, 9), (RX8, TX8, 8), (RX9, TX9, 6), (RX10, TX10, 10), (RX11, TX11, 11), (RX12, TX12, 34)]
end
section
/-! A small machine over whole numbers: its values, worlds and one step as a condition before it -/
/-- int, long, a cell of the world by its number, a constant by its number (0: null) -/
abbrev mV : Type := Int ⊕ (Int ⊕ (Nat ⊕ Nat))
abbrev vI (n : Int) : mV := Sum.inl n
abbrev vL (n : Int) : mV := Sum.inr (Sum.inl n)
abbrev vR (r : Nat) : mV := Sum.inr (Sum.inr (Sum.inl r))
abbrev vK (k : Nat) : mV := Sum.inr (Sum.inr (Sum.inr k))
/-- an object: its class and its fields' kinds (0 int, 1 long, 2 boolean, 3 null, r + 4 the cell r); a row: its type (0 int, 1 long, 2 byte, 3 boolean, 4 of cells), its length, its cells -/
abbrev mSh : Type := (Nat × List Nat) ⊕ (Nat × (Nat × List Nat))
/-- shapes, fields, elements -/
abbrev mS : Type := List mSh × ((Nat → Nat → Int) × (Nat → Nat → Int))
/-- cells and slots that may still be made -/
abbrev mB : Type := Nat × Nat
abbrev mL : Type := List (Option mV)
abbrev mOp : Type := Instr × (Nat × (Nat × Int))
def wr (x : Int) : Int := (x + 2147483648) % 4294967296 - 2147483648
def wl (x : Int) : Int := (x + 9223372036854775808) % 18446744073709551616 - 9223372036854775808
def iAnd (a b : Int) : Int := (Int32.ofInt a &&& Int32.ofInt b).toInt
def iOr (a b : Int) : Int := (Int32.ofInt a ||| Int32.ofInt b).toInt
def iShl (a b : Int) : Int := (Int32.ofInt a <<< (Int32.ofInt b &&& 31)).toInt
def iShr (a b : Int) : Int := (Int32.ofInt a >>> (Int32.ofInt b &&& 31)).toInt
def iUshr (a b : Int) : Int := ((Int32.ofInt a).toUInt32 >>> ((Int32.ofInt b).toUInt32 &&& Int32.toUInt32 31)).toInt32.toInt
def iB (a : Int) : Int := (Int32.ofInt a).toInt8.toInt32.toInt
def iC (a : Int) : Int := ((Int32.ofInt a).toUInt32 % 65536).toInt32.toInt
def lAnd (a b : Int) : Int := (Int64.ofInt a &&& Int64.ofInt b).toInt
def lOr (a b : Int) : Int := (Int64.ofInt a ||| Int64.ofInt b).toInt
def lShl (a b : Int) : Int := (Int64.ofInt a <<< ((Int32.ofInt b).toInt64 &&& 63)).toInt
def lShr (a b : Int) : Int := (Int64.ofInt a >>> ((Int32.ofInt b).toInt64 &&& 63)).toInt
def lUshr (a b : Int) : Int := ((Int64.ofInt a).toUInt64 >>> ((Int32.ofInt b).toInt64.toUInt64 &&& Int64.toUInt64 63)).toInt64.toInt
def lCmp (a b : Int) : Int := if b < a then 1 else if a = b then 0 else -1
def mUp (f : Nat → Nat → Int) (a k : Nat) (n : Int) : Nat → Nat → Int := fun x y => if x = a then (if y = k then n else f x y) else f x y
/-- a row's places i .. i + n - 1 become those of another -/
def mCp (f : Nat → Nat → Int) (a : Nat) (sp : Nat) (c : Nat) (dp n : Nat) : Nat → Nat → Int := fun x y => if x = c then (if dp ≤ y ∧ y < dp + n then f a (sp + (y - dp)) else f x y) else f x y
def mClr : Option mV → Option mV
  | some (.inr (.inl _)) => none
  | x => x
def mGet : mL → Nat → Option mV
  | [], _ => none
  | x :: _, 0 => x
  | _ :: t, n + 1 => mGet t n
def mSet : mL → Nat → mV → mL
  | [], _, _ => []
  | _ :: t, 0, v => some v :: t
  | x :: t, n + 1, v => (match n with | 0 => mClr x | _ => x) :: mSet t n v
def mSet2 : mL → Nat → mV → mL
  | [], _, _ => []
  | _ :: [], 0, v => [some v]
  | _ :: _ :: t, 0, v => some v :: none :: t
  | x :: t, n + 1, v => (match n with | 0 => mClr x | _ => x) :: mSet2 t n v
def mNth : List mSh → Nat → Option mSh
  | [], _ => none
  | x :: _, 0 => some x
  | _ :: t, n + 1 => mNth t n
def mFld : List Nat → Nat → Option Nat
  | [], _ => none
  | x :: _, 0 => some x
  | _ :: t, n + 1 => mFld t n
def mCat : mV → Nat
  | .inr (.inl _) => 2
  | _ => 1
def mCats : List mV → Nat
  | [] => 0
  | v :: t => mCat v + mCats t
def mTake : Nat → List mV → List mV → Option (List mV × List mV)
  | 0, st, acc => some (acc, st)
  | n + 1, v :: st, acc => mTake n st (v :: acc)
  | _ + 1, [], _ => none
def mTgt (pc : Nat) (o : Int) : Nat := ((pc : Int) + o).toNat
/-- a value's way into a field or a row of kind f -/
def mIsRef : mV → Option Nat
  | .inr (.inr (.inl r)) => some (r + 4)
  | .inr (.inr (.inr 0)) => some 3
  | _ => none
def mSw (X : Nat → Prop) (pc : Nat) (x : Int) : Int → List Int → Prop
  | _, [] => True
  | i, o :: t => (x = i → X (mTgt pc o)) ∧ mSw X pc x (i + 1) t
def aI (r : Option mV) (K : Int → Prop) : Prop := match r with
  | some (.inl n) => K n
  | _ => False
def aL (r : Option mV) (K : Int → Prop) : Prop := match r with
  | some (.inr (.inl n)) => K n
  | _ => False
/-- what a call's answer puts on the stack: 0 nothing, 1 an int, 2 a long -/
def mAns (k : Nat) (r : Option mV) (K : List mV → Prop) : Prop := match k with
  | 0 => K []
  | 1 => aI r (fun n => K [vI n])
  | 2 => aL r (fun n => K [vL n])
  | _ => False
def mFldOf : Nat → Int → mV
  | 0, n => vI n
  | 1, n => vL n
  | 2, n => vI n
  | 3, _ => vK 0
  | r + 4, _ => vR r
def mZero : Nat → Int → Prop
  | 2, n => n = 0 ∨ n = 1
  | _, _ => True
/-- the fields' kinds of a new object, by its class -/
def mNew : Nat → List Nat
  | 0 => [0, 0, 0, 0, 0, 3, 3, 3, 3, 3, 3, 3, 3, 3, 3, 3, 3]
  | 1 => [3, 3, 3, 3]
  | 2 => [3, 3, 3, 3, 3, 3, 3]
  | 3 => [3, 3, 3, 3, 3, 3, 3, 3, 3, 0, 0, 0]
  | 4 => [3, 3, 0]
  | 5 => [3, 3, 3, 3, 3]
  | 6 => [3, 3, 3]
  | 7 => [2, 0, 3, 3, 3, 3, 3, 3, 3]
  | 8 => [3, 3, 3, 3, 3, 3, 3, 0]
  | 9 => [3, 0, 0, 0, 0, 0]
  | 10 => [3, 3, 3, 3, 0, 0, 0, 0, 0, 0]
  | 11 => [3, 3, 3, 3, 3, 3, 3, 3, 3, 3, 3]
  | 12 => [0, 3, 0, 0, 3, 3, 3, 0, 0, 3, 3, 3, 3, 0, 3, 0, 0, 2, 3, 3, 3, 3, 3, 3, 3, 3, 3, 3, 3, 3, 3, 0, 2, 1]
  | _ => []
end
section
/-! The methods: their instructions with links resolved, by number; printed by a program of ours from the class files of the Statement -/
def mO0 : List (Nat × List (Nat × mOp)) := [(13, [(0, .aload_n 0, 0, 0, 0), (1, .invokespecial 3, 1004, 1, 1076), (4, .aload_n 0, 0, 0, 0), (5, .bipush 64, 0, 0, 0), (7, .newarray .int, 0, 0, 0), (9, .putfield 9, 0, 5, 1131), (12, .aload_n 0, 0, 0, 0), (13, .bipush 64, 0, 0, 0)]),
  (29, [(15, .newarray .int, 0, 0, 0), (17, .putfield 15, 0, 6, 1134), (20, .aload_n 0, 0, 0, 0), (21, .bipush 7, 0, 0, 0), (23, .newarray .int, 0, 0, 0), (25, .putfield 18, 0, 7, 1137), (28, .aload_n 0, 0, 0, 0), (29, .bipush 7, 0, 0, 0)]),
  (45, [(31, .newarray .int, 0, 0, 0), (33, .putfield 21, 0, 8, 1143), (36, .aload_n 0, 0, 0, 0), (37, .bipush 7, 0, 0, 0), (39, .newarray .int, 0, 0, 0), (41, .putfield 24, 0, 9, 1147), (44, .aload_n 0, 0, 0, 0), (45, .bipush 7, 0, 0, 0)]),
  (61, [(47, .newarray .int, 0, 0, 0), (49, .putfield 27, 0, 10, 1151), (52, .aload_n 0, 0, 0, 0), (53, .bipush 7, 0, 0, 0), (55, .newarray .int, 0, 0, 0), (57, .putfield 30, 0, 11, 1153), (60, .aload_n 0, 0, 0, 0), (61, .bipush 7, 0, 0, 0)]),
  (77, [(63, .newarray .int, 0, 0, 0), (65, .putfield 33, 0, 12, 1156), (68, .aload_n 0, 0, 0, 0), (69, .bipush 6, 0, 0, 0), (71, .newarray .int, 0, 0, 0), (73, .putfield 36, 0, 13, 1160), (76, .aload_n 0, 0, 0, 0), (77, .bipush 6, 0, 0, 0)]),
  (95, [(79, .newarray .int, 0, 0, 0), (81, .putfield 39, 0, 14, 1164), (84, .aload_n 0, 0, 0, 0), (85, .new 42, 4, 0, 1077), (88, .dup, 0, 0, 0), (89, .invokespecial 44, 39, 101, 1079), (92, .putfield 45, 0, 15, 1168), (95, .aload_n 0, 0, 0, 0)]),
  (110, [(96, .new 42, 4, 0, 1077), (99, .dup, 0, 0, 0), (100, .invokespecial 44, 39, 101, 1079), (103, .putfield 49, 0, 16, 1171), (106, .aload_n 0, 0, 0, 0), (107, .invokevirtual 52, 1, 1, 1095), (110, .return_, 0, 0, 0)])]
def mO1 : List (Nat × List (Nat × mOp)) := [(10, [(0, .aload_n 0, 0, 0, 0), (1, .iconst 2, 0, 0, 0), (2, .putfield 55, 0, 0, 1110), (5, .aload_n 0, 0, 0, 0), (6, .iconst 2, 0, 0, 0), (7, .putfield 59, 0, 1, 1113), (10, .aload_n 0, 0, 0, 0)]),
  (22, [(11, .iconst 0, 0, 0, 0), (12, .putfield 62, 0, 2, 1117), (15, .aload_n 0, 0, 0, 0), (16, .bipush 10, 0, 0, 0), (18, .putfield 65, 0, 3, 1124), (21, .aload_n 0, 0, 0, 0), (22, .bipush 20, 0, 0, 0)]),
  (36, [(24, .putfield 68, 0, 4, 1127), (27, .aload_n 0, 0, 0, 0), (28, .getfield 9, 0, 5, 1131), (31, .iconst 0, 0, 0, 0), (32, .invokestatic 71, 224, 2, 1099), (35, .aload_n 0, 0, 0, 0), (36, .getfield 15, 0, 6, 1134)]),
  (51, [(39, .iconst 0, 0, 0, 0), (40, .invokestatic 71, 224, 2, 1099), (43, .aload_n 0, 0, 0, 0), (44, .getfield 36, 0, 13, 1160), (47, .iconst 3, 0, 0, 0), (48, .invokestatic 71, 224, 2, 1099), (51, .aload_n 0, 0, 0, 0)]),
  (66, [(52, .getfield 39, 0, 14, 1164), (55, .bipush 20, 0, 0, 0), (57, .invokestatic 71, 224, 2, 1099), (60, .aload_n 0, 0, 0, 0), (61, .getfield 45, 0, 15, 1168), (64, .bipush 10, 0, 0, 0), (66, .invokevirtual 77, 40, 2, 1102)]),
  (77, [(69, .aload_n 0, 0, 0, 0), (70, .getfield 49, 0, 16, 1171), (73, .iconst (-1), 0, 0, 0), (74, .invokevirtual 77, 40, 2, 1102), (77, .return_, 0, 0, 0)])]
def mO2 : List (Nat × List (Nat × mOp)) := [(10, [(0, .aload_n 0, 0, 0, 0), (1, .getfield 9, 0, 5, 1131), (4, .iload_n 2, 0, 0, 0), (5, .bipush 8, 0, 0, 0), (7, .imul, 0, 0, 0), (8, .iload_n 1, 0, 0, 0), (9, .iadd, 0, 0, 0), (10, .iaload, 0, 0, 0)]),
  (24, [(11, .ifCond .eq 7, 18, 0, 0), (14, .iconst 1, 0, 0, 0), (15, .goto 4, 19, 0, 0), (18, .iconst 0, 0, 0, 0), (19, .istore_n 3, 0, 0, 0), (20, .aload_n 0, 0, 0, 0), (21, .getfield 15, 0, 6, 1134), (24, .iload_n 2, 0, 0, 0)]),
  (35, [(25, .bipush 8, 0, 0, 0), (27, .imul, 0, 0, 0), (28, .iload_n 1, 0, 0, 0), (29, .iadd, 0, 0, 0), (30, .iaload, 0, 0, 0), (31, .ifCond .le 7, 38, 0, 0), (34, .iload_n 3, 0, 0, 0), (35, .iconst 2, 0, 0, 0)]),
  (47, [(36, .ior, 0, 0, 0), (37, .istore_n 3, 0, 0, 0), (38, .iconst 0, 0, 0, 0), (39, .istore 4, 0, 0, 0), (41, .iload 4, 0, 0, 0), (43, .aload_n 0, 0, 0, 0), (44, .getfield 62, 0, 2, 1117), (47, .if_icmp .ge 35, 82, 0, 0)]),
  (62, [(50, .aload_n 0, 0, 0, 0), (51, .getfield 21, 0, 8, 1143), (54, .iload 4, 0, 0, 0), (56, .iaload, 0, 0, 0), (57, .iload_n 1, 0, 0, 0), (58, .if_icmp .ne 18, 76, 0, 0), (61, .aload_n 0, 0, 0, 0), (62, .getfield 24, 0, 9, 1147)]),
  (75, [(65, .iload 4, 0, 0, 0), (67, .iaload, 0, 0, 0), (68, .iload_n 2, 0, 0, 0), (69, .if_icmp .ne 7, 76, 0, 0), (72, .iload_n 3, 0, 0, 0), (73, .iconst 4, 0, 0, 0), (74, .ior, 0, 0, 0), (75, .istore_n 3, 0, 0, 0)]),
  (83, [(76, .iinc 4 1, 0, 0, 0), (79, .goto (-38), 41, 0, 0), (82, .iload_n 3, 0, 0, 0), (83, .ireturn, 0, 0, 0)])]
def mO3 : List (Nat × List (Nat × mOp)) := [(5, [(0, .iload_n 1, 0, 0, 0), (1, .ifCond .lt 17, 18, 0, 0), (4, .iload_n 1, 0, 0, 0), (5, .aload_n 0, 0, 0, 0)]),
  (11, [(6, .getfield 62, 0, 2, 1117), (9, .iconst 1, 0, 0, 0), (10, .isub, 0, 0, 0), (11, .if_icmp .ge 7, 18, 0, 0)]),
  (19, [(14, .iconst 1, 0, 0, 0), (15, .goto 4, 19, 0, 0), (18, .iconst 0, 0, 0, 0), (19, .ireturn, 1, 0, 0)])]
def mO4 : List (Nat × List (Nat × mOp)) := [(18, [(0, .aload_n 0, 0, 0, 0), (1, .aload_n 1, 0, 0, 0), (2, .getfield 55, 0, 0, 1110), (5, .putfield 55, 0, 0, 1110), (8, .aload_n 0, 0, 0, 0), (9, .aload_n 1, 0, 0, 0), (10, .getfield 59, 0, 1, 1113), (13, .putfield 59, 0, 1, 1113), (16, .aload_n 0, 0, 0, 0), (17, .aload_n 1, 0, 0, 0), (18, .getfield 62, 0, 2, 1117)]),
  (41, [(21, .putfield 62, 0, 2, 1117), (24, .aload_n 0, 0, 0, 0), (25, .aload_n 1, 0, 0, 0), (26, .getfield 65, 0, 3, 1124), (29, .putfield 65, 0, 3, 1124), (32, .aload_n 0, 0, 0, 0), (33, .aload_n 1, 0, 0, 0), (34, .getfield 68, 0, 4, 1127), (37, .putfield 68, 0, 4, 1127), (40, .aload_n 1, 0, 0, 0), (41, .getfield 9, 0, 5, 1131)]),
  (61, [(44, .iconst 0, 0, 0, 0), (45, .aload_n 0, 0, 0, 0), (46, .getfield 9, 0, 5, 1131), (49, .iconst 0, 0, 0, 0), (50, .bipush 64, 0, 0, 0), (52, .invokestatic 81, 1003, 5, 4047), (55, .aload_n 1, 0, 0, 0), (56, .getfield 15, 0, 6, 1134), (59, .iconst 0, 0, 0, 0), (60, .aload_n 0, 0, 0, 0), (61, .getfield 15, 0, 6, 1134)]),
  (82, [(64, .iconst 0, 0, 0, 0), (65, .bipush 64, 0, 0, 0), (67, .invokestatic 81, 1003, 5, 4047), (70, .aload_n 1, 0, 0, 0), (71, .getfield 18, 0, 7, 1137), (74, .iconst 0, 0, 0, 0), (75, .aload_n 0, 0, 0, 0), (76, .getfield 18, 0, 7, 1137), (79, .iconst 0, 0, 0, 0), (80, .bipush 7, 0, 0, 0), (82, .invokestatic 81, 1003, 5, 4047)]),
  (104, [(85, .aload_n 1, 0, 0, 0), (86, .getfield 21, 0, 8, 1143), (89, .iconst 0, 0, 0, 0), (90, .aload_n 0, 0, 0, 0), (91, .getfield 21, 0, 8, 1143), (94, .iconst 0, 0, 0, 0), (95, .bipush 7, 0, 0, 0), (97, .invokestatic 81, 1003, 5, 4047), (100, .aload_n 1, 0, 0, 0), (101, .getfield 24, 0, 9, 1147), (104, .iconst 0, 0, 0, 0)]),
  (124, [(105, .aload_n 0, 0, 0, 0), (106, .getfield 24, 0, 9, 1147), (109, .iconst 0, 0, 0, 0), (110, .bipush 7, 0, 0, 0), (112, .invokestatic 81, 1003, 5, 4047), (115, .aload_n 1, 0, 0, 0), (116, .getfield 27, 0, 10, 1151), (119, .iconst 0, 0, 0, 0), (120, .aload_n 0, 0, 0, 0), (121, .getfield 27, 0, 10, 1151), (124, .iconst 0, 0, 0, 0)]),
  (145, [(125, .bipush 7, 0, 0, 0), (127, .invokestatic 81, 1003, 5, 4047), (130, .aload_n 1, 0, 0, 0), (131, .getfield 30, 0, 11, 1153), (134, .iconst 0, 0, 0, 0), (135, .aload_n 0, 0, 0, 0), (136, .getfield 30, 0, 11, 1153), (139, .iconst 0, 0, 0, 0), (140, .bipush 7, 0, 0, 0), (142, .invokestatic 81, 1003, 5, 4047), (145, .aload_n 1, 0, 0, 0)]),
  (165, [(146, .getfield 33, 0, 12, 1156), (149, .iconst 0, 0, 0, 0), (150, .aload_n 0, 0, 0, 0), (151, .getfield 33, 0, 12, 1156), (154, .iconst 0, 0, 0, 0), (155, .bipush 7, 0, 0, 0), (157, .invokestatic 81, 1003, 5, 4047), (160, .aload_n 1, 0, 0, 0), (161, .getfield 36, 0, 13, 1160), (164, .iconst 0, 0, 0, 0), (165, .aload_n 0, 0, 0, 0)]),
  (185, [(166, .getfield 36, 0, 13, 1160), (169, .iconst 0, 0, 0, 0), (170, .bipush 6, 0, 0, 0), (172, .invokestatic 81, 1003, 5, 4047), (175, .aload_n 1, 0, 0, 0), (176, .getfield 39, 0, 14, 1164), (179, .iconst 0, 0, 0, 0), (180, .aload_n 0, 0, 0, 0), (181, .getfield 39, 0, 14, 1164), (184, .iconst 0, 0, 0, 0), (185, .bipush 6, 0, 0, 0)]),
  (209, [(187, .invokestatic 81, 1003, 5, 4047), (190, .aload_n 0, 0, 0, 0), (191, .getfield 45, 0, 15, 1168), (194, .aload_n 1, 0, 0, 0), (195, .getfield 45, 0, 15, 1168), (198, .invokevirtual 87, 42, 2, 4050), (201, .aload_n 0, 0, 0, 0), (202, .getfield 49, 0, 16, 1171), (205, .aload_n 1, 0, 0, 0), (206, .getfield 49, 0, 16, 1171), (209, .invokevirtual 87, 42, 2, 4050)]),
  (212, [(212, .return_, 0, 0, 0)])]
def mO5 : List (Nat × List (Nat × mOp)) := [(5, [(0, .iload_n 1, 0, 0, 0), (1, .ifCond .lt 15, 16, 0, 0), (4, .iload_n 1, 0, 0, 0), (5, .aload_n 0, 0, 0, 0)]),
  (13, [(6, .getfield 62, 0, 2, 1117), (9, .if_icmp .ge 7, 16, 0, 0), (12, .iconst 1, 0, 0, 0), (13, .goto 4, 17, 0, 0)]),
  (17, [(16, .iconst 0, 0, 0, 0), (17, .ireturn, 1, 0, 0)])]
def mO6 : List (Nat × List (Nat × mOp)) := [(6, [(0, .aload_n 0, 0, 0, 0), (1, .getfield 18, 0, 7, 1137), (4, .iload_n 1, 0, 0, 0), (5, .iaload, 0, 0, 0), (6, .iconst 3, 0, 0, 0)]),
  (15, [(7, .if_icmp .ne 14, 21, 0, 0), (10, .aload_n 0, 0, 0, 0), (11, .getfield 27, 0, 10, 1151), (14, .iload_n 1, 0, 0, 0), (15, .iaload, 0, 0, 0)]),
  (22, [(16, .iconst 2, 0, 0, 0), (17, .idiv, 0, 0, 0), (18, .goto 9, 27, 0, 0), (21, .aload_n 0, 0, 0, 0), (22, .getfield 27, 0, 10, 1151)]),
  (27, [(25, .iload_n 1, 0, 0, 0), (26, .iaload, 0, 0, 0), (27, .ireturn, 0, 0, 0)])]
def mO7 : List (Nat × List (Nat × mOp)) := [(5, [(0, .iload_n 1, 0, 0, 0), (1, .ifCond .lt 27, 28, 0, 0), (4, .iload_n 1, 0, 0, 0), (5, .aload_n 0, 0, 0, 0)]),
  (13, [(6, .getfield 55, 0, 0, 1110), (9, .if_icmp .ge 19, 28, 0, 0), (12, .iload_n 2, 0, 0, 0), (13, .ifCond .lt 15, 28, 0, 0)]),
  (21, [(16, .iload_n 2, 0, 0, 0), (17, .aload_n 0, 0, 0, 0), (18, .getfield 59, 0, 1, 1113), (21, .if_icmp .ge 7, 28, 0, 0)]),
  (29, [(24, .iconst 1, 0, 0, 0), (25, .goto 4, 29, 0, 0), (28, .iconst 0, 0, 0, 0), (29, .ireturn, 1, 0, 0)])]
def mO8 : List (Nat × List (Nat × mOp)) := [(6, [(0, .aload_n 0, 0, 0, 0), (1, .iload_n 1, 0, 0, 0), (2, .iload_n 2, 0, 0, 0), (3, .invokevirtual 91, 7, 3, 4180), (6, .ifCond .eq 21, 27, 0, 0)]),
  (16, [(9, .aload_n 0, 0, 0, 0), (10, .getfield 9, 0, 5, 1131), (13, .iload_n 2, 0, 0, 0), (14, .bipush 8, 0, 0, 0), (16, .imul, 0, 0, 0)]),
  (23, [(17, .iload_n 1, 0, 0, 0), (18, .iadd, 0, 0, 0), (19, .iaload, 0, 0, 0), (20, .ifCond .ne 7, 27, 0, 0), (23, .iconst 1, 0, 0, 0)]),
  (28, [(24, .goto 4, 28, 0, 0), (27, .iconst 0, 0, 0, 0), (28, .ireturn, 1, 0, 0)])]
def mO9 : List (Nat × List (Nat × mOp)) := [(5, [(0, .aload_n 0, 0, 0, 0), (1, .invokespecial 3, 1004, 1, 2093), (4, .aload_n 0, 0, 0, 0), (5, .bipush 8, 0, 0, 0)]),
  (13, [(7, .newarray .int, 0, 0, 0), (9, .putfield 9, 1, 3, 2097), (12, .aload_n 0, 0, 0, 0), (13, .aload_n 1, 0, 0, 0)]),
  (19, [(14, .putfield 15, 1, 0, 2094), (17, .aload_n 0, 0, 0, 0), (18, .aload_n 2, 0, 0, 0), (19, .putfield 19, 1, 1, 2095)]),
  (27, [(22, .aload_n 0, 0, 0, 0), (23, .aload_n 3, 0, 0, 0), (24, .putfield 23, 1, 2, 2096), (27, .return_, 0, 0, 0)])]
def mO10 : List (Nat × List (Nat × mOp)) := [(3, [(0, .iload_n 1, 0, 0, 0), (1, .istore_n 2, 0, 0, 0), (2, .iload_n 2, 0, 0, 0), (3, .ifCond .le 23, 26, 0, 0)]),
  (13, [(6, .aload_n 0, 0, 0, 0), (7, .getfield 19, 1, 1, 2095), (10, .getfield 27, 7, 8, 2044), (13, .iload_n 2, 0, 0, 0)]),
  (17, [(14, .iconst 1, 0, 0, 0), (15, .isub, 0, 0, 0), (16, .iaload, 0, 0, 0), (17, .ifCond .ne 9, 26, 0, 0)]),
  (27, [(20, .iinc 2 (-1), 0, 0, 0), (23, .goto (-21), 2, 0, 0), (26, .iload_n 2, 0, 0, 0), (27, .ireturn, 0, 0, 0)])]
def mO11 : List (Nat × List (Nat × mOp)) := [(6, [(0, .aload_n 0, 0, 0, 0), (1, .iload_n 1, 0, 0, 0), (2, .invokevirtual 55, 10, 2, 4116), (5, .istore_n 2, 0, 0, 0), (6, .aload_n 0, 0, 0, 0)]),
  (13, [(7, .iload_n 1, 0, 0, 0), (8, .invokevirtual 51, 12, 2, 4117), (11, .istore_n 3, 0, 0, 0), (12, .aload_n 0, 0, 0, 0), (13, .iload_n 2, 0, 0, 0)]),
  (18, [(14, .iload_n 3, 0, 0, 0), (15, .iconst 0, 0, 0, 0), (16, .iconst 0, 0, 0, 0), (17, .aload_n 0, 0, 0, 0), (18, .getfield 19, 1, 1, 2095)]),
  (29, [(21, .getfield 65, 7, 1, 2015), (24, .iconst 0, 0, 0, 0), (25, .invokevirtual 82, 13, 7, 4121), (28, .aload_n 0, 0, 0, 0), (29, .iload_n 2, 0, 0, 0)]),
  (35, [(30, .iload_n 3, 0, 0, 0), (31, .iload_n 1, 0, 0, 0), (32, .invokevirtual 104, 15, 4, 4130), (35, .ireturn, 0, 0, 0)])]
def mO12 : List (Nat × List (Nat × mOp)) := [(4, [(0, .iload_n 1, 0, 0, 0), (1, .istore_n 2, 0, 0, 0), (2, .iload_n 2, 0, 0, 0), (3, .aload_n 0, 0, 0, 0), (4, .getfield 15, 1, 0, 2094)]),
  (15, [(7, .getfield 32, 0, 2, 1120), (10, .iconst 1, 0, 0, 0), (11, .isub, 0, 0, 0), (12, .if_icmp .ge 21, 33, 0, 0), (15, .aload_n 0, 0, 0, 0)]),
  (24, [(16, .getfield 19, 1, 1, 2095), (19, .getfield 27, 7, 8, 2044), (22, .iload_n 2, 0, 0, 0), (23, .iaload, 0, 0, 0), (24, .ifCond .ne 9, 33, 0, 0)]),
  (34, [(27, .iinc 2 1, 0, 0, 0), (30, .goto (-28), 2, 0, 0), (33, .iload_n 2, 0, 0, 0), (34, .ireturn, 0, 0, 0)])]
def mO13 : List (Nat × List (Nat × mOp)) := [(7, [(0, .aload_n 0, 0, 0, 0), (1, .getfield 9, 1, 3, 2097), (4, .iload_n 1, 0, 0, 0), (5, .iconst 0, 0, 0, 0), (6, .iastore, 0, 0, 0), (7, .iload_n 1, 0, 0, 0)]),
  (17, [(8, .istore 7, 0, 0, 0), (10, .iload 7, 0, 0, 0), (12, .iload_n 2, 0, 0, 0), (13, .if_icmp .gt 53, 66, 0, 0), (16, .aload_n 0, 0, 0, 0), (17, .iload 7, 0, 0, 0)]),
  (29, [(19, .aload_n 0, 0, 0, 0), (20, .getfield 23, 1, 2, 2096), (23, .iload 7, 0, 0, 0), (25, .aload_n 0, 0, 0, 0), (26, .getfield 19, 1, 1, 2095), (29, .getfield 38, 7, 3, 2026)]),
  (38, [(32, .iload 7, 0, 0, 0), (34, .iaload, 0, 0, 0), (35, .iload_n 3, 0, 0, 0), (36, .iadd, 0, 0, 0), (37, .aload_n 0, 0, 0, 0), (38, .getfield 19, 1, 1, 2095)]),
  (50, [(41, .getfield 41, 7, 4, 2033), (44, .iload 7, 0, 0, 0), (46, .iaload, 0, 0, 0), (47, .iload 4, 0, 0, 0), (49, .iadd, 0, 0, 0), (50, .iload 5, 0, 0, 0)]),
  (66, [(52, .iload 6, 0, 0, 0), (54, .invokevirtual 90, 54, 6, 4125), (57, .invokevirtual 96, 14, 3, 4126), (60, .iinc 7 1, 0, 0, 0), (63, .goto (-53), 10, 0, 0), (66, .return_, 0, 0, 0)])]
def mO14 : List (Nat × List (Nat × mOp)) := [(5, [(0, .aload_n 0, 0, 0, 0), (1, .getfield 9, 1, 3, 2097), (4, .iload_n 1, 0, 0, 0), (5, .iconst 1, 0, 0, 0)]),
  (11, [(6, .iadd, 0, 0, 0), (7, .aload_n 0, 0, 0, 0), (8, .getfield 9, 1, 3, 2097), (11, .iload_n 1, 0, 0, 0)]),
  (15, [(12, .iaload, 0, 0, 0), (13, .iload_n 2, 0, 0, 0), (14, .iadd, 0, 0, 0), (15, .iastore, 0, 0, 0)]),
  (16, [(16, .return_, 0, 0, 0)])]
def mO15 : List (Nat × List (Nat × mOp)) := [(5, [(0, .iload_n 2, 0, 0, 0), (1, .iload_n 1, 0, 0, 0), (2, .isub, 0, 0, 0), (3, .iconst 1, 0, 0, 0), (4, .iadd, 0, 0, 0), (5, .istore 4, 0, 0, 0)]),
  (12, [(7, .iload_n 3, 0, 0, 0), (8, .iload_n 1, 0, 0, 0), (9, .isub, 0, 0, 0), (10, .iconst 1, 0, 0, 0), (11, .iadd, 0, 0, 0), (12, .istore 5, 0, 0, 0)]),
  (22, [(14, .iload 4, 0, 0, 0), (16, .aload_n 0, 0, 0, 0), (17, .getfield 9, 1, 3, 2097), (20, .iload_n 3, 0, 0, 0), (21, .iconst 1, 0, 0, 0), (22, .iadd, 0, 0, 0)]),
  (31, [(23, .iaload, 0, 0, 0), (24, .imul, 0, 0, 0), (25, .iload 5, 0, 0, 0), (27, .aload_n 0, 0, 0, 0), (28, .getfield 9, 1, 3, 2097), (31, .iload_n 2, 0, 0, 0)]),
  (37, [(32, .iconst 1, 0, 0, 0), (33, .iadd, 0, 0, 0), (34, .iaload, 0, 0, 0), (35, .imul, 0, 0, 0), (36, .isub, 0, 0, 0), (37, .invokestatic 99, 1002, 1, 4134)]),
  (40, [(40, .ireturn, 0, 0, 0)])]
def mO16 : List (Nat × List (Nat × mOp)) := [(4, [(0, .iconst 0, 0, 0, 0), (1, .istore_n 1, 0, 0, 0), (2, .iload_n 1, 0, 0, 0), (3, .aload_n 0, 0, 0, 0), (4, .getfield 15, 1, 0, 2094)]),
  (15, [(7, .getfield 32, 0, 2, 1120), (10, .if_icmp .ge 28, 38, 0, 0), (13, .aload_n 0, 0, 0, 0), (14, .iload_n 1, 0, 0, 0), (15, .invokevirtual 51, 12, 2, 4117)]),
  (24, [(18, .iload_n 1, 0, 0, 0), (19, .if_icmp .ne 13, 32, 0, 0), (22, .aload_n 0, 0, 0, 0), (23, .aload_n 0, 0, 0, 0), (24, .iload_n 1, 0, 0, 0)]),
  (35, [(25, .invokevirtual 55, 10, 2, 4116), (28, .iload_n 1, 0, 0, 0), (29, .invokevirtual 58, 17, 3, 4160), (32, .iinc 1 1, 0, 0, 0), (35, .goto (-33), 2, 0, 0)]),
  (38, [(38, .return_, 0, 0, 0)])]
def mO17 : List (Nat × List (Nat × mOp)) := [(11, [(0, .aload_n 0, 0, 0, 0), (1, .getfield 19, 1, 1, 2095), (4, .getfield 62, 7, 6, 2039), (7, .iload_n 1, 0, 0, 0), (8, .iaload, 0, 0, 0), (9, .istore_n 3, 0, 0, 0), (10, .aload_n 0, 0, 0, 0), (11, .iload_n 1, 0, 0, 0)]),
  (27, [(12, .iload_n 2, 0, 0, 0), (13, .aload_n 0, 0, 0, 0), (14, .getfield 19, 1, 1, 2095), (17, .getfield 65, 7, 1, 2015), (20, .invokevirtual 68, 18, 4, 4164), (23, .ifCond .ne 22, 45, 0, 0), (26, .aload_n 0, 0, 0, 0), (27, .iload_n 1, 0, 0, 0)]),
  (39, [(28, .iload_n 2, 0, 0, 0), (29, .getstatic 72, 1, 2, 4168), (32, .iload_n 3, 0, 0, 0), (33, .iaload, 0, 0, 0), (34, .getstatic 75, 2, 2, 4170), (37, .iload_n 3, 0, 0, 0), (38, .iaload, 0, 0, 0), (39, .invokevirtual 78, 19, 5, 4172)]),
  (55, [(42, .ifCond .ne 4, 46, 0, 0), (45, .return_, 0, 0, 0), (46, .iload_n 1, 0, 0, 0), (47, .istore 4, 0, 0, 0), (49, .iload 4, 0, 0, 0), (51, .iload_n 2, 0, 0, 0), (52, .if_icmp .gt 45, 97, 0, 0), (55, .aload_n 0, 0, 0, 0)]),
  (70, [(56, .getfield 19, 1, 1, 2095), (59, .getfield 38, 7, 3, 2026), (62, .iload 4, 0, 0, 0), (64, .dup2, 0, 0, 0), (65, .iaload, 0, 0, 0), (66, .getstatic 72, 1, 2, 4168), (69, .iload_n 3, 0, 0, 0), (70, .iaload, 0, 0, 0)]),
  (83, [(71, .iadd, 0, 0, 0), (72, .iastore, 0, 0, 0), (73, .aload_n 0, 0, 0, 0), (74, .getfield 19, 1, 1, 2095), (77, .getfield 41, 7, 4, 2033), (80, .iload 4, 0, 0, 0), (82, .dup2, 0, 0, 0), (83, .iaload, 0, 0, 0)]),
  (97, [(84, .getstatic 75, 2, 2, 4170), (87, .iload_n 3, 0, 0, 0), (88, .iaload, 0, 0, 0), (89, .iadd, 0, 0, 0), (90, .iastore, 0, 0, 0), (91, .iinc 4 1, 0, 0, 0), (94, .goto (-45), 49, 0, 0), (97, .return_, 0, 0, 0)])]
def mO18 : List (Nat × List (Nat × mOp)) := [(8, [(0, .iconst 0, 0, 0, 0), (1, .istore 4, 0, 0, 0), (3, .iload_n 1, 0, 0, 0), (4, .istore 5, 0, 0, 0), (6, .iload 5, 0, 0, 0), (8, .iload_n 2, 0, 0, 0)]),
  (21, [(9, .if_icmp .gt 35, 44, 0, 0), (12, .iload 4, 0, 0, 0), (14, .ifCond .ne 17, 31, 0, 0), (17, .aload_n 0, 0, 0, 0), (18, .getfield 15, 1, 0, 2094), (21, .getfield 48, 0, 7, 1141)]),
  (32, [(24, .iload 5, 0, 0, 0), (26, .iaload, 0, 0, 0), (27, .iconst 1, 0, 0, 0), (28, .if_icmp .ne 7, 35, 0, 0), (31, .iconst 1, 0, 0, 0), (32, .goto 4, 36, 0, 0)]),
  (46, [(35, .iconst 0, 0, 0, 0), (36, .istore 4, 0, 0, 0), (38, .iinc 5 1, 0, 0, 0), (41, .goto (-35), 6, 0, 0), (44, .iload 4, 0, 0, 0), (46, .ifCond .eq 14, 60, 0, 0)]),
  (56, [(49, .iload_n 3, 0, 0, 0), (50, .iconst 2, 0, 0, 0), (51, .irem, 0, 0, 0), (52, .iconst 1, 0, 0, 0), (53, .if_icmp .ne 7, 60, 0, 0), (56, .iconst 1, 0, 0, 0)]),
  (61, [(57, .goto 4, 61, 0, 0), (60, .iconst 0, 0, 0, 0), (61, .ireturn, 1, 0, 0)])]
def mO19 : List (Nat × List (Nat × mOp)) := [(9, [(0, .iload_n 1, 0, 0, 0), (1, .istore 5, 0, 0, 0), (3, .iload 5, 0, 0, 0), (5, .iload_n 2, 0, 0, 0), (6, .if_icmp .gt 46, 52, 0, 0), (9, .aload_n 0, 0, 0, 0)]),
  (22, [(10, .getfield 15, 1, 0, 2094), (13, .aload_n 0, 0, 0, 0), (14, .getfield 19, 1, 1, 2095), (17, .getfield 38, 7, 3, 2026), (20, .iload 5, 0, 0, 0), (22, .iaload, 0, 0, 0)]),
  (32, [(23, .iload_n 3, 0, 0, 0), (24, .iadd, 0, 0, 0), (25, .aload_n 0, 0, 0, 0), (26, .getfield 19, 1, 1, 2095), (29, .getfield 41, 7, 4, 2033), (32, .iload 5, 0, 0, 0)]),
  (44, [(34, .iaload, 0, 0, 0), (35, .iload 4, 0, 0, 0), (37, .iadd, 0, 0, 0), (38, .invokevirtual 44, 8, 3, 4176), (41, .ifCond .ne 5, 46, 0, 0), (44, .iconst 0, 0, 0, 0)]),
  (53, [(45, .ireturn, 1, 0, 0), (46, .iinc 5 1, 0, 0, 0), (49, .goto (-46), 3, 0, 0), (52, .iconst 1, 0, 0, 0), (53, .ireturn, 1, 0, 0)])]
def mO20 : List (Nat × List (Nat × mOp)) := [(13, [(0, .iconst 0, 0, 0, 0), (1, .istore_n 1, 0, 0, 0), (2, .iload_n 1, 0, 0, 0), (3, .aload_n 0, 0, 0, 0), (4, .getfield 15, 1, 0, 2094), (7, .getfield 32, 0, 2, 1120), (10, .if_icmp .ge 77, 87, 0, 0), (13, .aload_n 0, 0, 0, 0)]),
  (27, [(14, .iload_n 1, 0, 0, 0), (15, .invokevirtual 51, 12, 2, 4117), (18, .iload_n 1, 0, 0, 0), (19, .if_icmp .ne 62, 81, 0, 0), (22, .aload_n 0, 0, 0, 0), (23, .iload_n 1, 0, 0, 0), (24, .invokevirtual 55, 10, 2, 4116), (27, .istore_n 2, 0, 0, 0)]),
  (37, [(28, .aload_n 0, 0, 0, 0), (29, .iload_n 2, 0, 0, 0), (30, .iload_n 1, 0, 0, 0), (31, .iconst 0, 0, 0, 0), (32, .iconst 0, 0, 0, 0), (33, .aload_n 0, 0, 0, 0), (34, .getfield 19, 1, 1, 2095), (37, .getfield 65, 7, 1, 2015)]),
  (51, [(40, .iconst 0, 0, 0, 0), (41, .invokevirtual 82, 13, 7, 4121), (44, .iload_n 2, 0, 0, 0), (45, .istore_n 3, 0, 0, 0), (46, .iload_n 3, 0, 0, 0), (47, .iload_n 1, 0, 0, 0), (48, .if_icmp .ge 33, 81, 0, 0), (51, .aload_n 0, 0, 0, 0)]),
  (63, [(52, .getfield 19, 1, 1, 2095), (55, .getfield 27, 7, 8, 2044), (58, .iload_n 3, 0, 0, 0), (59, .aload_n 0, 0, 0, 0), (60, .iload_n 2, 0, 0, 0), (61, .iload_n 1, 0, 0, 0), (62, .iload_n 3, 0, 0, 0), (63, .invokevirtual 86, 21, 4, 4185)]),
  (81, [(66, .ifCond .le 7, 73, 0, 0), (69, .iconst 1, 0, 0, 0), (70, .goto 4, 74, 0, 0), (73, .iconst 0, 0, 0, 0), (74, .iastore, 0, 0, 0), (75, .iinc 3 1, 0, 0, 0), (78, .goto (-32), 46, 0, 0), (81, .iinc 1 1, 0, 0, 0)]),
  (87, [(84, .goto (-82), 2, 0, 0), (87, .return_, 0, 0, 0)])]
def mO21 : List (Nat × List (Nat × mOp)) := [(4, [(0, .aload_n 0, 0, 0, 0), (1, .iload_n 1, 0, 0, 0), (2, .iload_n 2, 0, 0, 0), (3, .iload_n 3, 0, 0, 0), (4, .invokevirtual 104, 15, 4, 4130)]),
  (11, [(7, .iload_n 2, 0, 0, 0), (8, .iload_n 1, 0, 0, 0), (9, .isub, 0, 0, 0), (10, .iconst 1, 0, 0, 0), (11, .iadd, 0, 0, 0)]),
  (20, [(12, .aload_n 0, 0, 0, 0), (13, .getfield 15, 1, 0, 2094), (16, .getfield 107, 0, 14, 1167), (19, .iload_n 3, 0, 0, 0), (20, .iaload, 0, 0, 0)]),
  (23, [(21, .imul, 0, 0, 0), (22, .isub, 0, 0, 0), (23, .ireturn, 0, 0, 0)])]
def mO22 : List (Nat × List (Nat × mOp)) := [(4, [(0, .iload_n 1, 0, 0, 0), (1, .istore_n 3, 0, 0, 0), (2, .iload_n 3, 0, 0, 0), (3, .iload_n 2, 0, 0, 0), (4, .if_icmp .ge 21, 25, 0, 0)]),
  (11, [(7, .aload_n 0, 0, 0, 0), (8, .iload_n 1, 0, 0, 0), (9, .iload_n 2, 0, 0, 0), (10, .iload_n 3, 0, 0, 0), (11, .invokevirtual 86, 21, 4, 4185)]),
  (22, [(14, .ifCond .le 5, 19, 0, 0), (17, .iconst 1, 0, 0, 0), (18, .ireturn, 1, 0, 0), (19, .iinc 3 1, 0, 0, 0), (22, .goto (-20), 2, 0, 0)]),
  (26, [(25, .iconst 0, 0, 0, 0), (26, .ireturn, 1, 0, 0)])]
def mO23 : List (Nat × List (Nat × mOp)) := [(6, [(0, .iload_n 1, 0, 0, 0), (1, .istore_n 3, 0, 0, 0), (2, .iload_n 3, 0, 0, 0), (3, .iload_n 2, 0, 0, 0), (4, .iconst 1, 0, 0, 0), (5, .isub, 0, 0, 0), (6, .if_icmp .ge 21, 27, 0, 0)]),
  (19, [(9, .aload_n 0, 0, 0, 0), (10, .iload_n 1, 0, 0, 0), (11, .iload_n 2, 0, 0, 0), (12, .iload_n 3, 0, 0, 0), (13, .invokevirtual 86, 21, 4, 4185), (16, .ifCond .le 5, 21, 0, 0), (19, .iconst (-1), 0, 0, 0)]),
  (30, [(20, .ireturn, 0, 0, 0), (21, .iinc 3 1, 0, 0, 0), (24, .goto (-22), 2, 0, 0), (27, .iload_n 2, 0, 0, 0), (28, .iload_n 1, 0, 0, 0), (29, .isub, 0, 0, 0), (30, .iconst 1, 0, 0, 0)]),
  (37, [(31, .iadd, 0, 0, 0), (32, .istore_n 3, 0, 0, 0), (33, .aload_n 0, 0, 0, 0), (34, .iload_n 1, 0, 0, 0), (35, .iload_n 2, 0, 0, 0), (36, .iload_n 2, 0, 0, 0), (37, .iconst 1, 0, 0, 0)]),
  (46, [(38, .isub, 0, 0, 0), (39, .invokevirtual 104, 15, 4, 4130), (42, .iload_n 3, 0, 0, 0), (43, .iadd, 0, 0, 0), (44, .iconst 1, 0, 0, 0), (45, .isub, 0, 0, 0), (46, .iload_n 3, 0, 0, 0)]),
  (48, [(47, .idiv, 0, 0, 0), (48, .ireturn, 0, 0, 0)])]
def mO24 : List (Nat × List (Nat × mOp)) := [(10, [(0, .iconst 0, 0, 0, 0), (1, .istore_n 2, 0, 0, 0), (2, .iload_n 2, 0, 0, 0), (3, .aload_n 0, 0, 0, 0), (4, .getfield 15, 1, 0, 2094), (7, .getfield 32, 0, 2, 1120), (10, .if_icmp .ge 62, 72, 0, 0)]),
  (22, [(13, .aload_n 0, 0, 0, 0), (14, .iload_n 2, 0, 0, 0), (15, .invokevirtual 55, 10, 2, 4116), (18, .istore_n 3, 0, 0, 0), (19, .iconst 0, 0, 0, 0), (20, .istore 4, 0, 0, 0), (22, .iload 4, 0, 0, 0)]),
  (35, [(24, .bipush 24, 0, 0, 0), (26, .if_icmp .ge 40, 66, 0, 0), (29, .aload_n 0, 0, 0, 0), (30, .iload_n 2, 0, 0, 0), (31, .invokevirtual 51, 12, 2, 4117), (34, .iload_n 2, 0, 0, 0), (35, .if_icmp .ne 31, 66, 0, 0)]),
  (45, [(38, .aload_n 0, 0, 0, 0), (39, .iload_n 3, 0, 0, 0), (40, .iload_n 2, 0, 0, 0), (41, .iconst 0, 0, 0, 0), (42, .iconst 0, 0, 0, 0), (43, .iload 4, 0, 0, 0), (45, .iload_n 1, 0, 0, 0)]),
  (58, [(46, .invokevirtual 82, 13, 7, 4121), (49, .aload_n 0, 0, 0, 0), (50, .iload_n 3, 0, 0, 0), (51, .iload_n 2, 0, 0, 0), (52, .invokevirtual 110, 22, 3, 5112), (55, .ifCond .eq 5, 60, 0, 0), (58, .iconst 1, 0, 0, 0)]),
  (73, [(59, .ireturn, 0, 0, 0), (60, .iinc 4 1, 0, 0, 0), (63, .goto (-41), 22, 0, 0), (66, .iinc 2 1, 0, 0, 0), (69, .goto (-67), 2, 0, 0), (72, .iconst 0, 0, 0, 0), (73, .ireturn, 0, 0, 0)])]
def mO25 : List (Nat × List (Nat × mOp)) := [(9, [(0, .iconst 0, 0, 0, 0), (1, .istore_n 2, 0, 0, 0), (2, .iconst 0, 0, 0, 0), (3, .istore_n 3, 0, 0, 0), (4, .iload_n 3, 0, 0, 0), (5, .aload_n 0, 0, 0, 0), (6, .getfield 15, 1, 0, 2094), (9, .getfield 32, 0, 2, 1120)]),
  (25, [(12, .if_icmp .ge 84, 96, 0, 0), (15, .iconst 0, 0, 0, 0), (16, .istore 4, 0, 0, 0), (18, .iconst 0, 0, 0, 0), (19, .istore 5, 0, 0, 0), (21, .iload 5, 0, 0, 0), (23, .bipush 24, 0, 0, 0), (25, .if_icmp .ge 45, 70, 0, 0)]),
  (42, [(28, .iload 4, 0, 0, 0), (30, .aload_n 0, 0, 0, 0), (31, .getfield 23, 1, 2, 2096), (34, .iload_n 3, 0, 0, 0), (35, .aload_n 0, 0, 0, 0), (36, .getfield 19, 1, 1, 2095), (39, .getfield 38, 7, 3, 2026), (42, .iload_n 3, 0, 0, 0)]),
  (55, [(43, .iaload, 0, 0, 0), (44, .aload_n 0, 0, 0, 0), (45, .getfield 19, 1, 1, 2095), (48, .getfield 41, 7, 4, 2033), (51, .iload_n 3, 0, 0, 0), (52, .iaload, 0, 0, 0), (53, .iload 5, 0, 0, 0), (55, .iload_n 1, 0, 0, 0)]),
  (73, [(56, .invokevirtual 90, 54, 6, 4125), (59, .invokestatic 113, 1000, 2, 5117), (62, .istore 4, 0, 0, 0), (64, .iinc 5 1, 0, 0, 0), (67, .goto (-46), 21, 0, 0), (70, .iload_n 2, 0, 0, 0), (71, .iload 4, 0, 0, 0), (73, .aload_n 0, 0, 0, 0)]),
  (89, [(74, .getfield 15, 1, 0, 2094), (77, .getfield 117, 0, 4, 1129), (80, .if_icmp .le 7, 87, 0, 0), (83, .iconst 1, 0, 0, 0), (84, .goto 4, 88, 0, 0), (87, .iconst 0, 0, 0, 0), (88, .iadd, 0, 0, 0), (89, .istore_n 2, 0, 0, 0)]),
  (97, [(90, .iinc 3 1, 0, 0, 0), (93, .goto (-89), 4, 0, 0), (96, .iload_n 2, 0, 0, 0), (97, .ireturn, 0, 0, 0)])]
def mO26 : List (Nat × List (Nat × mOp)) := [(11, [(0, .aload_n 0, 0, 0, 0), (1, .getfield 15, 1, 0, 2094), (4, .getfield 32, 0, 2, 1120), (7, .ifCond .le 7, 14, 0, 0), (10, .iconst 1, 0, 0, 0), (11, .goto 4, 15, 0, 0)]),
  (19, [(14, .iconst 0, 0, 0, 0), (15, .istore_n 1, 0, 0, 0), (16, .iconst 0, 0, 0, 0), (17, .istore_n 2, 0, 0, 0), (18, .iload_n 2, 0, 0, 0), (19, .aload_n 0, 0, 0, 0)]),
  (31, [(20, .getfield 15, 1, 0, 2094), (23, .getfield 32, 0, 2, 1120), (26, .iconst 1, 0, 0, 0), (27, .isub, 0, 0, 0), (28, .if_icmp .ge 21, 49, 0, 0), (31, .iload_n 1, 0, 0, 0)]),
  (41, [(32, .aload_n 0, 0, 0, 0), (33, .getfield 19, 1, 1, 2095), (36, .getfield 27, 7, 8, 2044), (39, .iload_n 2, 0, 0, 0), (40, .iaload, 0, 0, 0), (41, .iadd, 0, 0, 0)]),
  (50, [(42, .istore_n 1, 0, 0, 0), (43, .iinc 2 1, 0, 0, 0), (46, .goto (-28), 18, 0, 0), (49, .iload_n 1, 0, 0, 0), (50, .ireturn, 0, 0, 0)])]
def mO27 : List (Nat × List (Nat × mOp)) := [(8, [(0, .aload_n 0, 0, 0, 0), (1, .invokespecial 3, 1004, 1, 2179), (4, .aload_n 0, 0, 0, 0), (5, .iconst 5, 0, 0, 0), (6, .newarray .boolean, 0, 0, 0), (8, .putfield 9, 2, 4, 2184)]),
  (20, [(11, .aload_n 0, 0, 0, 0), (12, .bipush 35, 0, 0, 0), (14, .newarray .int, 0, 0, 0), (16, .putfield 15, 2, 5, 2186), (19, .aload_n 0, 0, 0, 0), (20, .bipush 7, 0, 0, 0)]),
  (32, [(22, .newarray .int, 0, 0, 0), (24, .putfield 21, 2, 6, 2188), (27, .aload_n 0, 0, 0, 0), (28, .aload_n 1, 0, 0, 0), (29, .putfield 24, 2, 0, 2180), (32, .aload_n 0, 0, 0, 0)]),
  (42, [(33, .aload_n 2, 0, 0, 0), (34, .putfield 28, 2, 1, 2181), (37, .aload_n 0, 0, 0, 0), (38, .aload_n 3, 0, 0, 0), (39, .putfield 32, 2, 2, 2182), (42, .aload_n 0, 0, 0, 0)]),
  (48, [(43, .aload 4, 0, 0, 0), (45, .putfield 36, 2, 3, 2183), (48, .return_, 0, 0, 0)])]
def mO28 : List (Nat × List (Nat × mOp)) := [(12, [(0, .iconst 0, 0, 0, 0), (1, .istore_n 1, 0, 0, 0), (2, .iload_n 1, 0, 0, 0), (3, .iconst 5, 0, 0, 0), (4, .if_icmp .ge 115, 119, 0, 0), (7, .aload_n 0, 0, 0, 0), (8, .getfield 9, 2, 4, 2184), (11, .iload_n 1, 0, 0, 0), (12, .aload_n 0, 0, 0, 0)]),
  (29, [(13, .getfield 36, 2, 3, 2183), (16, .iconst 0, 0, 0, 0), (17, .aload_n 0, 0, 0, 0), (18, .getfield 24, 2, 0, 2180), (21, .getfield 40, 0, 2, 1118), (24, .iconst 1, 0, 0, 0), (25, .isub, 0, 0, 0), (26, .getstatic 46, 1, 2, 5034), (29, .iload_n 1, 0, 0, 0)]),
  (42, [(30, .iaload, 0, 0, 0), (31, .getstatic 49, 2, 2, 5035), (34, .iload_n 1, 0, 0, 0), (35, .iaload, 0, 0, 0), (36, .invokevirtual 52, 19, 5, 5036), (39, .bastore, 0, 0, 0), (40, .iconst 0, 0, 0, 0), (41, .istore_n 2, 0, 0, 0), (42, .iload_n 2, 0, 0, 0)]),
  (59, [(43, .aload_n 0, 0, 0, 0), (44, .getfield 24, 2, 0, 2180), (47, .getfield 40, 0, 2, 1118), (50, .if_icmp .ge 63, 113, 0, 0), (53, .aload_n 0, 0, 0, 0), (54, .getfield 9, 2, 4, 2184), (57, .iload_n 1, 0, 0, 0), (58, .baload, 0, 0, 0), (59, .ifCond .eq 54, 113, 0, 0)]),
  (72, [(62, .aload_n 0, 0, 0, 0), (63, .getfield 15, 2, 5, 2186), (66, .iload_n 2, 0, 0, 0), (67, .iconst 5, 0, 0, 0), (68, .imul, 0, 0, 0), (69, .iload_n 1, 0, 0, 0), (70, .iadd, 0, 0, 0), (71, .aload_n 0, 0, 0, 0), (72, .iload_n 2, 0, 0, 0)]),
  (87, [(73, .aload_n 0, 0, 0, 0), (74, .getfield 28, 2, 1, 2181), (77, .getfield 58, 7, 3, 2023), (80, .iload_n 2, 0, 0, 0), (81, .iaload, 0, 0, 0), (82, .getstatic 46, 1, 2, 5034), (85, .iload_n 1, 0, 0, 0), (86, .iaload, 0, 0, 0), (87, .iadd, 0, 0, 0)]),
  (102, [(88, .aload_n 0, 0, 0, 0), (89, .getfield 28, 2, 1, 2181), (92, .getfield 63, 7, 4, 2030), (95, .iload_n 2, 0, 0, 0), (96, .iaload, 0, 0, 0), (97, .getstatic 49, 2, 2, 5035), (100, .iload_n 1, 0, 0, 0), (101, .iaload, 0, 0, 0), (102, .iadd, 0, 0, 0)]),
  (119, [(103, .invokevirtual 66, 29, 4, 5037), (106, .iastore, 0, 0, 0), (107, .iinc 2 1, 0, 0, 0), (110, .goto (-68), 42, 0, 0), (113, .iinc 1 1, 0, 0, 0), (116, .goto (-114), 2, 0, 0), (119, .return_, 0, 0, 0)])]
def mO29 : List (Nat × List (Nat × mOp)) := [(16, [(0, .aload_n 0, 0, 0, 0), (1, .getfield 21, 2, 6, 2188), (4, .iconst 0, 0, 0, 0), (5, .aload_n 0, 0, 0, 0), (6, .getfield 28, 2, 1, 2181), (9, .getfield 70, 7, 2, 2018), (12, .iload_n 3, 0, 0, 0), (13, .bipush 8, 0, 0, 0), (15, .imul, 0, 0, 0), (16, .iload_n 2, 0, 0, 0)]),
  (30, [(17, .iadd, 0, 0, 0), (18, .iaload, 0, 0, 0), (19, .iastore, 0, 0, 0), (20, .aload_n 0, 0, 0, 0), (21, .getfield 21, 2, 6, 2188), (24, .iconst 1, 0, 0, 0), (25, .aload_n 0, 0, 0, 0), (26, .getfield 32, 2, 2, 2182), (29, .iload_n 2, 0, 0, 0), (30, .iload_n 3, 0, 0, 0)]),
  (48, [(31, .aload_n 0, 0, 0, 0), (32, .getfield 28, 2, 1, 2181), (35, .getfield 73, 7, 1, 2012), (38, .invokevirtual 76, 55, 4, 5041), (41, .iastore, 0, 0, 0), (42, .aload_n 0, 0, 0, 0), (43, .getfield 21, 2, 6, 2188), (46, .iconst 2, 0, 0, 0), (47, .aload_n 0, 0, 0, 0), (48, .getfield 24, 2, 0, 2180)]),
  (66, [(51, .iload_n 1, 0, 0, 0), (52, .invokevirtual 81, 6, 2, 5042), (55, .aload_n 0, 0, 0, 0), (56, .getfield 28, 2, 1, 2181), (59, .getfield 85, 7, 5, 2036), (62, .iload_n 1, 0, 0, 0), (63, .iaload, 0, 0, 0), (64, .isub, 0, 0, 0), (65, .iastore, 0, 0, 0), (66, .aload_n 0, 0, 0, 0)]),
  (82, [(67, .getfield 21, 2, 6, 2188), (70, .iconst 3, 0, 0, 0), (71, .iload_n 2, 0, 0, 0), (72, .aload_n 0, 0, 0, 0), (73, .getfield 24, 2, 0, 2180), (76, .getfield 88, 0, 8, 1145), (79, .iload_n 1, 0, 0, 0), (80, .iaload, 0, 0, 0), (81, .isub, 0, 0, 0), (82, .invokestatic 91, 1002, 1, 5043)]),
  (100, [(85, .iload_n 3, 0, 0, 0), (86, .aload_n 0, 0, 0, 0), (87, .getfield 24, 2, 0, 2180), (90, .getfield 96, 0, 9, 1149), (93, .iload_n 1, 0, 0, 0), (94, .iaload, 0, 0, 0), (95, .isub, 0, 0, 0), (96, .invokestatic 91, 1002, 1, 5043), (99, .iadd, 0, 0, 0), (100, .iastore, 0, 0, 0)]),
  (114, [(101, .aload_n 0, 0, 0, 0), (102, .getfield 21, 2, 6, 2188), (105, .iconst 4, 0, 0, 0), (106, .iload_n 2, 0, 0, 0), (107, .iastore, 0, 0, 0), (108, .aload_n 0, 0, 0, 0), (109, .getfield 21, 2, 6, 2188), (112, .iconst 5, 0, 0, 0), (113, .iload_n 3, 0, 0, 0), (114, .iastore, 0, 0, 0)]),
  (132, [(115, .aload_n 0, 0, 0, 0), (116, .getfield 21, 2, 6, 2188), (119, .bipush 6, 0, 0, 0), (121, .aload_n 0, 0, 0, 0), (122, .getfield 28, 2, 1, 2181), (125, .getfield 73, 7, 1, 2012), (128, .bipush 24, 0, 0, 0), (130, .irem, 0, 0, 0), (131, .iastore, 0, 0, 0), (132, .aload_n 0, 0, 0, 0)]),
  (149, [(133, .getfield 24, 2, 0, 2180), (136, .getfield 99, 0, 16, 1172), (139, .aload_n 0, 0, 0, 0), (140, .getfield 21, 2, 6, 2188), (143, .invokevirtual 103, 43, 2, 5044), (146, .invokestatic 107, 102, 101, 5045), (149, .ireturn, 0, 0, 0)])]
def mO30 : List (Nat × List (Nat × mOp)) := [(9, [(0, .iconst 0, 0, 0, 0), (1, .istore_n 1, 0, 0, 0), (2, .iconst 0, 0, 0, 0), (3, .istore_n 2, 0, 0, 0), (4, .iload_n 2, 0, 0, 0), (5, .aload_n 0, 0, 0, 0), (6, .getfield 24, 2, 0, 2180), (9, .getfield 40, 0, 2, 1118)]),
  (23, [(12, .if_icmp .ge 69, 81, 0, 0), (15, .iconst 0, 0, 0, 0), (16, .istore_n 3, 0, 0, 0), (17, .iconst 1, 0, 0, 0), (18, .istore 4, 0, 0, 0), (20, .iload 4, 0, 0, 0), (22, .iconst 5, 0, 0, 0), (23, .if_icmp .ge 46, 69, 0, 0)]),
  (40, [(26, .aload_n 0, 0, 0, 0), (27, .getfield 9, 2, 4, 2184), (30, .iload 4, 0, 0, 0), (32, .baload, 0, 0, 0), (33, .ifCond .eq 30, 63, 0, 0), (36, .aload_n 0, 0, 0, 0), (37, .getfield 15, 2, 5, 2186), (40, .iload_n 2, 0, 0, 0)]),
  (51, [(41, .iconst 5, 0, 0, 0), (42, .imul, 0, 0, 0), (43, .iload 4, 0, 0, 0), (45, .iadd, 0, 0, 0), (46, .iaload, 0, 0, 0), (47, .aload_n 0, 0, 0, 0), (48, .getfield 15, 2, 5, 2186), (51, .iload_n 2, 0, 0, 0)]),
  (62, [(52, .iconst 5, 0, 0, 0), (53, .imul, 0, 0, 0), (54, .iload_n 3, 0, 0, 0), (55, .iadd, 0, 0, 0), (56, .iaload, 0, 0, 0), (57, .if_icmp .le 6, 63, 0, 0), (60, .iload 4, 0, 0, 0), (62, .istore_n 3, 0, 0, 0)]),
  (74, [(63, .iinc 4 1, 0, 0, 0), (66, .goto (-46), 20, 0, 0), (69, .iload_n 1, 0, 0, 0), (70, .iconst 1, 0, 0, 0), (71, .iload_n 3, 0, 0, 0), (72, .ishl, 0, 0, 0), (73, .ior, 0, 0, 0), (74, .istore_n 1, 0, 0, 0)]),
  (82, [(75, .iinc 2 1, 0, 0, 0), (78, .goto (-74), 4, 0, 0), (81, .iload_n 1, 0, 0, 0), (82, .ireturn, 0, 0, 0)])]
def mO31 : List (Nat × List (Nat × mOp)) := [(9, [(0, .iconst (-1), 0, 0, 0), (1, .istore_n 2, 0, 0, 0), (2, .iconst (-1), 0, 0, 0), (3, .istore_n 3, 0, 0, 0), (4, .iconst 0, 0, 0, 0), (5, .istore 4, 0, 0, 0), (7, .iload 4, 0, 0, 0), (9, .iconst 5, 0, 0, 0)]),
  (24, [(10, .if_icmp .ge 92, 102, 0, 0), (13, .aload_n 0, 0, 0, 0), (14, .getfield 9, 2, 4, 2184), (17, .iload 4, 0, 0, 0), (19, .baload, 0, 0, 0), (20, .ifCond .eq 76, 96, 0, 0), (23, .iload_n 1, 0, 0, 0), (24, .iconst 1, 0, 0, 0)]),
  (36, [(25, .iload 4, 0, 0, 0), (27, .ishl, 0, 0, 0), (28, .iand, 0, 0, 0), (29, .ifCond .ne 67, 96, 0, 0), (32, .iconst 0, 0, 0, 0), (33, .istore 5, 0, 0, 0), (35, .iconst 0, 0, 0, 0), (36, .istore 6, 0, 0, 0)]),
  (53, [(38, .iload 6, 0, 0, 0), (40, .aload_n 0, 0, 0, 0), (41, .getfield 24, 2, 0, 2180), (44, .getfield 40, 0, 2, 1118), (47, .if_icmp .ge 37, 84, 0, 0), (50, .iload 5, 0, 0, 0), (52, .aload_n 0, 0, 0, 0), (53, .getfield 24, 2, 0, 2180)]),
  (69, [(56, .getfield 110, 0, 12, 1157), (59, .iload 6, 0, 0, 0), (61, .iaload, 0, 0, 0), (62, .aload_n 0, 0, 0, 0), (63, .getfield 15, 2, 5, 2186), (66, .iload 6, 0, 0, 0), (68, .iconst 5, 0, 0, 0), (69, .imul, 0, 0, 0)]),
  (81, [(70, .iload 4, 0, 0, 0), (72, .iadd, 0, 0, 0), (73, .iaload, 0, 0, 0), (74, .imul, 0, 0, 0), (75, .iadd, 0, 0, 0), (76, .istore 5, 0, 0, 0), (78, .iinc 6 1, 0, 0, 0), (81, .goto (-43), 38, 0, 0)]),
  (96, [(84, .iload 5, 0, 0, 0), (86, .iload_n 3, 0, 0, 0), (87, .if_icmp .le 9, 96, 0, 0), (90, .iload 5, 0, 0, 0), (92, .istore_n 3, 0, 0, 0), (93, .iload 4, 0, 0, 0), (95, .istore_n 2, 0, 0, 0), (96, .iinc 4 1, 0, 0, 0)]),
  (103, [(99, .goto (-92), 7, 0, 0), (102, .iload_n 2, 0, 0, 0), (103, .ireturn, 0, 0, 0)])]
def mO32 : List (Nat × List (Nat × mOp)) := [(6, [(0, .iconst 0, 0, 0, 0), (1, .istore_n 2, 0, 0, 0), (2, .iconst 0, 0, 0, 0), (3, .istore_n 3, 0, 0, 0), (4, .iload_n 3, 0, 0, 0), (5, .iconst 5, 0, 0, 0), (6, .if_icmp .ge 62, 68, 0, 0)]),
  (19, [(9, .iconst 0, 0, 0, 0), (10, .istore 4, 0, 0, 0), (12, .iload 4, 0, 0, 0), (14, .iconst 5, 0, 0, 0), (15, .if_icmp .ge 32, 47, 0, 0), (18, .aload_n 0, 0, 0, 0), (19, .getfield 15, 2, 5, 2186)]),
  (30, [(22, .iload_n 1, 0, 0, 0), (23, .iconst 5, 0, 0, 0), (24, .imul, 0, 0, 0), (25, .iload 4, 0, 0, 0), (27, .iadd, 0, 0, 0), (28, .iload 4, 0, 0, 0), (30, .iload_n 3, 0, 0, 0)]),
  (44, [(31, .if_icmp .ne 8, 39, 0, 0), (34, .bipush 99, 0, 0, 0), (36, .goto 4, 40, 0, 0), (39, .iconst 0, 0, 0, 0), (40, .iastore, 0, 0, 0), (41, .iinc 4 1, 0, 0, 0), (44, .goto (-32), 12, 0, 0)]),
  (57, [(47, .aload_n 0, 0, 0, 0), (48, .iconst 0, 0, 0, 0), (49, .invokevirtual 113, 31, 2, 5066), (52, .iload_n 3, 0, 0, 0), (53, .if_icmp .ne 9, 62, 0, 0), (56, .iload_n 2, 0, 0, 0), (57, .iconst 1, 0, 0, 0)]),
  (68, [(58, .iload_n 3, 0, 0, 0), (59, .ishl, 0, 0, 0), (60, .ior, 0, 0, 0), (61, .istore_n 2, 0, 0, 0), (62, .iinc 3 1, 0, 0, 0), (65, .goto (-61), 4, 0, 0), (68, .iload_n 2, 0, 0, 0)]),
  (69, [(69, .ireturn, 0, 0, 0)])]
def mO33 : List (Nat × List (Nat × mOp)) := [(9, [(0, .aload_n 0, 0, 0, 0), (1, .invokespecial 3, 1004, 1, 2135), (4, .aload_n 0, 0, 0, 0), (5, .bipush 24, 0, 0, 0), (7, .newarray .int, 0, 0, 0), (9, .putfield 9, 3, 4, 2140)]),
  (21, [(12, .aload_n 0, 0, 0, 0), (13, .bipush 64, 0, 0, 0), (15, .newarray .int, 0, 0, 0), (17, .putfield 15, 3, 5, 2142), (20, .aload_n 0, 0, 0, 0), (21, .bipush 64, 0, 0, 0)]),
  (34, [(23, .newarray .int, 0, 0, 0), (25, .putfield 18, 3, 6, 2143), (28, .aload_n 0, 0, 0, 0), (29, .sipush 1600, 0, 0, 0), (32, .newarray .int, 0, 0, 0), (34, .putfield 21, 3, 7, 2144)]),
  (47, [(37, .aload_n 0, 0, 0, 0), (38, .sipush 1536, 0, 0, 0), (41, .newarray .int, 0, 0, 0), (43, .putfield 24, 3, 8, 2145), (46, .aload_n 0, 0, 0, 0), (47, .aload_n 1, 0, 0, 0)]),
  (57, [(48, .putfield 27, 3, 0, 2136), (51, .aload_n 0, 0, 0, 0), (52, .aload_n 2, 0, 0, 0), (53, .putfield 31, 3, 1, 2137), (56, .aload_n 0, 0, 0, 0), (57, .aload_n 3, 0, 0, 0)]),
  (67, [(58, .putfield 35, 3, 2, 2138), (61, .aload_n 0, 0, 0, 0), (62, .aload 4, 0, 0, 0), (64, .putfield 39, 3, 3, 2139), (67, .return_, 0, 0, 0)])]
def mO34 : List (Nat × List (Nat × mOp)) := [(17, [(0, .aload_n 0, 0, 0, 0), (1, .aload_n 0, 0, 0, 0), (2, .getfield 35, 3, 2, 2138), (5, .iload_n 1, 0, 0, 0), (6, .invokevirtual 43, 10, 2, 4236), (9, .putfield 49, 3, 9, 2146), (12, .aload_n 0, 0, 0, 0), (13, .aload_n 0, 0, 0, 0), (14, .getfield 35, 3, 2, 2138), (17, .iload_n 1, 0, 0, 0)]),
  (37, [(18, .invokevirtual 53, 12, 2, 4237), (21, .putfield 56, 3, 10, 2147), (24, .aload_n 0, 0, 0, 0), (25, .iload_n 2, 0, 0, 0), (26, .invokevirtual 59, 35, 2, 4238), (29, .aload_n 0, 0, 0, 0), (30, .getfield 18, 3, 6, 2143), (33, .iconst 0, 0, 0, 0), (34, .invokestatic 63, 224, 2, 5004), (37, .aload_n 0, 0, 0, 0)]),
  (56, [(38, .getfield 21, 3, 7, 2144), (41, .iconst 0, 0, 0, 0), (42, .aload_n 0, 0, 0, 0), (43, .getfield 31, 3, 1, 2137), (46, .getfield 69, 7, 4, 2028), (49, .aload_n 0, 0, 0, 0), (50, .getfield 49, 3, 9, 2146), (53, .iaload, 0, 0, 0), (54, .bipush 8, 0, 0, 0), (56, .imul, 0, 0, 0)]),
  (72, [(57, .aload_n 0, 0, 0, 0), (58, .getfield 31, 3, 1, 2137), (61, .getfield 74, 7, 3, 2022), (64, .aload_n 0, 0, 0, 0), (65, .getfield 49, 3, 9, 2146), (68, .iaload, 0, 0, 0), (69, .iadd, 0, 0, 0), (70, .iastore, 0, 0, 0), (71, .aload_n 0, 0, 0, 0), (72, .iconst 1, 0, 0, 0)]),
  (89, [(73, .putfield 77, 3, 11, 2148), (76, .iconst 0, 0, 0, 0), (77, .istore_n 3, 0, 0, 0), (78, .iconst 0, 0, 0, 0), (79, .istore 4, 0, 0, 0), (81, .iload 4, 0, 0, 0), (83, .bipush 24, 0, 0, 0), (85, .if_icmp .gt 102, 187, 0, 0), (88, .aload_n 0, 0, 0, 0), (89, .getfield 77, 3, 11, 2148)]),
  (109, [(92, .istore 5, 0, 0, 0), (94, .iload_n 3, 0, 0, 0), (95, .istore 6, 0, 0, 0), (97, .iload 6, 0, 0, 0), (99, .iload 5, 0, 0, 0), (101, .if_icmp .ge 41, 142, 0, 0), (104, .aload_n 0, 0, 0, 0), (105, .getfield 15, 3, 5, 2142), (108, .aload_n 0, 0, 0, 0), (109, .getfield 21, 3, 7, 2144)]),
  (127, [(112, .iload 6, 0, 0, 0), (114, .iaload, 0, 0, 0), (115, .iaload, 0, 0, 0), (116, .iconst 2, 0, 0, 0), (117, .if_icmp .ne 19, 136, 0, 0), (120, .aload_n 0, 0, 0, 0), (121, .aload_n 0, 0, 0, 0), (122, .getfield 21, 3, 7, 2144), (125, .iload 6, 0, 0, 0), (127, .iaload, 0, 0, 0)]),
  (147, [(128, .iload 4, 0, 0, 0), (130, .invokevirtual 80, 36, 3, 5005), (133, .iload 4, 0, 0, 0), (135, .ireturn, 0, 0, 0), (136, .iinc 6 1, 0, 0, 0), (139, .goto (-42), 97, 0, 0), (142, .iload_n 3, 0, 0, 0), (143, .istore 6, 0, 0, 0), (145, .iload 6, 0, 0, 0), (147, .iload 5, 0, 0, 0)]),
  (167, [(149, .if_icmp .ge 29, 178, 0, 0), (152, .iload 4, 0, 0, 0), (154, .bipush 24, 0, 0, 0), (156, .if_icmp .ge 22, 178, 0, 0), (159, .aload_n 0, 0, 0, 0), (160, .aload_n 0, 0, 0, 0), (161, .getfield 21, 3, 7, 2144), (164, .iload 6, 0, 0, 0), (166, .iaload, 0, 0, 0), (167, .iload 4, 0, 0, 0)]),
  (188, [(169, .invokevirtual 84, 37, 3, 5011), (172, .iinc 6 1, 0, 0, 0), (175, .goto (-30), 145, 0, 0), (178, .iload 5, 0, 0, 0), (180, .istore_n 3, 0, 0, 0), (181, .iinc 4 1, 0, 0, 0), (184, .goto (-103), 81, 0, 0), (187, .iconst (-1), 0, 0, 0), (188, .ireturn, 0, 0, 0)])]
def mO35 : List (Nat × List (Nat × mOp)) := [(11, [(0, .iconst 0, 0, 0, 0), (1, .istore_n 2, 0, 0, 0), (2, .iload_n 2, 0, 0, 0), (3, .bipush 64, 0, 0, 0), (5, .if_icmp .ge 110, 115, 0, 0), (8, .iload_n 2, 0, 0, 0), (9, .bipush 8, 0, 0, 0), (11, .irem, 0, 0, 0)]),
  (25, [(12, .aload_n 0, 0, 0, 0), (13, .getfield 31, 3, 1, 2137), (16, .getfield 74, 7, 3, 2022), (19, .aload_n 0, 0, 0, 0), (20, .getfield 49, 3, 9, 2146), (23, .iaload, 0, 0, 0), (24, .isub, 0, 0, 0), (25, .istore_n 3, 0, 0, 0)]),
  (38, [(26, .iload_n 2, 0, 0, 0), (27, .bipush 8, 0, 0, 0), (29, .idiv, 0, 0, 0), (30, .aload_n 0, 0, 0, 0), (31, .getfield 31, 3, 1, 2137), (34, .getfield 69, 7, 4, 2028), (37, .aload_n 0, 0, 0, 0), (38, .getfield 49, 3, 9, 2146)]),
  (53, [(41, .iaload, 0, 0, 0), (42, .isub, 0, 0, 0), (43, .istore 4, 0, 0, 0), (45, .aload_n 0, 0, 0, 0), (46, .getfield 35, 3, 2, 2138), (49, .aload_n 0, 0, 0, 0), (50, .getfield 49, 3, 9, 2146), (53, .aload_n 0, 0, 0, 0)]),
  (70, [(54, .getfield 56, 3, 10, 2147), (57, .iload_n 3, 0, 0, 0), (58, .iload 4, 0, 0, 0), (60, .invokevirtual 87, 19, 5, 5002), (63, .ifCond .ne 13, 76, 0, 0), (66, .aload_n 0, 0, 0, 0), (67, .getfield 15, 3, 5, 2142), (70, .iload_n 2, 0, 0, 0)]),
  (82, [(71, .iconst 0, 0, 0, 0), (72, .iastore, 0, 0, 0), (73, .goto 36, 109, 0, 0), (76, .aload_n 0, 0, 0, 0), (77, .getfield 15, 3, 5, 2142), (80, .iload_n 2, 0, 0, 0), (81, .aload_n 0, 0, 0, 0), (82, .getfield 39, 3, 3, 2139)]),
  (99, [(85, .aload_n 0, 0, 0, 0), (86, .getfield 49, 3, 9, 2146), (89, .aload_n 0, 0, 0, 0), (90, .getfield 56, 3, 10, 2147), (93, .iload_n 3, 0, 0, 0), (94, .iload 4, 0, 0, 0), (96, .invokevirtual 91, 46, 5, 5003), (99, .iload_n 1, 0, 0, 0)]),
  (115, [(100, .if_icmp .lt 7, 107, 0, 0), (103, .iconst 2, 0, 0, 0), (104, .goto 4, 108, 0, 0), (107, .iconst 1, 0, 0, 0), (108, .iastore, 0, 0, 0), (109, .iinc 2 1, 0, 0, 0), (112, .goto (-110), 2, 0, 0), (115, .return_, 0, 0, 0)])]
def mO36 : List (Nat × List (Nat × mOp)) := [(7, [(0, .iload_n 1, 0, 0, 0), (1, .istore_n 3, 0, 0, 0), (2, .iload_n 2, 0, 0, 0), (3, .iconst 1, 0, 0, 0), (4, .isub, 0, 0, 0), (5, .istore 4, 0, 0, 0), (7, .iload 4, 0, 0, 0)]),
  (22, [(9, .ifCond .lt 61, 70, 0, 0), (12, .iload_n 3, 0, 0, 0), (13, .ifCond .lt 57, 70, 0, 0), (16, .iload_n 3, 0, 0, 0), (17, .bipush 64, 0, 0, 0), (19, .if_icmp .ge 51, 70, 0, 0), (22, .aload_n 0, 0, 0, 0)]),
  (33, [(23, .getfield 24, 3, 8, 2145), (26, .iload 4, 0, 0, 0), (28, .bipush 64, 0, 0, 0), (30, .imul, 0, 0, 0), (31, .iload_n 3, 0, 0, 0), (32, .iadd, 0, 0, 0), (33, .iaload, 0, 0, 0)]),
  (45, [(34, .istore 5, 0, 0, 0), (36, .aload_n 0, 0, 0, 0), (37, .getfield 9, 3, 4, 2140), (40, .iload 4, 0, 0, 0), (42, .iload 5, 0, 0, 0), (44, .iastore, 0, 0, 0), (45, .iload_n 3, 0, 0, 0)]),
  (58, [(46, .getstatic 107, 2, 2, 5009), (49, .iload 5, 0, 0, 0), (51, .iaload, 0, 0, 0), (52, .bipush 8, 0, 0, 0), (54, .imul, 0, 0, 0), (55, .getstatic 104, 1, 2, 5010), (58, .iload 5, 0, 0, 0)]),
  (70, [(60, .iaload, 0, 0, 0), (61, .iadd, 0, 0, 0), (62, .isub, 0, 0, 0), (63, .istore_n 3, 0, 0, 0), (64, .iinc 4 (-1), 0, 0, 0), (67, .goto (-60), 7, 0, 0), (70, .return_, 0, 0, 0)])]
def mO37 : List (Nat × List (Nat × mOp)) := [(20, [(0, .aload_n 0, 0, 0, 0), (1, .getfield 35, 3, 2, 2138), (4, .aload_n 0, 0, 0, 0), (5, .getfield 49, 3, 9, 2146), (8, .aload_n 0, 0, 0, 0), (9, .getfield 56, 3, 10, 2147), (12, .aload_n 0, 0, 0, 0), (13, .getfield 31, 3, 1, 2137), (16, .getfield 97, 7, 1, 2013), (19, .iload_n 2, 0, 0, 0), (20, .iadd, 0, 0, 0)]),
  (39, [(21, .invokevirtual 100, 18, 4, 5015), (24, .ifCond .eq 7, 31, 0, 0), (27, .iconst 1, 0, 0, 0), (28, .goto 4, 32, 0, 0), (31, .iconst 5, 0, 0, 0), (32, .istore_n 3, 0, 0, 0), (33, .iconst 0, 0, 0, 0), (34, .istore 4, 0, 0, 0), (36, .iload 4, 0, 0, 0), (38, .iload_n 3, 0, 0, 0), (39, .if_icmp .ge 177, 216, 0, 0)]),
  (58, [(42, .iload_n 1, 0, 0, 0), (43, .bipush 8, 0, 0, 0), (45, .irem, 0, 0, 0), (46, .getstatic 104, 1, 2, 5010), (49, .iload 4, 0, 0, 0), (51, .iaload, 0, 0, 0), (52, .iadd, 0, 0, 0), (53, .istore 5, 0, 0, 0), (55, .iload_n 1, 0, 0, 0), (56, .bipush 8, 0, 0, 0), (58, .idiv, 0, 0, 0)]),
  (77, [(59, .getstatic 107, 2, 2, 5009), (62, .iload 4, 0, 0, 0), (64, .iaload, 0, 0, 0), (65, .iadd, 0, 0, 0), (66, .istore 6, 0, 0, 0), (68, .aload_n 0, 0, 0, 0), (69, .iload 5, 0, 0, 0), (71, .iload 6, 0, 0, 0), (73, .iload_n 2, 0, 0, 0), (74, .invokevirtual 110, 38, 4, 5016), (77, .ifCond .eq 133, 210, 0, 0)]),
  (101, [(80, .aload_n 0, 0, 0, 0), (81, .getfield 35, 3, 2, 2138), (84, .aload_n 0, 0, 0, 0), (85, .getfield 49, 3, 9, 2146), (88, .aload_n 0, 0, 0, 0), (89, .getfield 56, 3, 10, 2147), (92, .iload 5, 0, 0, 0), (94, .aload_n 0, 0, 0, 0), (95, .getfield 31, 3, 1, 2137), (98, .getfield 74, 7, 3, 2022), (101, .aload_n 0, 0, 0, 0)]),
  (121, [(102, .getfield 49, 3, 9, 2146), (105, .iaload, 0, 0, 0), (106, .isub, 0, 0, 0), (107, .iload 6, 0, 0, 0), (109, .aload_n 0, 0, 0, 0), (110, .getfield 31, 3, 1, 2137), (113, .getfield 69, 7, 4, 2028), (116, .aload_n 0, 0, 0, 0), (117, .getfield 49, 3, 9, 2146), (120, .iaload, 0, 0, 0), (121, .isub, 0, 0, 0)]),
  (140, [(122, .aload_n 0, 0, 0, 0), (123, .getfield 31, 3, 1, 2137), (126, .getfield 97, 7, 1, 2013), (129, .iload_n 2, 0, 0, 0), (130, .iadd, 0, 0, 0), (131, .iconst 0, 0, 0, 0), (132, .invokevirtual 113, 13, 7, 5021), (135, .aload_n 0, 0, 0, 0), (136, .getfield 35, 3, 2, 2138), (139, .aload_n 0, 0, 0, 0), (140, .getfield 49, 3, 9, 2146)]),
  (167, [(143, .aload_n 0, 0, 0, 0), (144, .getfield 56, 3, 10, 2147), (147, .invokevirtual 117, 22, 3, 5022), (150, .ifCond .ne 60, 210, 0, 0), (153, .aload_n 0, 0, 0, 0), (154, .getfield 77, 3, 11, 2148), (157, .sipush 1600, 0, 0, 0), (160, .if_icmp .ge 50, 210, 0, 0), (163, .aload_n 0, 0, 0, 0), (164, .getfield 24, 3, 8, 2145), (167, .iload_n 2, 0, 0, 0)]),
  (183, [(168, .bipush 64, 0, 0, 0), (170, .imul, 0, 0, 0), (171, .iload 6, 0, 0, 0), (173, .bipush 8, 0, 0, 0), (175, .imul, 0, 0, 0), (176, .iadd, 0, 0, 0), (177, .iload 5, 0, 0, 0), (179, .iadd, 0, 0, 0), (180, .iload 4, 0, 0, 0), (182, .iastore, 0, 0, 0), (183, .aload_n 0, 0, 0, 0)]),
  (201, [(184, .getfield 21, 3, 7, 2144), (187, .aload_n 0, 0, 0, 0), (188, .getfield 77, 3, 11, 2148), (191, .iload 6, 0, 0, 0), (193, .bipush 8, 0, 0, 0), (195, .imul, 0, 0, 0), (196, .iload 5, 0, 0, 0), (198, .iadd, 0, 0, 0), (199, .iastore, 0, 0, 0), (200, .aload_n 0, 0, 0, 0), (201, .dup, 0, 0, 0)]),
  (216, [(202, .getfield 77, 3, 11, 2148), (205, .iconst 1, 0, 0, 0), (206, .iadd, 0, 0, 0), (207, .putfield 77, 3, 11, 2148), (210, .iinc 4 1, 0, 0, 0), (213, .goto (-177), 36, 0, 0), (216, .return_, 0, 0, 0)])]
def mO38 : List (Nat × List (Nat × mOp)) := [(12, [(0, .aload_n 0, 0, 0, 0), (1, .getfield 27, 3, 0, 2136), (4, .iload_n 1, 0, 0, 0), (5, .iload_n 2, 0, 0, 0), (6, .invokevirtual 121, 7, 3, 5020), (9, .ifCond .ne 5, 14, 0, 0), (12, .iconst 0, 0, 0, 0)]),
  (20, [(13, .ireturn, 1, 0, 0), (14, .iload_n 2, 0, 0, 0), (15, .bipush 8, 0, 0, 0), (17, .imul, 0, 0, 0), (18, .iload_n 1, 0, 0, 0), (19, .iadd, 0, 0, 0), (20, .istore 4, 0, 0, 0)]),
  (33, [(22, .aload_n 0, 0, 0, 0), (23, .getfield 15, 3, 5, 2142), (26, .iload 4, 0, 0, 0), (28, .iaload, 0, 0, 0), (29, .ifCond .eq 18, 47, 0, 0), (32, .aload_n 0, 0, 0, 0), (33, .getfield 18, 3, 6, 2143)]),
  (47, [(36, .iload 4, 0, 0, 0), (38, .iaload, 0, 0, 0), (39, .iload_n 3, 0, 0, 0), (40, .if_icmp .gt 7, 47, 0, 0), (43, .iconst 1, 0, 0, 0), (44, .goto 4, 48, 0, 0), (47, .iconst 0, 0, 0, 0)]),
  (58, [(48, .istore 5, 0, 0, 0), (50, .aload_n 0, 0, 0, 0), (51, .getfield 18, 3, 6, 2143), (54, .iload 4, 0, 0, 0), (56, .iload_n 3, 0, 0, 0), (57, .iconst 1, 0, 0, 0), (58, .iadd, 0, 0, 0)]),
  (62, [(59, .iastore, 0, 0, 0), (60, .iload 5, 0, 0, 0), (62, .ireturn, 1, 0, 0)])]
def mO39 : List (Nat × List (Nat × mOp)) := [(5, [(0, .aload_n 0, 0, 0, 0), (1, .invokespecial 1, 1004, 1, 1082), (4, .aload_n 0, 0, 0, 0), (5, .sipush 1000, 0, 0, 0)]),
  (14, [(8, .newarray .int, 0, 0, 0), (10, .putfield 9, 4, 0, 1083), (13, .aload_n 0, 0, 0, 0), (14, .bipush 32, 0, 0, 0)]),
  (21, [(16, .newarray .int, 0, 0, 0), (18, .putfield 15, 4, 1, 1084), (21, .return_, 0, 0, 0)])]
def mO40 : List (Nat × List (Nat × mOp)) := [(2, [(0, .aload_n 0, 0, 0, 0), (1, .iconst 0, 0, 0, 0), (2, .putfield 18, 4, 2, 1085)]),
  (7, [(5, .aload_n 0, 0, 0, 0), (6, .iload_n 1, 0, 0, 0), (7, .invokevirtual 22, 41, 2, 1106)]),
  (10, [(10, .return_, 0, 0, 0)])]
def mO41 : List (Nat × List (Nat × mOp)) := [(8, [(0, .aload_n 0, 0, 0, 0), (1, .getfield 18, 4, 2, 1085), (4, .aload_n 0, 0, 0, 0), (5, .getfield 9, 4, 0, 1083), (8, .arraylength, 0, 0, 0)]),
  (17, [(9, .if_icmp .ge 23, 32, 0, 0), (12, .aload_n 0, 0, 0, 0), (13, .getfield 9, 4, 0, 1083), (16, .aload_n 0, 0, 0, 0), (17, .getfield 18, 4, 2, 1085)]),
  (24, [(20, .iload_n 1, 0, 0, 0), (21, .iastore, 0, 0, 0), (22, .aload_n 0, 0, 0, 0), (23, .dup, 0, 0, 0), (24, .getfield 18, 4, 2, 1085)]),
  (32, [(27, .iconst 1, 0, 0, 0), (28, .iadd, 0, 0, 0), (29, .putfield 18, 4, 2, 1085), (32, .return_, 0, 0, 0)])]
def mO42 : List (Nat × List (Nat × mOp)) := [(5, [(0, .aload_n 0, 0, 0, 0), (1, .aload_n 1, 0, 0, 0), (2, .getfield 18, 4, 2, 1085), (5, .putfield 18, 4, 2, 1085)]),
  (13, [(8, .aload_n 1, 0, 0, 0), (9, .getfield 9, 4, 0, 1083), (12, .iconst 0, 0, 0, 0), (13, .aload_n 0, 0, 0, 0)]),
  (19, [(14, .getfield 9, 4, 0, 1083), (17, .iconst 0, 0, 0, 0), (18, .aload_n 1, 0, 0, 0), (19, .getfield 18, 4, 2, 1085)]),
  (25, [(22, .invokestatic 26, 1003, 5, 4054), (25, .return_, 0, 0, 0)])]
def mO43 : List (Nat × List (Nat × mOp)) := [(13, [(0, .iconst 0, 0, 0, 0), (1, .istore_n 2, 0, 0, 0), (2, .iconst 0, 0, 0, 0), (3, .istore_n 3, 0, 0, 0), (4, .iload_n 3, 0, 0, 0), (5, .aload_n 0, 0, 0, 0), (6, .getfield 18, 4, 2, 1085), (9, .if_icmp .ge 131, 140, 0, 0), (12, .aload_n 0, 0, 0, 0), (13, .getfield 9, 4, 0, 1083)]),
  (33, [(16, .iload_n 3, 0, 0, 0), (17, .iaload, 0, 0, 0), (18, .istore 4, 0, 0, 0), (20, .iload 4, 0, 0, 0), (22, .bipush (-7), 0, 0, 0), (24, .if_icmp .lt 37, 61, 0, 0), (27, .iload_n 2, 0, 0, 0), (28, .bipush 32, 0, 0, 0), (30, .if_icmp .ge 31, 61, 0, 0), (33, .aload_n 0, 0, 0, 0)]),
  (52, [(34, .getfield 15, 4, 1, 1084), (37, .iload_n 2, 0, 0, 0), (38, .iload 4, 0, 0, 0), (40, .ifCond .lt 8, 48, 0, 0), (43, .iload 4, 0, 0, 0), (45, .goto 9, 54, 0, 0), (48, .aload_n 1, 0, 0, 0), (49, .iconst (-1), 0, 0, 0), (50, .iload 4, 0, 0, 0), (52, .isub, 0, 0, 0)]),
  (72, [(53, .iaload, 0, 0, 0), (54, .iastore, 0, 0, 0), (55, .iinc 2 1, 0, 0, 0), (58, .goto 76, 134, 0, 0), (61, .iload 4, 0, 0, 0), (63, .bipush (-8), 0, 0, 0), (65, .if_icmp .ne 34, 99, 0, 0), (68, .iload_n 2, 0, 0, 0), (69, .ifCond .le 30, 99, 0, 0), (72, .aload_n 0, 0, 0, 0)]),
  (86, [(73, .getfield 15, 4, 1, 1084), (76, .iload_n 2, 0, 0, 0), (77, .iconst 1, 0, 0, 0), (78, .isub, 0, 0, 0), (79, .aload_n 0, 0, 0, 0), (80, .getfield 15, 4, 1, 1084), (83, .iload_n 2, 0, 0, 0), (84, .iconst 1, 0, 0, 0), (85, .isub, 0, 0, 0), (86, .iaload, 0, 0, 0)]),
  (104, [(87, .ifCond .ne 7, 94, 0, 0), (90, .iconst 1, 0, 0, 0), (91, .goto 4, 95, 0, 0), (94, .iconst 0, 0, 0, 0), (95, .iastore, 0, 0, 0), (96, .goto 38, 134, 0, 0), (99, .iload_n 2, 0, 0, 0), (100, .iconst 1, 0, 0, 0), (101, .if_icmp .le 33, 134, 0, 0), (104, .iinc 2 (-1), 0, 0, 0)]),
  (121, [(107, .aload_n 0, 0, 0, 0), (108, .getfield 15, 4, 1, 1084), (111, .iload_n 2, 0, 0, 0), (112, .iconst 1, 0, 0, 0), (113, .isub, 0, 0, 0), (114, .iload 4, 0, 0, 0), (116, .aload_n 0, 0, 0, 0), (117, .getfield 15, 4, 1, 1084), (120, .iload_n 2, 0, 0, 0), (121, .iconst 1, 0, 0, 0)]),
  (137, [(122, .isub, 0, 0, 0), (123, .iaload, 0, 0, 0), (124, .aload_n 0, 0, 0, 0), (125, .getfield 15, 4, 1, 1084), (128, .iload_n 2, 0, 0, 0), (129, .iaload, 0, 0, 0), (130, .invokestatic 32, 44, 3, 4093), (133, .iastore, 0, 0, 0), (134, .iinc 3 1, 0, 0, 0), (137, .goto (-133), 4, 0, 0)]),
  (146, [(140, .aload_n 0, 0, 0, 0), (141, .getfield 15, 4, 1, 1084), (144, .iconst 0, 0, 0, 0), (145, .iaload, 0, 0, 0), (146, .ireturn, 0, 0, 0)])]
def mO44 : List (Nat × List (Nat × mOp)) := [(44, [(0, .iload_n 0, 0, 0, 0), (1, .tableswitch 87 (-14) (-9) #[73, 62, 51, 47, 43, 39], 0, 0, 0), (40, .iload_n 1, 0, 0, 0), (41, .iload_n 2, 0, 0, 0), (42, .imul, 0, 0, 0), (43, .ireturn, 0, 0, 0), (44, .iload_n 1, 0, 0, 0)]),
  (51, [(45, .iload_n 2, 0, 0, 0), (46, .iadd, 0, 0, 0), (47, .ireturn, 0, 0, 0), (48, .iload_n 1, 0, 0, 0), (49, .iload_n 2, 0, 0, 0), (50, .isub, 0, 0, 0), (51, .ireturn, 0, 0, 0)]),
  (62, [(52, .iload_n 1, 0, 0, 0), (53, .iload_n 2, 0, 0, 0), (54, .if_icmp .ge 7, 61, 0, 0), (57, .iconst 1, 0, 0, 0), (58, .goto 4, 62, 0, 0), (61, .iconst 0, 0, 0, 0), (62, .ireturn, 0, 0, 0)]),
  (73, [(63, .iload_n 1, 0, 0, 0), (64, .iload_n 2, 0, 0, 0), (65, .if_icmp .ne 7, 72, 0, 0), (68, .iconst 1, 0, 0, 0), (69, .goto 4, 73, 0, 0), (72, .iconst 0, 0, 0, 0), (73, .ireturn, 0, 0, 0)]),
  (86, [(74, .iload_n 1, 0, 0, 0), (75, .ifCond .eq 11, 86, 0, 0), (78, .iload_n 2, 0, 0, 0), (79, .ifCond .eq 7, 86, 0, 0), (82, .iconst 1, 0, 0, 0), (83, .goto 4, 87, 0, 0), (86, .iconst 0, 0, 0, 0)]),
  (97, [(87, .ireturn, 0, 0, 0), (88, .iload_n 1, 0, 0, 0), (89, .ifCond .ne 7, 96, 0, 0), (92, .iload_n 2, 0, 0, 0), (93, .ifCond .eq 7, 100, 0, 0), (96, .iconst 1, 0, 0, 0), (97, .goto 4, 101, 0, 0)]),
  (101, [(100, .iconst 0, 0, 0, 0), (101, .ireturn, 0, 0, 0)])]
def mO45 : List (Nat × List (Nat × mOp)) := [(7, [(0, .aload_n 0, 0, 0, 0), (1, .invokespecial 3, 1004, 1, 2113), (4, .aload_n 0, 0, 0, 0), (5, .bipush 64, 0, 0, 0), (7, .newarray .int, 0, 0, 0)]),
  (17, [(9, .putfield 9, 5, 2, 2116), (12, .aload_n 0, 0, 0, 0), (13, .bipush 7, 0, 0, 0), (15, .newarray .int, 0, 0, 0), (17, .putfield 15, 5, 3, 2117)]),
  (28, [(20, .aload_n 0, 0, 0, 0), (21, .bipush 8, 0, 0, 0), (23, .newarray .int, 0, 0, 0), (25, .putfield 18, 5, 4, 2118), (28, .aload_n 0, 0, 0, 0)]),
  (35, [(29, .aload_n 1, 0, 0, 0), (30, .putfield 21, 5, 0, 2114), (33, .aload_n 0, 0, 0, 0), (34, .aload_n 2, 0, 0, 0), (35, .putfield 25, 5, 1, 2115)]),
  (38, [(38, .return_, 0, 0, 0)])]
def mO46 : List (Nat × List (Nat × mOp)) := [(18, [(0, .aload_n 0, 0, 0, 0), (1, .getfield 25, 5, 1, 2115), (4, .getfield 29, 7, 2, 2017), (7, .iconst 0, 0, 0, 0), (8, .aload_n 0, 0, 0, 0), (9, .getfield 9, 5, 2, 2116), (12, .iconst 0, 0, 0, 0), (13, .bipush 64, 0, 0, 0), (15, .invokestatic 32, 1003, 5, 4193), (18, .iconst 0, 0, 0, 0)]),
  (36, [(19, .istore 5, 0, 0, 0), (21, .iload_n 1, 0, 0, 0), (22, .istore 6, 0, 0, 0), (24, .iload 6, 0, 0, 0), (26, .iload_n 2, 0, 0, 0), (27, .if_icmp .gt 95, 122, 0, 0), (30, .aload_n 0, 0, 0, 0), (31, .getfield 15, 5, 3, 2117), (34, .iload 6, 0, 0, 0), (36, .aload_n 0, 0, 0, 0)]),
  (56, [(37, .getfield 21, 5, 0, 2114), (40, .iload 6, 0, 0, 0), (42, .invokevirtual 38, 6, 2, 4194), (45, .aload_n 0, 0, 0, 0), (46, .getfield 25, 5, 1, 2115), (49, .getfield 44, 7, 5, 2035), (52, .iload 6, 0, 0, 0), (54, .iaload, 0, 0, 0), (55, .isub, 0, 0, 0), (56, .iastore, 0, 0, 0)]),
  (75, [(57, .aload_n 0, 0, 0, 0), (58, .getfield 21, 5, 0, 2114), (61, .getfield 47, 0, 7, 1138), (64, .iload 6, 0, 0, 0), (66, .iaload, 0, 0, 0), (67, .iconst 4, 0, 0, 0), (68, .if_icmp .ne 7, 75, 0, 0), (71, .iconst 5, 0, 0, 0), (72, .goto 4, 76, 0, 0), (75, .iconst 3, 0, 0, 0)]),
  (93, [(76, .istore 7, 0, 0, 0), (78, .iload 5, 0, 0, 0), (80, .aload_n 0, 0, 0, 0), (81, .iload 6, 0, 0, 0), (83, .aload_n 0, 0, 0, 0), (84, .getfield 25, 5, 1, 2115), (87, .getfield 50, 7, 3, 2024), (90, .iload 6, 0, 0, 0), (92, .iaload, 0, 0, 0), (93, .iload_n 3, 0, 0, 0)]),
  (110, [(94, .iadd, 0, 0, 0), (95, .aload_n 0, 0, 0, 0), (96, .getfield 25, 5, 1, 2115), (99, .getfield 53, 7, 4, 2031), (102, .iload 6, 0, 0, 0), (104, .iaload, 0, 0, 0), (105, .iload 4, 0, 0, 0), (107, .iadd, 0, 0, 0), (108, .iload 7, 0, 0, 0), (110, .invokevirtual 56, 47, 5, 4195)]),
  (131, [(113, .iadd, 0, 0, 0), (114, .istore 5, 0, 0, 0), (116, .iinc 6 1, 0, 0, 0), (119, .goto (-95), 24, 0, 0), (122, .iload_n 1, 0, 0, 0), (123, .istore 6, 0, 0, 0), (125, .iload 6, 0, 0, 0), (127, .iload_n 2, 0, 0, 0), (128, .if_icmp .ge 36, 164, 0, 0), (131, .aload_n 0, 0, 0, 0)]),
  (150, [(132, .getfield 25, 5, 1, 2115), (135, .getfield 60, 7, 8, 2045), (138, .iload 6, 0, 0, 0), (140, .iaload, 0, 0, 0), (141, .ifCond .ne 17, 158, 0, 0), (144, .iload 5, 0, 0, 0), (146, .aload_n 0, 0, 0, 0), (147, .iload 6, 0, 0, 0), (149, .iload_n 3, 0, 0, 0), (150, .iload 4, 0, 0, 0)]),
  (166, [(152, .invokevirtual 63, 48, 4, 4200), (155, .iadd, 0, 0, 0), (156, .istore 5, 0, 0, 0), (158, .iinc 6 1, 0, 0, 0), (161, .goto (-36), 125, 0, 0), (164, .iload 5, 0, 0, 0), (166, .ireturn, 0, 0, 0)])]
def mO47 : List (Nat × List (Nat × mOp)) := [(6, [(0, .iload_n 3, 0, 0, 0), (1, .bipush 8, 0, 0, 0), (3, .imul, 0, 0, 0), (4, .iload_n 2, 0, 0, 0), (5, .iadd, 0, 0, 0), (6, .istore 5, 0, 0, 0)]),
  (17, [(8, .iload 4, 0, 0, 0), (10, .aload_n 0, 0, 0, 0), (11, .getfield 9, 5, 2, 2116), (14, .iload 5, 0, 0, 0), (16, .iaload, 0, 0, 0), (17, .aload_n 0, 0, 0, 0)]),
  (29, [(18, .getfield 15, 5, 3, 2117), (21, .iload_n 1, 0, 0, 0), (22, .iaload, 0, 0, 0), (23, .invokestatic 67, 1001, 2, 4199), (26, .invokestatic 67, 1001, 2, 4199), (29, .istore 6, 0, 0, 0)]),
  (39, [(31, .aload_n 0, 0, 0, 0), (32, .getfield 9, 5, 2, 2116), (35, .iload 5, 0, 0, 0), (37, .dup2, 0, 0, 0), (38, .iaload, 0, 0, 0), (39, .iload 6, 0, 0, 0)]),
  (48, [(41, .isub, 0, 0, 0), (42, .iastore, 0, 0, 0), (43, .aload_n 0, 0, 0, 0), (44, .getfield 15, 5, 3, 2117), (47, .iload_n 1, 0, 0, 0), (48, .dup2, 0, 0, 0)]),
  (56, [(49, .iaload, 0, 0, 0), (50, .iload 6, 0, 0, 0), (52, .isub, 0, 0, 0), (53, .iastore, 0, 0, 0), (54, .iload 6, 0, 0, 0), (56, .ireturn, 0, 0, 0)])]
def mO48 : List (Nat × List (Nat × mOp)) := [(15, [(0, .aload_n 0, 0, 0, 0), (1, .getfield 25, 5, 1, 2115), (4, .getfield 50, 7, 3, 2024), (7, .iload_n 1, 0, 0, 0), (8, .iconst 1, 0, 0, 0), (9, .iadd, 0, 0, 0), (10, .iaload, 0, 0, 0), (11, .aload_n 0, 0, 0, 0), (12, .getfield 25, 5, 1, 2115), (15, .getfield 50, 7, 3, 2024)]),
  (34, [(18, .iload_n 1, 0, 0, 0), (19, .iaload, 0, 0, 0), (20, .isub, 0, 0, 0), (21, .invokestatic 73, 49, 1, 4204), (24, .istore 4, 0, 0, 0), (26, .aload_n 0, 0, 0, 0), (27, .getfield 25, 5, 1, 2115), (30, .getfield 53, 7, 4, 2031), (33, .iload_n 1, 0, 0, 0), (34, .iconst 1, 0, 0, 0)]),
  (50, [(35, .iadd, 0, 0, 0), (36, .iaload, 0, 0, 0), (37, .aload_n 0, 0, 0, 0), (38, .getfield 25, 5, 1, 2115), (41, .getfield 53, 7, 4, 2031), (44, .iload_n 1, 0, 0, 0), (45, .iaload, 0, 0, 0), (46, .isub, 0, 0, 0), (47, .invokestatic 73, 49, 1, 4204), (50, .istore 5, 0, 0, 0)]),
  (68, [(52, .iload 4, 0, 0, 0), (54, .ifCond .eq 10, 64, 0, 0), (57, .iload 5, 0, 0, 0), (59, .ifCond .eq 5, 64, 0, 0), (62, .iconst 0, 0, 0, 0), (63, .ireturn, 0, 0, 0), (64, .iconst 0, 0, 0, 0), (65, .istore 6, 0, 0, 0), (67, .aload_n 0, 0, 0, 0), (68, .getfield 25, 5, 1, 2115)]),
  (88, [(71, .iload_n 1, 0, 0, 0), (72, .invokevirtual 76, 58, 2, 4207), (75, .istore 7, 0, 0, 0), (77, .iconst 1, 0, 0, 0), (78, .istore 8, 0, 0, 0), (80, .iload 8, 0, 0, 0), (82, .iload 7, 0, 0, 0), (84, .if_icmp .ge 79, 163, 0, 0), (87, .aload_n 0, 0, 0, 0), (88, .getfield 25, 5, 1, 2115)]),
  (104, [(91, .getfield 50, 7, 3, 2024), (94, .iload_n 1, 0, 0, 0), (95, .iaload, 0, 0, 0), (96, .iload_n 2, 0, 0, 0), (97, .iadd, 0, 0, 0), (98, .iload 4, 0, 0, 0), (100, .iload 8, 0, 0, 0), (102, .imul, 0, 0, 0), (103, .iadd, 0, 0, 0), (104, .istore 9, 0, 0, 0)]),
  (121, [(106, .aload_n 0, 0, 0, 0), (107, .getfield 25, 5, 1, 2115), (110, .getfield 53, 7, 4, 2031), (113, .iload_n 1, 0, 0, 0), (114, .iaload, 0, 0, 0), (115, .iload_n 3, 0, 0, 0), (116, .iadd, 0, 0, 0), (117, .iload 5, 0, 0, 0), (119, .iload 8, 0, 0, 0), (121, .imul, 0, 0, 0)]),
  (137, [(122, .iadd, 0, 0, 0), (123, .istore 10, 0, 0, 0), (125, .iload 6, 0, 0, 0), (127, .aload_n 0, 0, 0, 0), (128, .iload_n 1, 0, 0, 0), (129, .iload 9, 0, 0, 0), (131, .iload 10, 0, 0, 0), (133, .iconst 2, 0, 0, 0), (134, .invokevirtual 56, 47, 5, 4195), (137, .iadd, 0, 0, 0)]),
  (151, [(138, .istore 6, 0, 0, 0), (140, .iload 6, 0, 0, 0), (142, .aload_n 0, 0, 0, 0), (143, .iload_n 1, 0, 0, 0), (144, .iconst 1, 0, 0, 0), (145, .iadd, 0, 0, 0), (146, .iload 9, 0, 0, 0), (148, .iload 10, 0, 0, 0), (150, .iconst 2, 0, 0, 0), (151, .invokevirtual 56, 47, 5, 4195)]),
  (165, [(154, .iadd, 0, 0, 0), (155, .istore 6, 0, 0, 0), (157, .iinc 8 1, 0, 0, 0), (160, .goto (-80), 80, 0, 0), (163, .iload 6, 0, 0, 0), (165, .ireturn, 0, 0, 0)])]
def mO49 : List (Nat × List (Nat × mOp)) := [(5, [(0, .iload_n 0, 0, 0, 0), (1, .ifCond .le 7, 8, 0, 0), (4, .iconst 1, 0, 0, 0), (5, .goto 12, 17, 0, 0)]),
  (13, [(8, .iload_n 0, 0, 0, 0), (9, .ifCond .ge 7, 16, 0, 0), (12, .iconst (-1), 0, 0, 0), (13, .goto 4, 17, 0, 0)]),
  (17, [(16, .iconst 0, 0, 0, 0), (17, .ireturn, 0, 0, 0)])]
def mO50 : List (Nat × List (Nat × mOp)) := [(9, [(0, .aload_n 0, 0, 0, 0), (1, .getfield 9, 5, 2, 2116), (4, .iconst 0, 0, 0, 0), (5, .aload_n 0, 0, 0, 0), (6, .getfield 25, 5, 1, 2115), (9, .getfield 29, 7, 2, 2017)]),
  (20, [(12, .iconst 0, 0, 0, 0), (13, .bipush 64, 0, 0, 0), (15, .invokestatic 32, 1003, 5, 4193), (18, .iconst 0, 0, 0, 0), (19, .istore_n 1, 0, 0, 0), (20, .iload_n 1, 0, 0, 0)]),
  (32, [(21, .aload_n 0, 0, 0, 0), (22, .getfield 21, 5, 0, 2114), (25, .getfield 79, 0, 2, 1121), (28, .if_icmp .ge 33, 61, 0, 0), (31, .aload_n 0, 0, 0, 0), (32, .getfield 25, 5, 1, 2115)]),
  (44, [(35, .getfield 44, 7, 5, 2035), (38, .iload_n 1, 0, 0, 0), (39, .aload_n 0, 0, 0, 0), (40, .getfield 21, 5, 0, 2114), (43, .iload_n 1, 0, 0, 0), (44, .invokevirtual 38, 6, 2, 4194)]),
  (54, [(47, .aload_n 0, 0, 0, 0), (48, .getfield 15, 5, 3, 2117), (51, .iload_n 1, 0, 0, 0), (52, .iaload, 0, 0, 0), (53, .isub, 0, 0, 0), (54, .iastore, 0, 0, 0)]),
  (61, [(55, .iinc 1 1, 0, 0, 0), (58, .goto (-38), 20, 0, 0), (61, .return_, 0, 0, 0)])]
def mO51 : List (Nat × List (Nat × mOp)) := [(11, [(0, .aload_n 0, 0, 0, 0), (1, .getfield 18, 5, 4, 2118), (4, .iconst 0, 0, 0, 0), (5, .iconst 0, 0, 0, 0), (6, .iastore, 0, 0, 0), (7, .iconst 1, 0, 0, 0), (8, .istore_n 2, 0, 0, 0), (9, .iload_n 2, 0, 0, 0), (10, .aload_n 0, 0, 0, 0), (11, .getfield 21, 5, 0, 2114)]),
  (29, [(14, .getfield 79, 0, 2, 1121), (17, .if_icmp .gt 61, 78, 0, 0), (20, .aload_n 0, 0, 0, 0), (21, .getfield 18, 5, 4, 2118), (24, .iload_n 2, 0, 0, 0), (25, .iconst 0, 0, 0, 0), (26, .iastore, 0, 0, 0), (27, .iconst 0, 0, 0, 0), (28, .istore_n 3, 0, 0, 0), (29, .iload_n 3, 0, 0, 0)]),
  (45, [(30, .iload_n 2, 0, 0, 0), (31, .if_icmp .ge 41, 72, 0, 0), (34, .aload_n 0, 0, 0, 0), (35, .getfield 18, 5, 4, 2118), (38, .iload_n 2, 0, 0, 0), (39, .aload_n 0, 0, 0, 0), (40, .getfield 18, 5, 4, 2118), (43, .iload_n 2, 0, 0, 0), (44, .iaload, 0, 0, 0), (45, .aload_n 0, 0, 0, 0)]),
  (57, [(46, .getfield 18, 5, 4, 2118), (49, .iload_n 3, 0, 0, 0), (50, .iaload, 0, 0, 0), (51, .aload_n 0, 0, 0, 0), (52, .iload_n 3, 0, 0, 0), (53, .iload_n 2, 0, 0, 0), (54, .iconst 1, 0, 0, 0), (55, .isub, 0, 0, 0), (56, .iconst 0, 0, 0, 0), (57, .iconst 0, 0, 0, 0)]),
  (79, [(58, .invokevirtual 83, 46, 5, 5087), (61, .iadd, 0, 0, 0), (62, .invokestatic 86, 1000, 2, 5088), (65, .iastore, 0, 0, 0), (66, .iinc 3 1, 0, 0, 0), (69, .goto (-40), 29, 0, 0), (72, .iinc 2 1, 0, 0, 0), (75, .goto (-66), 9, 0, 0), (78, .aload_n 0, 0, 0, 0), (79, .getfield 18, 5, 4, 2118)]),
  (99, [(82, .aload_n 0, 0, 0, 0), (83, .getfield 21, 5, 0, 2114), (86, .getfield 79, 0, 2, 1121), (89, .iaload, 0, 0, 0), (90, .aload_n 0, 0, 0, 0), (91, .iconst 0, 0, 0, 0), (92, .aload_n 0, 0, 0, 0), (93, .getfield 21, 5, 0, 2114), (96, .getfield 79, 0, 2, 1121), (99, .iconst 1, 0, 0, 0)]),
  (115, [(100, .isub, 0, 0, 0), (101, .iconst 0, 0, 0, 0), (102, .iconst 0, 0, 0, 0), (103, .invokevirtual 83, 46, 5, 5087), (106, .if_icmp .ne 7, 113, 0, 0), (109, .iconst 1, 0, 0, 0), (110, .goto 4, 114, 0, 0), (113, .iconst 0, 0, 0, 0), (114, .istore_n 2, 0, 0, 0), (115, .iload_n 2, 0, 0, 0)]),
  (131, [(116, .ifCond .eq 21, 137, 0, 0), (119, .aload_n 0, 0, 0, 0), (120, .getfield 18, 5, 4, 2118), (123, .iload_n 1, 0, 0, 0), (124, .iconst 1, 0, 0, 0), (125, .iadd, 0, 0, 0), (126, .iaload, 0, 0, 0), (127, .aload_n 0, 0, 0, 0), (128, .getfield 18, 5, 4, 2118), (131, .iload_n 1, 0, 0, 0)]),
  (138, [(132, .iaload, 0, 0, 0), (133, .isub, 0, 0, 0), (134, .goto 4, 138, 0, 0), (137, .iconst (-1), 0, 0, 0), (138, .ireturn, 0, 0, 0)])]
def mO52 : List (Nat × List (Nat × mOp)) := [(5, [(0, .aload_n 0, 0, 0, 0), (1, .invokespecial 3, 1004, 1, 2072), (4, .aload_n 0, 0, 0, 0), (5, .sipush 1536, 0, 0, 0)]),
  (14, [(8, .newarray .int, 0, 0, 0), (10, .putfield 9, 6, 1, 2079), (13, .aload_n 0, 0, 0, 0), (14, .bipush 7, 0, 0, 0)]),
  (22, [(16, .newarray .int, 0, 0, 0), (18, .putfield 17, 6, 2, 2080), (21, .aload_n 0, 0, 0, 0), (22, .aload_n 1, 0, 0, 0)]),
  (30, [(23, .putfield 20, 6, 0, 2078), (26, .aload_n 0, 0, 0, 0), (27, .invokevirtual 24, 53, 1, 2073), (30, .return_, 0, 0, 0)])]
def mO53 : List (Nat × List (Nat × mOp)) := [(4, [(0, .aload_n 0, 0, 0, 0), (1, .getfield 9, 6, 1, 2079), (4, .iconst (-1), 0, 0, 0)]),
  (8, [(5, .invokestatic 27, 224, 2, 2077), (8, .return_, 0, 0, 0)])]
def mO54 : List (Nat × List (Nat × mOp)) := [(7, [(0, .bipush 99, 0, 0, 0), (2, .aload_n 0, 0, 0, 0), (3, .iload_n 2, 0, 0, 0), (4, .iload_n 3, 0, 0, 0), (5, .iload 4, 0, 0, 0), (7, .invokevirtual 47, 55, 4, 4085)]),
  (19, [(10, .iload 5, 0, 0, 0), (12, .iadd, 0, 0, 0), (13, .invokestatic 51, 1001, 2, 4101), (16, .istore 6, 0, 0, 0), (18, .aload_n 0, 0, 0, 0), (19, .getfield 20, 6, 0, 2078)]),
  (31, [(22, .getfield 57, 0, 11, 1154), (25, .iload_n 1, 0, 0, 0), (26, .iaload, 0, 0, 0), (27, .aload_n 0, 0, 0, 0), (28, .getfield 20, 6, 0, 2078), (31, .getfield 60, 0, 7, 1139)]),
  (41, [(34, .iload_n 1, 0, 0, 0), (35, .iaload, 0, 0, 0), (36, .iconst 2, 0, 0, 0), (37, .if_icmp .ne 7, 44, 0, 0), (40, .iconst 5, 0, 0, 0), (41, .goto 4, 45, 0, 0)]),
  (51, [(44, .iconst 0, 0, 0, 0), (45, .iadd, 0, 0, 0), (46, .istore 7, 0, 0, 0), (48, .iconst 0, 0, 0, 0), (49, .iload 6, 0, 0, 0), (51, .iload 7, 0, 0, 0)]),
  (57, [(53, .isub, 0, 0, 0), (54, .invokestatic 63, 1000, 2, 4102), (57, .ireturn, 0, 0, 0)])]
def mO55 : List (Nat × List (Nat × mOp)) := [(10, [(0, .iload_n 3, 0, 0, 0), (1, .bipush 24, 0, 0, 0), (3, .irem, 0, 0, 0), (4, .bipush 64, 0, 0, 0), (6, .imul, 0, 0, 0), (7, .iload_n 2, 0, 0, 0), (8, .bipush 8, 0, 0, 0), (10, .imul, 0, 0, 0)]),
  (22, [(11, .iadd, 0, 0, 0), (12, .iload_n 1, 0, 0, 0), (13, .iadd, 0, 0, 0), (14, .istore 4, 0, 0, 0), (16, .aload_n 0, 0, 0, 0), (17, .getfield 9, 6, 1, 2079), (20, .iload 4, 0, 0, 0), (22, .iaload, 0, 0, 0)]),
  (34, [(23, .iconst (-1), 0, 0, 0), (24, .if_icmp .ne 52, 76, 0, 0), (27, .aload_n 0, 0, 0, 0), (28, .getfield 17, 6, 2, 2080), (31, .iconst 4, 0, 0, 0), (32, .iload_n 1, 0, 0, 0), (33, .iastore, 0, 0, 0), (34, .aload_n 0, 0, 0, 0)]),
  (47, [(35, .getfield 17, 6, 2, 2080), (38, .iconst 5, 0, 0, 0), (39, .iload_n 2, 0, 0, 0), (40, .iastore, 0, 0, 0), (41, .aload_n 0, 0, 0, 0), (42, .getfield 17, 6, 2, 2080), (45, .bipush 6, 0, 0, 0), (47, .iload_n 3, 0, 0, 0)]),
  (59, [(48, .bipush 24, 0, 0, 0), (50, .irem, 0, 0, 0), (51, .iastore, 0, 0, 0), (52, .aload_n 0, 0, 0, 0), (53, .getfield 9, 6, 1, 2079), (56, .iload 4, 0, 0, 0), (58, .aload_n 0, 0, 0, 0), (59, .getfield 20, 6, 0, 2078)]),
  (77, [(62, .getfield 33, 0, 15, 1169), (65, .aload_n 0, 0, 0, 0), (66, .getfield 17, 6, 2, 2080), (69, .invokevirtual 39, 43, 2, 4089), (72, .invokestatic 43, 102, 101, 4096), (75, .iastore, 0, 0, 0), (76, .aload_n 0, 0, 0, 0), (77, .getfield 9, 6, 1, 2079)]),
  (83, [(80, .iload 4, 0, 0, 0), (82, .iaload, 0, 0, 0), (83, .ireturn, 0, 0, 0)])]
def mO56 : List (Nat × List (Nat × mOp)) := [(9, [(0, .aload_n 0, 0, 0, 0), (1, .invokespecial 3, 1004, 1, 2008), (4, .aload_n 0, 0, 0, 0), (5, .bipush 64, 0, 0, 0), (7, .newarray .int, 0, 0, 0), (9, .putfield 9, 7, 2, 2016)]),
  (21, [(12, .aload_n 0, 0, 0, 0), (13, .bipush 7, 0, 0, 0), (15, .newarray .int, 0, 0, 0), (17, .putfield 15, 7, 3, 2020), (20, .aload_n 0, 0, 0, 0), (21, .bipush 7, 0, 0, 0)]),
  (33, [(23, .newarray .int, 0, 0, 0), (25, .putfield 18, 7, 4, 2027), (28, .aload_n 0, 0, 0, 0), (29, .bipush 7, 0, 0, 0), (31, .newarray .int, 0, 0, 0), (33, .putfield 21, 7, 5, 2034)]),
  (45, [(36, .aload_n 0, 0, 0, 0), (37, .bipush 7, 0, 0, 0), (39, .newarray .int, 0, 0, 0), (41, .putfield 24, 7, 6, 2038), (44, .aload_n 0, 0, 0, 0), (45, .bipush 7, 0, 0, 0)]),
  (57, [(47, .newarray .int, 0, 0, 0), (49, .putfield 27, 7, 7, 2041), (52, .aload_n 0, 0, 0, 0), (53, .bipush 6, 0, 0, 0), (55, .newarray .int, 0, 0, 0), (57, .putfield 30, 7, 8, 2043)]),
  (60, [(60, .return_, 0, 0, 0)])]
def mO57 : List (Nat × List (Nat × mOp)) := [(14, [(0, .aload_n 0, 0, 0, 0), (1, .iconst 0, 0, 0, 0), (2, .putfield 33, 7, 1, 2010), (5, .aload_n 1, 0, 0, 0), (6, .getfield 37, 0, 6, 1135), (9, .iconst 0, 0, 0, 0), (10, .aload_n 0, 0, 0, 0), (11, .getfield 9, 7, 2, 2016), (14, .iconst 0, 0, 0, 0)]),
  (30, [(15, .bipush 64, 0, 0, 0), (17, .invokestatic 42, 1003, 5, 4060), (20, .aload_n 1, 0, 0, 0), (21, .getfield 48, 0, 8, 1144), (24, .iconst 0, 0, 0, 0), (25, .aload_n 0, 0, 0, 0), (26, .getfield 15, 7, 3, 2020), (29, .iconst 0, 0, 0, 0), (30, .bipush 7, 0, 0, 0)]),
  (47, [(32, .invokestatic 42, 1003, 5, 4060), (35, .aload_n 1, 0, 0, 0), (36, .getfield 51, 0, 9, 1148), (39, .iconst 0, 0, 0, 0), (40, .aload_n 0, 0, 0, 0), (41, .getfield 18, 7, 4, 2027), (44, .iconst 0, 0, 0, 0), (45, .bipush 7, 0, 0, 0), (47, .invokestatic 42, 1003, 5, 4060)]),
  (66, [(50, .aload_n 0, 0, 0, 0), (51, .getfield 21, 7, 5, 2034), (54, .iconst 0, 0, 0, 0), (55, .invokestatic 54, 224, 2, 4061), (58, .aload_n 0, 0, 0, 0), (59, .getfield 24, 7, 6, 2038), (62, .iconst 0, 0, 0, 0), (63, .invokestatic 54, 224, 2, 4061), (66, .aload_n 0, 0, 0, 0)]),
  (83, [(67, .getfield 27, 7, 7, 2041), (70, .iconst 0, 0, 0, 0), (71, .invokestatic 54, 224, 2, 4061), (74, .aload_n 0, 0, 0, 0), (75, .getfield 30, 7, 8, 2043), (78, .iconst 0, 0, 0, 0), (79, .invokestatic 54, 224, 2, 4061), (82, .iconst 0, 0, 0, 0), (83, .istore_n 2, 0, 0, 0)]),
  (98, [(84, .iload_n 2, 0, 0, 0), (85, .aload_n 1, 0, 0, 0), (86, .getfield 60, 0, 2, 1119), (89, .iconst 1, 0, 0, 0), (90, .isub, 0, 0, 0), (91, .if_icmp .ge 34, 125, 0, 0), (94, .aload_n 0, 0, 0, 0), (95, .getfield 30, 7, 8, 2043), (98, .iload_n 2, 0, 0, 0)]),
  (113, [(99, .aload_n 0, 0, 0, 0), (100, .iload_n 2, 0, 0, 0), (101, .invokevirtual 63, 58, 2, 4062), (104, .aload_n 1, 0, 0, 0), (105, .getfield 67, 0, 13, 1161), (108, .iload_n 2, 0, 0, 0), (109, .iaload, 0, 0, 0), (110, .if_icmp .le 7, 117, 0, 0), (113, .iconst 1, 0, 0, 0)]),
  (125, [(114, .goto 4, 118, 0, 0), (117, .iconst 0, 0, 0, 0), (118, .iastore, 0, 0, 0), (119, .iinc 2 1, 0, 0, 0), (122, .goto (-38), 84, 0, 0), (125, .return_, 0, 0, 0)])]
def mO58 : List (Nat × List (Nat × mOp)) := [(7, [(0, .aload_n 0, 0, 0, 0), (1, .getfield 15, 7, 3, 2020), (4, .iload_n 1, 0, 0, 0), (5, .iaload, 0, 0, 0), (6, .aload_n 0, 0, 0, 0), (7, .getfield 15, 7, 3, 2020)]),
  (15, [(10, .iload_n 1, 0, 0, 0), (11, .iconst 1, 0, 0, 0), (12, .iadd, 0, 0, 0), (13, .iaload, 0, 0, 0), (14, .isub, 0, 0, 0), (15, .invokestatic 70, 1002, 1, 4066)]),
  (25, [(18, .aload_n 0, 0, 0, 0), (19, .getfield 18, 7, 4, 2027), (22, .iload_n 1, 0, 0, 0), (23, .iaload, 0, 0, 0), (24, .aload_n 0, 0, 0, 0), (25, .getfield 18, 7, 4, 2027)]),
  (33, [(28, .iload_n 1, 0, 0, 0), (29, .iconst 1, 0, 0, 0), (30, .iadd, 0, 0, 0), (31, .iaload, 0, 0, 0), (32, .isub, 0, 0, 0), (33, .invokestatic 70, 1002, 1, 4066)]),
  (37, [(36, .iadd, 0, 0, 0), (37, .ireturn, 0, 0, 0)])]
def mO59 : List (Nat × List (Nat × mOp)) := [(8, [(0, .iconst 0, 0, 0, 0), (1, .istore_n 2, 0, 0, 0), (2, .iload_n 2, 0, 0, 0), (3, .bipush 64, 0, 0, 0), (5, .if_icmp .ge 32, 37, 0, 0), (8, .aload_n 0, 0, 0, 0)]),
  (18, [(9, .getfield 9, 7, 2, 2016), (12, .iload_n 2, 0, 0, 0), (13, .aload_n 0, 0, 0, 0), (14, .getfield 9, 7, 2, 2016), (17, .iload_n 2, 0, 0, 0), (18, .iaload, 0, 0, 0)]),
  (26, [(19, .iconst 1, 0, 0, 0), (20, .iadd, 0, 0, 0), (21, .aload_n 1, 0, 0, 0), (22, .getfield 37, 0, 6, 1135), (25, .iload_n 2, 0, 0, 0), (26, .iaload, 0, 0, 0)]),
  (38, [(27, .invokestatic 75, 1001, 2, 4216), (30, .iastore, 0, 0, 0), (31, .iinc 2 1, 0, 0, 0), (34, .goto (-32), 2, 0, 0), (37, .aload_n 0, 0, 0, 0), (38, .dup, 0, 0, 0)]),
  (48, [(39, .getfield 33, 7, 1, 2010), (42, .iconst 1, 0, 0, 0), (43, .iadd, 0, 0, 0), (44, .putfield 33, 7, 1, 2010), (47, .aload_n 0, 0, 0, 0), (48, .getfield 24, 7, 6, 2038)]),
  (55, [(51, .iconst 0, 0, 0, 0), (52, .invokestatic 54, 224, 2, 4061), (55, .return_, 0, 0, 0)])]
def mO60 : List (Nat × List (Nat × mOp)) := [(13, [(0, .aload_n 0, 0, 0, 0), (1, .aload_n 1, 0, 0, 0), (2, .getfield 33, 7, 1, 2010), (5, .putfield 33, 7, 1, 2010), (8, .aload_n 1, 0, 0, 0), (9, .getfield 9, 7, 2, 2016), (12, .iconst 0, 0, 0, 0), (13, .aload_n 0, 0, 0, 0)]),
  (28, [(14, .getfield 9, 7, 2, 2016), (17, .iconst 0, 0, 0, 0), (18, .bipush 64, 0, 0, 0), (20, .invokestatic 42, 1003, 5, 4060), (23, .aload_n 1, 0, 0, 0), (24, .getfield 15, 7, 3, 2020), (27, .iconst 0, 0, 0, 0), (28, .aload_n 0, 0, 0, 0)]),
  (43, [(29, .getfield 15, 7, 3, 2020), (32, .iconst 0, 0, 0, 0), (33, .bipush 7, 0, 0, 0), (35, .invokestatic 42, 1003, 5, 4060), (38, .aload_n 1, 0, 0, 0), (39, .getfield 18, 7, 4, 2027), (42, .iconst 0, 0, 0, 0), (43, .aload_n 0, 0, 0, 0)]),
  (58, [(44, .getfield 18, 7, 4, 2027), (47, .iconst 0, 0, 0, 0), (48, .bipush 7, 0, 0, 0), (50, .invokestatic 42, 1003, 5, 4060), (53, .aload_n 1, 0, 0, 0), (54, .getfield 21, 7, 5, 2034), (57, .iconst 0, 0, 0, 0), (58, .aload_n 0, 0, 0, 0)]),
  (73, [(59, .getfield 21, 7, 5, 2034), (62, .iconst 0, 0, 0, 0), (63, .bipush 7, 0, 0, 0), (65, .invokestatic 42, 1003, 5, 4060), (68, .aload_n 1, 0, 0, 0), (69, .getfield 24, 7, 6, 2038), (72, .iconst 0, 0, 0, 0), (73, .aload_n 0, 0, 0, 0)]),
  (88, [(74, .getfield 24, 7, 6, 2038), (77, .iconst 0, 0, 0, 0), (78, .bipush 7, 0, 0, 0), (80, .invokestatic 42, 1003, 5, 4060), (83, .aload_n 1, 0, 0, 0), (84, .getfield 27, 7, 7, 2041), (87, .iconst 0, 0, 0, 0), (88, .aload_n 0, 0, 0, 0)]),
  (103, [(89, .getfield 27, 7, 7, 2041), (92, .iconst 0, 0, 0, 0), (93, .bipush 7, 0, 0, 0), (95, .invokestatic 42, 1003, 5, 4060), (98, .aload_n 1, 0, 0, 0), (99, .getfield 30, 7, 8, 2043), (102, .iconst 0, 0, 0, 0), (103, .aload_n 0, 0, 0, 0)]),
  (113, [(104, .getfield 30, 7, 8, 2043), (107, .iconst 0, 0, 0, 0), (108, .bipush 6, 0, 0, 0), (110, .invokestatic 42, 1003, 5, 4060), (113, .return_, 0, 0, 0)])]
def mO61 : List (Nat × List (Nat × mOp)) := [(9, [(0, .aload_n 0, 0, 0, 0), (1, .invokespecial 3, 1004, 1, 2210), (4, .aload_n 0, 0, 0, 0), (5, .bipush 49, 0, 0, 0), (7, .newarray .int, 0, 0, 0), (9, .putfield 9, 8, 4, 2215)]),
  (21, [(12, .aload_n 0, 0, 0, 0), (13, .bipush 7, 0, 0, 0), (15, .newarray .int, 0, 0, 0), (17, .putfield 15, 8, 5, 2216), (20, .aload_n 0, 0, 0, 0), (21, .bipush 7, 0, 0, 0)]),
  (33, [(23, .newarray .int, 0, 0, 0), (25, .putfield 18, 8, 6, 2217), (28, .aload_n 0, 0, 0, 0), (29, .aload_n 1, 0, 0, 0), (30, .putfield 21, 8, 0, 2211), (33, .aload_n 0, 0, 0, 0)]),
  (43, [(34, .aload_n 2, 0, 0, 0), (35, .putfield 25, 8, 1, 2212), (38, .aload_n 0, 0, 0, 0), (39, .aload_n 3, 0, 0, 0), (40, .putfield 29, 8, 2, 2213), (43, .aload_n 0, 0, 0, 0)]),
  (49, [(44, .aload 4, 0, 0, 0), (46, .putfield 33, 8, 3, 2214), (49, .return_, 0, 0, 0)])]
def mO62 : List (Nat × List (Nat × mOp)) := [(13, [(0, .iconst 0, 0, 0, 0), (1, .istore_n 1, 0, 0, 0), (2, .iload_n 1, 0, 0, 0), (3, .aload_n 0, 0, 0, 0), (4, .getfield 21, 8, 0, 2211), (7, .getfield 37, 0, 2, 1116), (10, .if_icmp .ge 73, 83, 0, 0), (13, .iconst 0, 0, 0, 0)]),
  (27, [(14, .istore_n 2, 0, 0, 0), (15, .iload_n 2, 0, 0, 0), (16, .aload_n 0, 0, 0, 0), (17, .getfield 21, 8, 0, 2211), (20, .getfield 37, 0, 2, 1116), (23, .if_icmp .ge 54, 77, 0, 0), (26, .aload_n 0, 0, 0, 0), (27, .getfield 9, 8, 4, 2215)]),
  (40, [(30, .iload_n 1, 0, 0, 0), (31, .bipush 7, 0, 0, 0), (33, .imul, 0, 0, 0), (34, .iload_n 2, 0, 0, 0), (35, .iadd, 0, 0, 0), (36, .aload_n 0, 0, 0, 0), (37, .getfield 29, 8, 2, 2213), (40, .iload_n 2, 0, 0, 0)]),
  (54, [(41, .aload_n 0, 0, 0, 0), (42, .getfield 25, 8, 1, 2212), (45, .getfield 43, 7, 3, 2021), (48, .iload_n 1, 0, 0, 0), (49, .iaload, 0, 0, 0), (50, .aload_n 0, 0, 0, 0), (51, .getfield 25, 8, 1, 2212), (54, .getfield 48, 7, 4, 2029)]),
  (70, [(57, .iload_n 1, 0, 0, 0), (58, .iaload, 0, 0, 0), (59, .aload_n 0, 0, 0, 0), (60, .getfield 25, 8, 1, 2212), (63, .getfield 51, 7, 1, 2011), (66, .iconst 0, 0, 0, 0), (67, .invokevirtual 54, 54, 6, 5210), (70, .iastore, 0, 0, 0)]),
  (89, [(71, .iinc 2 1, 0, 0, 0), (74, .goto (-59), 15, 0, 0), (77, .iinc 1 1, 0, 0, 0), (80, .goto (-78), 2, 0, 0), (83, .aload_n 0, 0, 0, 0), (84, .ldc 62, 0, 5211, 2147483647), (86, .putfield 63, 8, 7, 2219), (89, .aload_n 0, 0, 0, 0)]),
  (101, [(90, .getfield 33, 8, 3, 2214), (93, .getfield 66, 1, 3, 2098), (96, .iconst 0, 0, 0, 0), (97, .iconst 0, 0, 0, 0), (98, .iastore, 0, 0, 0), (99, .aload_n 0, 0, 0, 0), (100, .iconst 0, 0, 0, 0), (101, .iconst 0, 0, 0, 0)]),
  (105, [(102, .invokevirtual 71, 63, 3, 5212), (105, .return_, 0, 0, 0)])]
def mO63 : List (Nat × List (Nat × mOp)) := [(15, [(0, .iload_n 1, 0, 0, 0), (1, .aload_n 0, 0, 0, 0), (2, .getfield 21, 8, 0, 2211), (5, .getfield 37, 0, 2, 1116), (8, .if_icmp .lt 8, 16, 0, 0), (11, .aload_n 0, 0, 0, 0), (12, .invokevirtual 75, 64, 1, 5216), (15, .return_, 0, 0, 0)]),
  (29, [(16, .iconst 0, 0, 0, 0), (17, .istore_n 3, 0, 0, 0), (18, .iload_n 3, 0, 0, 0), (19, .aload_n 0, 0, 0, 0), (20, .getfield 21, 8, 0, 2211), (23, .getfield 37, 0, 2, 1116), (26, .if_icmp .ge 55, 81, 0, 0), (29, .iload_n 2, 0, 0, 0)]),
  (41, [(30, .iconst 1, 0, 0, 0), (31, .iload_n 3, 0, 0, 0), (32, .ishl, 0, 0, 0), (33, .iand, 0, 0, 0), (34, .ifCond .ne 41, 75, 0, 0), (37, .aload_n 0, 0, 0, 0), (38, .getfield 15, 8, 5, 2216), (41, .iload_n 1, 0, 0, 0)]),
  (53, [(42, .iload_n 3, 0, 0, 0), (43, .iastore, 0, 0, 0), (44, .aload_n 0, 0, 0, 0), (45, .getfield 33, 8, 3, 2214), (48, .iload_n 1, 0, 0, 0), (49, .aload_n 0, 0, 0, 0), (50, .getfield 9, 8, 4, 2215), (53, .iload_n 1, 0, 0, 0)]),
  (64, [(54, .bipush 7, 0, 0, 0), (56, .imul, 0, 0, 0), (57, .iload_n 3, 0, 0, 0), (58, .iadd, 0, 0, 0), (59, .iaload, 0, 0, 0), (60, .invokevirtual 78, 14, 3, 5224), (63, .aload_n 0, 0, 0, 0), (64, .iload_n 1, 0, 0, 0)]),
  (72, [(65, .iconst 1, 0, 0, 0), (66, .iadd, 0, 0, 0), (67, .iload_n 2, 0, 0, 0), (68, .iconst 1, 0, 0, 0), (69, .iload_n 3, 0, 0, 0), (70, .ishl, 0, 0, 0), (71, .ior, 0, 0, 0), (72, .invokevirtual 71, 63, 3, 5212)]),
  (81, [(75, .iinc 3 1, 0, 0, 0), (78, .goto (-60), 18, 0, 0), (81, .return_, 0, 0, 0)])]
def mO64 : List (Nat × List (Nat × mOp)) := [(7, [(0, .ldc 81, 0, 5220, (-2147483648)), (2, .istore_n 1, 0, 0, 0), (3, .iconst 0, 0, 0, 0), (4, .istore_n 2, 0, 0, 0), (5, .iload_n 2, 0, 0, 0), (6, .aload_n 0, 0, 0, 0), (7, .getfield 21, 8, 0, 2211)]),
  (20, [(10, .getfield 37, 0, 2, 1116), (13, .iconst 1, 0, 0, 0), (14, .isub, 0, 0, 0), (15, .if_icmp .ge 40, 55, 0, 0), (18, .iload_n 1, 0, 0, 0), (19, .aload_n 0, 0, 0, 0), (20, .getfield 63, 8, 7, 2219)]),
  (33, [(23, .if_icmp .ge 32, 55, 0, 0), (26, .iload_n 1, 0, 0, 0), (27, .aload_n 0, 0, 0, 0), (28, .getfield 33, 8, 3, 2214), (31, .iconst 0, 0, 0, 0), (32, .aload_n 0, 0, 0, 0), (33, .getfield 21, 8, 0, 2211)]),
  (48, [(36, .getfield 37, 0, 2, 1116), (39, .iconst 1, 0, 0, 0), (40, .isub, 0, 0, 0), (41, .iload_n 2, 0, 0, 0), (42, .invokevirtual 82, 21, 4, 5221), (45, .invokestatic 86, 1000, 2, 5222), (48, .istore_n 1, 0, 0, 0)]),
  (63, [(49, .iinc 2 1, 0, 0, 0), (52, .goto (-47), 5, 0, 0), (55, .iload_n 1, 0, 0, 0), (56, .aload_n 0, 0, 0, 0), (57, .getfield 63, 8, 7, 2219), (60, .if_icmp .ge 23, 83, 0, 0), (63, .aload_n 0, 0, 0, 0)]),
  (74, [(64, .iload_n 1, 0, 0, 0), (65, .putfield 63, 8, 7, 2219), (68, .aload_n 0, 0, 0, 0), (69, .getfield 15, 8, 5, 2216), (72, .iconst 0, 0, 0, 0), (73, .aload_n 0, 0, 0, 0), (74, .getfield 18, 8, 6, 2217)]),
  (83, [(77, .iconst 0, 0, 0, 0), (78, .bipush 7, 0, 0, 0), (80, .invokestatic 92, 1003, 5, 5223), (83, .return_, 0, 0, 0)])]
def mO65 : List (Nat × List (Nat × mOp)) := [(4, [(0, .aload_n 0, 0, 0, 0), (1, .invokespecial 1, 1004, 1, 1039), (4, .aload_n 0, 0, 0, 0)]),
  (10, [(5, .sipush 1000, 0, 0, 0), (8, .newarray .byte, 0, 0, 0), (10, .putfield 9, 9, 0, 1040)]),
  (13, [(13, .return_, 0, 0, 0)])]
def mO66 : List (Nat × List (Nat × mOp)) := [(9, [(0, .bipush 56, 0, 0, 0), (2, .istore_n 3, 0, 0, 0), (3, .iload_n 3, 0, 0, 0), (4, .ifCond .lt 84, 88, 0, 0), (7, .lload_n 1, 0, 0, 0), (8, .iload_n 3, 0, 0, 0), (9, .lushr, 0, 0, 0)]),
  (21, [(10, .l2i, 0, 0, 0), (11, .sipush 255, 0, 0, 0), (14, .iand, 0, 0, 0), (15, .istore 4, 0, 0, 0), (17, .iload 4, 0, 0, 0), (19, .bipush 10, 0, 0, 0), (21, .if_icmp .eq 17, 38, 0, 0)]),
  (38, [(24, .iload 4, 0, 0, 0), (26, .bipush 32, 0, 0, 0), (28, .if_icmp .lt 14, 42, 0, 0), (31, .iload 4, 0, 0, 0), (33, .bipush 126, 0, 0, 0), (35, .if_icmp .gt 7, 42, 0, 0), (38, .iconst 1, 0, 0, 0)]),
  (51, [(39, .goto 4, 43, 0, 0), (42, .iconst 0, 0, 0, 0), (43, .istore 5, 0, 0, 0), (45, .iload 5, 0, 0, 0), (47, .ifCond .eq 35, 82, 0, 0), (50, .aload_n 0, 0, 0, 0), (51, .getfield 13, 9, 1, 1042)]),
  (68, [(54, .sipush 1000, 0, 0, 0), (57, .if_icmp .ge 25, 82, 0, 0), (60, .aload_n 0, 0, 0, 0), (61, .getfield 9, 9, 0, 1040), (64, .aload_n 0, 0, 0, 0), (65, .getfield 13, 9, 1, 1042), (68, .iload 4, 0, 0, 0)]),
  (78, [(70, .i2b, 0, 0, 0), (71, .bastore, 0, 0, 0), (72, .aload_n 0, 0, 0, 0), (73, .dup, 0, 0, 0), (74, .getfield 13, 9, 1, 1042), (77, .iconst 1, 0, 0, 0), (78, .iadd, 0, 0, 0)]),
  (88, [(79, .putfield 13, 9, 1, 1042), (82, .iinc 3 (-8), 0, 0, 0), (85, .goto (-82), 3, 0, 0), (88, .return_, 0, 0, 0)])]
def mO67 : List (Nat × List (Nat × mOp)) := [(2, [(0, .aload_n 0, 0, 0, 0), (1, .iconst 0, 0, 0, 0), (2, .putfield 17, 9, 3, 1045)]),
  (9, [(5, .aload_n 0, 0, 0, 0), (6, .invokevirtual 20, 68, 1, 3053), (9, .return_, 0, 0, 0)])]
def mO68 : List (Nat × List (Nat × mOp)) := [(25, [(0, .aload_n 0, 0, 0, 0), (1, .getfield 17, 9, 3, 1045), (4, .aload_n 0, 0, 0, 0), (5, .getfield 13, 9, 1, 1042), (8, .if_icmp .ge 44, 52, 0, 0), (11, .aload_n 0, 0, 0, 0), (12, .getfield 9, 9, 0, 1040), (15, .aload_n 0, 0, 0, 0), (16, .getfield 17, 9, 3, 1045), (19, .baload, 0, 0, 0), (20, .bipush 10, 0, 0, 0), (22, .if_icmp .eq 17, 39, 0, 0), (25, .aload_n 0, 0, 0, 0)]),
  (49, [(26, .getfield 9, 9, 0, 1040), (29, .aload_n 0, 0, 0, 0), (30, .getfield 17, 9, 3, 1045), (33, .baload, 0, 0, 0), (34, .bipush 32, 0, 0, 0), (36, .if_icmp .ne 16, 52, 0, 0), (39, .aload_n 0, 0, 0, 0), (40, .dup, 0, 0, 0), (41, .getfield 17, 9, 3, 1045), (44, .iconst 1, 0, 0, 0), (45, .iadd, 0, 0, 0), (46, .putfield 17, 9, 3, 1045), (49, .goto (-49), 0, 0, 0)]),
  (76, [(52, .aload_n 0, 0, 0, 0), (53, .aload_n 0, 0, 0, 0), (54, .getfield 17, 9, 3, 1045), (57, .putfield 23, 9, 2, 1044), (60, .aload_n 0, 0, 0, 0), (61, .getfield 17, 9, 3, 1045), (64, .aload_n 0, 0, 0, 0), (65, .getfield 13, 9, 1, 1042), (68, .if_icmp .lt 11, 79, 0, 0), (71, .aload_n 0, 0, 0, 0), (72, .iconst 0, 0, 0, 0), (73, .putfield 26, 9, 4, 1048), (76, .goto 211, 287, 0, 0)]),
  (102, [(79, .aload_n 0, 0, 0, 0), (80, .getfield 9, 9, 0, 1040), (83, .aload_n 0, 0, 0, 0), (84, .getfield 17, 9, 3, 1045), (87, .baload, 0, 0, 0), (88, .bipush 97, 0, 0, 0), (90, .if_icmp .lt 71, 161, 0, 0), (93, .aload_n 0, 0, 0, 0), (94, .getfield 9, 9, 0, 1040), (97, .aload_n 0, 0, 0, 0), (98, .getfield 17, 9, 3, 1045), (101, .baload, 0, 0, 0), (102, .bipush 122, 0, 0, 0)]),
  (127, [(104, .if_icmp .gt 57, 161, 0, 0), (107, .aload_n 0, 0, 0, 0), (108, .bipush 97, 0, 0, 0), (110, .bipush 122, 0, 0, 0), (112, .invokevirtual 29, 69, 3, 3057), (115, .aload_n 0, 0, 0, 0), (116, .aload_n 0, 0, 0, 0), (117, .getfield 17, 9, 3, 1045), (120, .aload_n 0, 0, 0, 0), (121, .getfield 23, 9, 2, 1044), (124, .isub, 0, 0, 0), (125, .bipush 8, 0, 0, 0), (127, .if_icmp .gt 7, 134, 0, 0)]),
  (154, [(130, .iconst 2, 0, 0, 0), (131, .goto 4, 135, 0, 0), (134, .iconst 1, 0, 0, 0), (135, .putfield 26, 9, 4, 1048), (138, .aload_n 0, 0, 0, 0), (139, .aload_n 0, 0, 0, 0), (140, .getfield 26, 9, 4, 1048), (143, .iconst 2, 0, 0, 0), (144, .if_icmp .ne 10, 154, 0, 0), (147, .aload_n 0, 0, 0, 0), (148, .invokevirtual 33, 70, 1, 3061), (151, .goto 4, 155, 0, 0), (154, .iconst 0, 0, 0, 0)]),
  (180, [(155, .putfield 37, 9, 5, 1050), (158, .goto 129, 287, 0, 0), (161, .aload_n 0, 0, 0, 0), (162, .getfield 9, 9, 0, 1040), (165, .aload_n 0, 0, 0, 0), (166, .getfield 17, 9, 3, 1045), (169, .baload, 0, 0, 0), (170, .bipush 48, 0, 0, 0), (172, .if_icmp .lt 70, 242, 0, 0), (175, .aload_n 0, 0, 0, 0), (176, .getfield 9, 9, 0, 1040), (179, .aload_n 0, 0, 0, 0), (180, .getfield 17, 9, 3, 1045)]),
  (206, [(183, .baload, 0, 0, 0), (184, .bipush 57, 0, 0, 0), (186, .if_icmp .gt 56, 242, 0, 0), (189, .aload_n 0, 0, 0, 0), (190, .bipush 48, 0, 0, 0), (192, .bipush 57, 0, 0, 0), (194, .invokevirtual 29, 69, 3, 3057), (197, .aload_n 0, 0, 0, 0), (198, .aload_n 0, 0, 0, 0), (199, .getfield 17, 9, 3, 1045), (202, .aload_n 0, 0, 0, 0), (203, .getfield 23, 9, 2, 1044), (206, .isub, 0, 0, 0)]),
  (229, [(207, .iconst 4, 0, 0, 0), (208, .if_icmp .gt 7, 215, 0, 0), (211, .iconst 3, 0, 0, 0), (212, .goto 4, 216, 0, 0), (215, .iconst 1, 0, 0, 0), (216, .putfield 26, 9, 4, 1048), (219, .aload_n 0, 0, 0, 0), (220, .aload_n 0, 0, 0, 0), (221, .getfield 26, 9, 4, 1048), (224, .iconst 3, 0, 0, 0), (225, .if_icmp .ne 10, 235, 0, 0), (228, .aload_n 0, 0, 0, 0), (229, .invokevirtual 40, 71, 1, 3106)]),
  (256, [(232, .goto 4, 236, 0, 0), (235, .iconst 0, 0, 0, 0), (236, .putfield 37, 9, 5, 1050), (239, .goto 48, 287, 0, 0), (242, .aload_n 0, 0, 0, 0), (243, .aload_n 0, 0, 0, 0), (244, .getfield 9, 9, 0, 1040), (247, .aload_n 0, 0, 0, 0), (248, .getfield 17, 9, 3, 1045), (251, .baload, 0, 0, 0), (252, .putfield 37, 9, 5, 1050), (255, .aload_n 0, 0, 0, 0), (256, .ldc 43, 5, 3110, 0)]),
  (282, [(258, .aload_n 0, 0, 0, 0), (259, .getfield 37, 9, 5, 1050), (262, .i2c, 0, 0, 0), (263, .invokevirtual 45, 230, 2, 3111), (266, .ifCond .lt 7, 273, 0, 0), (269, .iconst 4, 0, 0, 0), (270, .goto 4, 274, 0, 0), (273, .iconst 1, 0, 0, 0), (274, .putfield 26, 9, 4, 1048), (277, .aload_n 0, 0, 0, 0), (278, .dup, 0, 0, 0), (279, .getfield 17, 9, 3, 1045), (282, .iconst 1, 0, 0, 0)]),
  (287, [(283, .iadd, 0, 0, 0), (284, .putfield 17, 9, 3, 1045), (287, .return_, 0, 0, 0)])]
def mO69 : List (Nat × List (Nat × mOp)) := [(11, [(0, .aload_n 0, 0, 0, 0), (1, .getfield 17, 9, 3, 1045), (4, .aload_n 0, 0, 0, 0), (5, .getfield 13, 9, 1, 1042), (8, .if_icmp .ge 42, 50, 0, 0), (11, .aload_n 0, 0, 0, 0)]),
  (21, [(12, .getfield 9, 9, 0, 1040), (15, .aload_n 0, 0, 0, 0), (16, .getfield 17, 9, 3, 1045), (19, .baload, 0, 0, 0), (20, .iload_n 1, 0, 0, 0), (21, .if_icmp .lt 29, 50, 0, 0)]),
  (33, [(24, .aload_n 0, 0, 0, 0), (25, .getfield 9, 9, 0, 1040), (28, .aload_n 0, 0, 0, 0), (29, .getfield 17, 9, 3, 1045), (32, .baload, 0, 0, 0), (33, .iload_n 2, 0, 0, 0)]),
  (43, [(34, .if_icmp .gt 16, 50, 0, 0), (37, .aload_n 0, 0, 0, 0), (38, .dup, 0, 0, 0), (39, .getfield 17, 9, 3, 1045), (42, .iconst 1, 0, 0, 0), (43, .iadd, 0, 0, 0)]),
  (50, [(44, .putfield 17, 9, 3, 1045), (47, .goto (-47), 0, 0, 0), (50, .return_, 0, 0, 0)])]
def mO70 : List (Nat × List (Nat × mOp)) := [(10, [(0, .iconst 0, 0, 0, 0), (1, .istore_n 1, 0, 0, 0), (2, .iload_n 1, 0, 0, 0), (3, .bipush 29, 0, 0, 0), (5, .if_icmp .ge 88, 93, 0, 0), (8, .iconst 1, 0, 0, 0), (9, .istore_n 2, 0, 0, 0), (10, .iconst 0, 0, 0, 0)]),
  (23, [(11, .istore_n 3, 0, 0, 0), (12, .iload_n 3, 0, 0, 0), (13, .bipush 8, 0, 0, 0), (15, .if_icmp .ge 66, 81, 0, 0), (18, .iload_n 2, 0, 0, 0), (19, .ifCond .eq 62, 81, 0, 0), (22, .aload_n 0, 0, 0, 0), (23, .getfield 23, 9, 2, 1044)]),
  (39, [(26, .iload_n 3, 0, 0, 0), (27, .iadd, 0, 0, 0), (28, .aload_n 0, 0, 0, 0), (29, .getfield 17, 9, 3, 1045), (32, .if_icmp .ge 17, 49, 0, 0), (35, .aload_n 0, 0, 0, 0), (36, .getfield 9, 9, 0, 1040), (39, .aload_n 0, 0, 0, 0)]),
  (53, [(40, .getfield 23, 9, 2, 1044), (43, .iload_n 3, 0, 0, 0), (44, .iadd, 0, 0, 0), (45, .baload, 0, 0, 0), (46, .goto 5, 51, 0, 0), (49, .bipush 32, 0, 0, 0), (51, .istore 4, 0, 0, 0), (53, .iload 4, 0, 0, 0)]),
  (66, [(55, .ldc 51, 4, 3065, 0), (57, .iload_n 1, 0, 0, 0), (58, .bipush 8, 0, 0, 0), (60, .imul, 0, 0, 0), (61, .iload_n 3, 0, 0, 0), (62, .iadd, 0, 0, 0), (63, .invokevirtual 53, 225, 2, 3066), (66, .if_icmp .ne 7, 73, 0, 0)]),
  (82, [(69, .iconst 1, 0, 0, 0), (70, .goto 4, 74, 0, 0), (73, .iconst 0, 0, 0, 0), (74, .istore_n 2, 0, 0, 0), (75, .iinc 3 1, 0, 0, 0), (78, .goto (-66), 12, 0, 0), (81, .iload_n 2, 0, 0, 0), (82, .ifCond .eq 5, 87, 0, 0)]),
  (95, [(85, .iload_n 1, 0, 0, 0), (86, .ireturn, 0, 0, 0), (87, .iinc 1 1, 0, 0, 0), (90, .goto (-88), 2, 0, 0), (93, .bipush 29, 0, 0, 0), (95, .ireturn, 0, 0, 0)])]
def mO71 : List (Nat × List (Nat × mOp)) := [(6, [(0, .iconst 0, 0, 0, 0), (1, .istore_n 1, 0, 0, 0), (2, .aload_n 0, 0, 0, 0), (3, .getfield 23, 9, 2, 1044), (6, .istore_n 2, 0, 0, 0)]),
  (15, [(7, .iload_n 2, 0, 0, 0), (8, .aload_n 0, 0, 0, 0), (9, .getfield 17, 9, 3, 1045), (12, .if_icmp .ge 24, 36, 0, 0), (15, .iload_n 1, 0, 0, 0)]),
  (23, [(16, .bipush 10, 0, 0, 0), (18, .imul, 0, 0, 0), (19, .aload_n 0, 0, 0, 0), (20, .getfield 9, 9, 0, 1040), (23, .iload_n 2, 0, 0, 0)]),
  (29, [(24, .baload, 0, 0, 0), (25, .iadd, 0, 0, 0), (26, .bipush 48, 0, 0, 0), (28, .isub, 0, 0, 0), (29, .istore_n 1, 0, 0, 0)]),
  (37, [(30, .iinc 2 1, 0, 0, 0), (33, .goto (-26), 7, 0, 0), (36, .iload_n 1, 0, 0, 0), (37, .ireturn, 0, 0, 0)])]
def mO72 : List (Nat × List (Nat × mOp)) := [(5, [(0, .aload_n 0, 0, 0, 0), (1, .getfield 26, 9, 4, 1048), (4, .iconst 2, 0, 0, 0), (5, .if_icmp .ne 15, 20, 0, 0)]),
  (13, [(8, .aload_n 0, 0, 0, 0), (9, .getfield 37, 9, 5, 1050), (12, .iload_n 1, 0, 0, 0), (13, .if_icmp .ne 7, 20, 0, 0)]),
  (21, [(16, .iconst 1, 0, 0, 0), (17, .goto 4, 21, 0, 0), (20, .iconst 0, 0, 0, 0), (21, .ireturn, 1, 0, 0)])]
def mO73 : List (Nat × List (Nat × mOp)) := [(5, [(0, .aload_n 0, 0, 0, 0), (1, .getfield 26, 9, 4, 1048), (4, .iconst 4, 0, 0, 0), (5, .if_icmp .ne 15, 20, 0, 0)]),
  (13, [(8, .aload_n 0, 0, 0, 0), (9, .getfield 37, 9, 5, 1050), (12, .iload_n 1, 0, 0, 0), (13, .if_icmp .ne 7, 20, 0, 0)]),
  (21, [(16, .iconst 1, 0, 0, 0), (17, .goto 4, 21, 0, 0), (20, .iconst 0, 0, 0, 0), (21, .ireturn, 1, 0, 0)])]
def mO74 : List (Nat × List (Nat × mOp)) := [(8, [(0, .iload_n 2, 0, 0, 0), (1, .iload_n 1, 0, 0, 0), (2, .isub, 0, 0, 0), (3, .aload_n 0, 0, 0, 0), (4, .getfield 17, 9, 3, 1045), (7, .aload_n 0, 0, 0, 0), (8, .getfield 23, 9, 2, 1044)]),
  (19, [(11, .isub, 0, 0, 0), (12, .if_icmp .eq 5, 17, 0, 0), (15, .iconst 0, 0, 0, 0), (16, .ireturn, 1, 0, 0), (17, .iconst 0, 0, 0, 0), (18, .istore_n 3, 0, 0, 0), (19, .iload_n 3, 0, 0, 0)]),
  (30, [(20, .iload_n 2, 0, 0, 0), (21, .iload_n 1, 0, 0, 0), (22, .isub, 0, 0, 0), (23, .if_icmp .ge 33, 56, 0, 0), (26, .aload_n 0, 0, 0, 0), (27, .getfield 9, 9, 0, 1040), (30, .iload_n 1, 0, 0, 0)]),
  (39, [(31, .iload_n 3, 0, 0, 0), (32, .iadd, 0, 0, 0), (33, .baload, 0, 0, 0), (34, .aload_n 0, 0, 0, 0), (35, .getfield 9, 9, 0, 1040), (38, .aload_n 0, 0, 0, 0), (39, .getfield 23, 9, 2, 1044)]),
  (50, [(42, .iload_n 3, 0, 0, 0), (43, .iadd, 0, 0, 0), (44, .baload, 0, 0, 0), (45, .if_icmp .eq 5, 50, 0, 0), (48, .iconst 0, 0, 0, 0), (49, .ireturn, 1, 0, 0), (50, .iinc 3 1, 0, 0, 0)]),
  (57, [(53, .goto (-34), 19, 0, 0), (56, .iconst 1, 0, 0, 0), (57, .ireturn, 1, 0, 0)])]
def mO75 : List (Nat × List (Nat × mOp)) := [(8, [(0, .aload_n 0, 0, 0, 0), (1, .invokespecial 3, 1004, 1, 1070), (4, .aload_n 0, 0, 0, 0), (5, .new 9, 0, 0, 1071), (8, .dup, 0, 0, 0)]),
  (18, [(9, .invokespecial 11, 0, 1, 1073), (12, .putfield 12, 10, 1, 1210), (15, .aload_n 0, 0, 0, 0), (16, .bipush 7, 0, 0, 0), (18, .newarray .int, 0, 0, 0)]),
  (28, [(20, .putfield 18, 10, 2, 1212), (23, .aload_n 0, 0, 0, 0), (24, .bipush 7, 0, 0, 0), (26, .newarray .int, 0, 0, 0), (28, .putfield 22, 10, 3, 1213)]),
  (36, [(31, .aload_n 0, 0, 0, 0), (32, .aload_n 1, 0, 0, 0), (33, .putfield 25, 10, 0, 1209), (36, .return_, 0, 0, 0)])]
def mO76 : List (Nat × List (Nat × mOp)) := [(12, [(0, .aload_n 0, 0, 0, 0), (1, .getfield 12, 10, 1, 1210), (4, .invokevirtual 29, 1, 1, 3048), (7, .aload_n 0, 0, 0, 0), (8, .iconst 0, 0, 0, 0), (9, .putfield 32, 10, 4, 1214), (12, .aload_n 0, 0, 0, 0)]),
  (23, [(13, .iconst 0, 0, 0, 0), (14, .putfield 36, 10, 5, 1215), (17, .aload_n 0, 0, 0, 0), (18, .iconst 0, 0, 0, 0), (19, .putfield 39, 10, 6, 1216), (22, .aload_n 0, 0, 0, 0), (23, .getfield 25, 10, 0, 1209)]),
  (36, [(26, .invokevirtual 42, 67, 1, 3049), (29, .aload_n 0, 0, 0, 0), (30, .invokevirtual 47, 77, 1, 3177), (33, .istore_n 1, 0, 0, 0), (34, .iconst 0, 0, 0, 0), (35, .istore_n 2, 0, 0, 0), (36, .iload_n 2, 0, 0, 0)]),
  (51, [(37, .sipush 1000, 0, 0, 0), (40, .if_icmp .ge 28, 68, 0, 0), (43, .iload_n 1, 0, 0, 0), (44, .ifCond .eq 24, 68, 0, 0), (47, .aload_n 0, 0, 0, 0), (48, .getfield 25, 10, 0, 1209), (51, .getfield 51, 9, 4, 1047)]),
  (68, [(54, .ifCond .eq 14, 68, 0, 0), (57, .aload_n 0, 0, 0, 0), (58, .invokevirtual 54, 83, 1, 3210), (61, .istore_n 1, 0, 0, 0), (62, .iinc 2 1, 0, 0, 0), (65, .goto (-29), 36, 0, 0), (68, .aload_n 0, 0, 0, 0)]),
  (72, [(69, .getfield 39, 10, 6, 1216), (72, .ireturn, 0, 0, 0)])]
def mO77 : List (Nat × List (Nat × mOp)) := [(9, [(0, .aload_n 0, 0, 0, 0), (1, .iconst 0, 0, 0, 0), (2, .invokevirtual 96, 78, 2, 3181), (5, .ifCond .eq 13, 18, 0, 0), (8, .aload_n 0, 0, 0, 0), (9, .iconst 2, 0, 0, 0)]),
  (20, [(10, .bipush 8, 0, 0, 0), (12, .invokevirtual 99, 80, 3, 3194), (15, .ifCond .ne 5, 20, 0, 0), (18, .iconst 0, 0, 0, 0), (19, .ireturn, 1, 0, 0), (20, .aload_n 0, 0, 0, 0)]),
  (32, [(21, .getfield 12, 10, 1, 1210), (24, .aload_n 0, 0, 0, 0), (25, .getfield 103, 10, 7, 1217), (28, .putfield 106, 0, 0, 1111), (31, .aload_n 0, 0, 0, 0), (32, .iconst 2, 0, 0, 0)]),
  (43, [(33, .bipush 8, 0, 0, 0), (35, .invokevirtual 99, 80, 3, 3194), (38, .ifCond .ne 5, 43, 0, 0), (41, .iconst 0, 0, 0, 0), (42, .ireturn, 1, 0, 0), (43, .aload_n 0, 0, 0, 0)]),
  (55, [(44, .getfield 12, 10, 1, 1210), (47, .aload_n 0, 0, 0, 0), (48, .getfield 103, 10, 7, 1217), (51, .putfield 109, 0, 1, 1114), (54, .aload_n 0, 0, 0, 0), (55, .bipush 59, 0, 0, 0)]),
  (60, [(57, .invokevirtual 112, 82, 2, 3202), (60, .ireturn, 1, 0, 0)])]
def mO78 : List (Nat × List (Nat × mOp)) := [(5, [(0, .aload_n 0, 0, 0, 0), (1, .getfield 25, 10, 0, 1209), (4, .iload_n 1, 0, 0, 0), (5, .invokevirtual 194, 72, 2, 3185)]),
  (13, [(8, .ifCond .ne 9, 17, 0, 0), (11, .aload_n 0, 0, 0, 0), (12, .iconst 1, 0, 0, 0), (13, .invokevirtual 92, 79, 2, 3189)]),
  (21, [(16, .ireturn, 1, 0, 0), (17, .aload_n 0, 0, 0, 0), (18, .getfield 25, 10, 0, 1209), (21, .invokevirtual 116, 68, 1, 3193)]),
  (25, [(24, .iconst 1, 0, 0, 0), (25, .ireturn, 1, 0, 0)])]
def mO79 : List (Nat × List (Nat × mOp)) := [(4, [(0, .aload_n 0, 0, 0, 0), (1, .iload_n 1, 0, 0, 0), (2, .bipush 16, 0, 0, 0), (4, .aload_n 0, 0, 0, 0)]),
  (12, [(5, .getfield 25, 10, 0, 1209), (8, .getfield 57, 9, 2, 1043), (11, .imul, 0, 0, 0), (12, .iadd, 0, 0, 0)]),
  (17, [(13, .putfield 39, 10, 6, 1216), (16, .iconst 0, 0, 0, 0), (17, .ireturn, 1, 0, 0)])]
def mO80 : List (Nat × List (Nat × mOp)) := [(3, [(0, .aload_n 0, 0, 0, 0), (1, .iload_n 1, 0, 0, 0), (2, .iload_n 2, 0, 0, 0), (3, .invokevirtual 200, 81, 3, 3198)]),
  (11, [(6, .ifCond .ne 5, 11, 0, 0), (9, .iconst 0, 0, 0, 0), (10, .ireturn, 1, 0, 0), (11, .aload_n 0, 0, 0, 0)]),
  (19, [(12, .getfield 25, 10, 0, 1209), (15, .invokevirtual 116, 68, 1, 3193), (18, .iconst 1, 0, 0, 0), (19, .ireturn, 1, 0, 0)])]
def mO81 : List (Nat × List (Nat × mOp)) := [(11, [(0, .aload_n 0, 0, 0, 0), (1, .getfield 25, 10, 0, 1209), (4, .getfield 51, 9, 4, 1047), (7, .iconst 3, 0, 0, 0), (8, .if_icmp .eq 9, 17, 0, 0), (11, .aload_n 0, 0, 0, 0)]),
  (19, [(12, .iconst 1, 0, 0, 0), (13, .invokevirtual 92, 79, 2, 3189), (16, .ireturn, 1, 0, 0), (17, .aload_n 0, 0, 0, 0), (18, .aload_n 0, 0, 0, 0), (19, .getfield 25, 10, 0, 1209)]),
  (33, [(22, .getfield 60, 9, 5, 1049), (25, .putfield 103, 10, 7, 1217), (28, .aload_n 0, 0, 0, 0), (29, .getfield 103, 10, 7, 1217), (32, .iload_n 1, 0, 0, 0), (33, .if_icmp .lt 11, 44, 0, 0)]),
  (45, [(36, .aload_n 0, 0, 0, 0), (37, .getfield 103, 10, 7, 1217), (40, .iload_n 2, 0, 0, 0), (41, .if_icmp .le 11, 52, 0, 0), (44, .aload_n 0, 0, 0, 0), (45, .iconst 4, 0, 0, 0)]),
  (57, [(46, .invokevirtual 92, 79, 2, 3189), (49, .ifCond .eq 7, 56, 0, 0), (52, .iconst 1, 0, 0, 0), (53, .goto 4, 57, 0, 0), (56, .iconst 0, 0, 0, 0), (57, .ireturn, 1, 0, 0)])]
def mO82 : List (Nat × List (Nat × mOp)) := [(5, [(0, .aload_n 0, 0, 0, 0), (1, .getfield 25, 10, 0, 1209), (4, .iload_n 1, 0, 0, 0), (5, .invokevirtual 197, 73, 2, 3206)]),
  (13, [(8, .ifCond .ne 9, 17, 0, 0), (11, .aload_n 0, 0, 0, 0), (12, .iconst 1, 0, 0, 0), (13, .invokevirtual 92, 79, 2, 3189)]),
  (21, [(16, .ireturn, 1, 0, 0), (17, .aload_n 0, 0, 0, 0), (18, .getfield 25, 10, 0, 1209), (21, .invokevirtual 116, 68, 1, 3193)]),
  (25, [(24, .iconst 1, 0, 0, 0), (25, .ireturn, 1, 0, 0)])]
def mO83 : List (Nat × List (Nat × mOp)) := [(12, [(0, .aload_n 0, 0, 0, 0), (1, .getfield 25, 10, 0, 1209), (4, .getfield 51, 9, 4, 1047), (7, .iconst 2, 0, 0, 0), (8, .if_icmp .ne 13, 21, 0, 0), (11, .aload_n 0, 0, 0, 0), (12, .getfield 25, 10, 0, 1209)]),
  (72, [(15, .getfield 60, 9, 5, 1049), (18, .goto 5, 23, 0, 0), (21, .bipush 29, 0, 0, 0), (23, .tableswitch 102 1 8 #[45, 50, 55, 60, 65, 78, 92, 97], 0, 0, 0), (68, .aload_n 0, 0, 0, 0), (69, .invokevirtual 63, 84, 1, 3214), (72, .ireturn, 1, 0, 0)]),
  (83, [(73, .aload_n 0, 0, 0, 0), (74, .invokevirtual 66, 86, 1, 3226), (77, .ireturn, 1, 0, 0), (78, .aload_n 0, 0, 0, 0), (79, .invokevirtual 69, 87, 1, 3230), (82, .ireturn, 1, 0, 0), (83, .aload_n 0, 0, 0, 0)]),
  (94, [(84, .invokevirtual 72, 90, 1, 4006), (87, .ireturn, 1, 0, 0), (88, .aload_n 0, 0, 0, 0), (89, .iconst 5, 0, 0, 0), (90, .aload_n 0, 0, 0, 0), (91, .getfield 12, 10, 1, 1210), (94, .getfield 75, 0, 15, 1170)]),
  (108, [(97, .invokevirtual 79, 91, 3, 4014), (100, .ireturn, 1, 0, 0), (101, .aload_n 0, 0, 0, 0), (102, .bipush 6, 0, 0, 0), (104, .aload_n 0, 0, 0, 0), (105, .getfield 12, 10, 1, 1210), (108, .getfield 83, 0, 16, 1173)]),
  (121, [(111, .invokevirtual 79, 91, 3, 4014), (114, .ireturn, 1, 0, 0), (115, .aload_n 0, 0, 0, 0), (116, .invokevirtual 86, 96, 1, 4035), (119, .ireturn, 1, 0, 0), (120, .aload_n 0, 0, 0, 0), (121, .invokevirtual 89, 97, 1, 4039)]),
  (130, [(124, .ireturn, 1, 0, 0), (125, .aload_n 0, 0, 0, 0), (126, .iconst 1, 0, 0, 0), (127, .invokevirtual 92, 79, 2, 3189), (130, .ireturn, 1, 0, 0)])]
def mO84 : List (Nat × List (Nat × mOp)) := [(8, [(0, .aload_n 0, 0, 0, 0), (1, .getfield 25, 10, 0, 1209), (4, .invokevirtual 116, 68, 1, 3193), (7, .aload_n 0, 0, 0, 0), (8, .bipush 7, 0, 0, 0)]),
  (18, [(10, .invokevirtual 119, 85, 2, 3218), (13, .ifCond .ne 5, 18, 0, 0), (16, .iconst 0, 0, 0, 0), (17, .ireturn, 1, 0, 0), (18, .aload_n 0, 0, 0, 0)]),
  (29, [(19, .getfield 12, 10, 1, 1210), (22, .getfield 122, 0, 5, 1132), (25, .aload_n 0, 0, 0, 0), (26, .getfield 125, 10, 9, 1219), (29, .bipush 8, 0, 0, 0)]),
  (37, [(31, .imul, 0, 0, 0), (32, .aload_n 0, 0, 0, 0), (33, .getfield 128, 10, 8, 1218), (36, .iadd, 0, 0, 0), (37, .iconst 1, 0, 0, 0)]),
  (45, [(38, .iastore, 0, 0, 0), (39, .aload_n 0, 0, 0, 0), (40, .bipush 59, 0, 0, 0), (42, .invokevirtual 112, 82, 2, 3202), (45, .ireturn, 1, 0, 0)])]
def mO85 : List (Nat × List (Nat × mOp)) := [(10, [(0, .aload_n 0, 0, 0, 0), (1, .iconst 0, 0, 0, 0), (2, .aload_n 0, 0, 0, 0), (3, .getfield 12, 10, 1, 1210), (6, .getfield 106, 0, 0, 1111), (9, .iconst 1, 0, 0, 0), (10, .isub, 0, 0, 0)]),
  (21, [(11, .invokevirtual 99, 80, 3, 3194), (14, .ifCond .ne 5, 19, 0, 0), (17, .iconst 0, 0, 0, 0), (18, .ireturn, 1, 0, 0), (19, .aload_n 0, 0, 0, 0), (20, .aload_n 0, 0, 0, 0), (21, .getfield 103, 10, 7, 1217)]),
  (36, [(24, .putfield 128, 10, 8, 1218), (27, .aload_n 0, 0, 0, 0), (28, .iconst 0, 0, 0, 0), (29, .aload_n 0, 0, 0, 0), (30, .getfield 12, 10, 1, 1210), (33, .getfield 109, 0, 1, 1114), (36, .iconst 1, 0, 0, 0)]),
  (47, [(37, .isub, 0, 0, 0), (38, .invokevirtual 200, 81, 3, 3198), (41, .ifCond .ne 5, 46, 0, 0), (44, .iconst 0, 0, 0, 0), (45, .ireturn, 1, 0, 0), (46, .aload_n 0, 0, 0, 0), (47, .aload_n 0, 0, 0, 0)]),
  (62, [(48, .getfield 103, 10, 7, 1217), (51, .putfield 125, 10, 9, 1219), (54, .aload_n 0, 0, 0, 0), (55, .getfield 12, 10, 1, 1210), (58, .aload_n 0, 0, 0, 0), (59, .getfield 128, 10, 8, 1218), (62, .aload_n 0, 0, 0, 0)]),
  (75, [(63, .getfield 125, 10, 9, 1219), (66, .invokevirtual 203, 2, 3, 3222), (69, .iload_n 1, 0, 0, 0), (70, .iand, 0, 0, 0), (71, .ifCond .eq 9, 80, 0, 0), (74, .aload_n 0, 0, 0, 0), (75, .iconst 3, 0, 0, 0)]),
  (88, [(76, .invokevirtual 92, 79, 2, 3189), (79, .ireturn, 1, 0, 0), (80, .aload_n 0, 0, 0, 0), (81, .getfield 25, 10, 0, 1209), (84, .invokevirtual 116, 68, 1, 3193), (87, .iconst 1, 0, 0, 0), (88, .ireturn, 1, 0, 0)])]
def mO86 : List (Nat × List (Nat × mOp)) := [(9, [(0, .aload_n 0, 0, 0, 0), (1, .getfield 25, 10, 0, 1209), (4, .invokevirtual 116, 68, 1, 3193), (7, .aload_n 0, 0, 0, 0), (8, .iconst 3, 0, 0, 0), (9, .invokevirtual 119, 85, 2, 3218)]),
  (24, [(12, .ifCond .eq 22, 34, 0, 0), (15, .aload_n 0, 0, 0, 0), (16, .bipush 22, 0, 0, 0), (18, .invokevirtual 96, 78, 2, 3181), (21, .ifCond .eq 13, 34, 0, 0), (24, .aload_n 0, 0, 0, 0)]),
  (35, [(25, .iconst 1, 0, 0, 0), (26, .bipush 99, 0, 0, 0), (28, .invokevirtual 99, 80, 3, 3194), (31, .ifCond .ne 5, 36, 0, 0), (34, .iconst 0, 0, 0, 0), (35, .ireturn, 1, 0, 0)]),
  (47, [(36, .aload_n 0, 0, 0, 0), (37, .getfield 12, 10, 1, 1210), (40, .getfield 131, 0, 6, 1136), (43, .aload_n 0, 0, 0, 0), (44, .getfield 125, 10, 9, 1219), (47, .bipush 8, 0, 0, 0)]),
  (56, [(49, .imul, 0, 0, 0), (50, .aload_n 0, 0, 0, 0), (51, .getfield 128, 10, 8, 1218), (54, .iadd, 0, 0, 0), (55, .aload_n 0, 0, 0, 0), (56, .getfield 103, 10, 7, 1217)]),
  (66, [(59, .iastore, 0, 0, 0), (60, .aload_n 0, 0, 0, 0), (61, .bipush 59, 0, 0, 0), (63, .invokevirtual 112, 82, 2, 3202), (66, .ireturn, 1, 0, 0)])]
def mO87 : List (Nat × List (Nat × mOp)) := [(19, [(0, .aload_n 0, 0, 0, 0), (1, .getfield 12, 10, 1, 1210), (4, .getfield 134, 0, 2, 1123), (7, .istore_n 1, 0, 0, 0), (8, .iload_n 1, 0, 0, 0), (9, .bipush 7, 0, 0, 0), (11, .if_icmp .lt 9, 20, 0, 0), (14, .aload_n 0, 0, 0, 0), (15, .iconst 5, 0, 0, 0), (16, .invokevirtual 92, 79, 2, 3189), (19, .ireturn, 1, 0, 0)]),
  (40, [(20, .aload_n 0, 0, 0, 0), (21, .getfield 25, 10, 0, 1209), (24, .invokevirtual 116, 68, 1, 3193), (27, .aload_n 0, 0, 0, 0), (28, .iload_n 1, 0, 0, 0), (29, .invokevirtual 137, 88, 2, 3234), (32, .ifCond .eq 28, 60, 0, 0), (35, .aload_n 0, 0, 0, 0), (36, .iload_n 1, 0, 0, 0), (37, .invokevirtual 140, 89, 2, 4002), (40, .ifCond .eq 20, 60, 0, 0)]),
  (62, [(43, .aload_n 0, 0, 0, 0), (44, .bipush 9, 0, 0, 0), (46, .invokevirtual 96, 78, 2, 3181), (49, .ifCond .eq 11, 60, 0, 0), (52, .aload_n 0, 0, 0, 0), (53, .iconst 1, 0, 0, 0), (54, .invokevirtual 119, 85, 2, 3218), (57, .ifCond .ne 5, 62, 0, 0), (60, .iconst 0, 0, 0, 0), (61, .ireturn, 1, 0, 0), (62, .aload_n 0, 0, 0, 0)]),
  (83, [(63, .getfield 12, 10, 1, 1210), (66, .getfield 143, 0, 8, 1146), (69, .iload_n 1, 0, 0, 0), (70, .aload_n 0, 0, 0, 0), (71, .getfield 128, 10, 8, 1218), (74, .iastore, 0, 0, 0), (75, .aload_n 0, 0, 0, 0), (76, .getfield 12, 10, 1, 1210), (79, .getfield 146, 0, 9, 1150), (82, .iload_n 1, 0, 0, 0), (83, .aload_n 0, 0, 0, 0)]),
  (104, [(84, .getfield 125, 10, 9, 1219), (87, .iastore, 0, 0, 0), (88, .aload_n 0, 0, 0, 0), (89, .bipush 10, 0, 0, 0), (91, .invokevirtual 96, 78, 2, 3181), (94, .ifCond .eq 13, 107, 0, 0), (97, .aload_n 0, 0, 0, 0), (98, .iconst 0, 0, 0, 0), (99, .bipush 99, 0, 0, 0), (101, .invokevirtual 99, 80, 3, 3194), (104, .ifCond .ne 5, 109, 0, 0)]),
  (123, [(107, .iconst 0, 0, 0, 0), (108, .ireturn, 1, 0, 0), (109, .aload_n 0, 0, 0, 0), (110, .getfield 12, 10, 1, 1210), (113, .getfield 149, 0, 10, 1152), (116, .iload_n 1, 0, 0, 0), (117, .aload_n 0, 0, 0, 0), (118, .getfield 103, 10, 7, 1217), (121, .iastore, 0, 0, 0), (122, .aload_n 0, 0, 0, 0), (123, .bipush 11, 0, 0, 0)]),
  (144, [(125, .invokevirtual 96, 78, 2, 3181), (128, .ifCond .eq 13, 141, 0, 0), (131, .aload_n 0, 0, 0, 0), (132, .iconst 0, 0, 0, 0), (133, .bipush 99, 0, 0, 0), (135, .invokevirtual 99, 80, 3, 3194), (138, .ifCond .ne 5, 143, 0, 0), (141, .iconst 0, 0, 0, 0), (142, .ireturn, 1, 0, 0), (143, .aload_n 0, 0, 0, 0), (144, .getfield 12, 10, 1, 1210)]),
  (166, [(147, .getfield 152, 0, 11, 1155), (150, .iload_n 1, 0, 0, 0), (151, .aload_n 0, 0, 0, 0), (152, .getfield 103, 10, 7, 1217), (155, .iastore, 0, 0, 0), (156, .aload_n 0, 0, 0, 0), (157, .bipush 12, 0, 0, 0), (159, .invokevirtual 96, 78, 2, 3181), (162, .ifCond .eq 13, 175, 0, 0), (165, .aload_n 0, 0, 0, 0), (166, .iconst 0, 0, 0, 0)]),
  (186, [(167, .bipush 9, 0, 0, 0), (169, .invokevirtual 99, 80, 3, 3194), (172, .ifCond .ne 5, 177, 0, 0), (175, .iconst 0, 0, 0, 0), (176, .ireturn, 1, 0, 0), (177, .aload_n 0, 0, 0, 0), (178, .getfield 12, 10, 1, 1210), (181, .getfield 155, 0, 12, 1159), (184, .iload_n 1, 0, 0, 0), (185, .aload_n 0, 0, 0, 0), (186, .getfield 103, 10, 7, 1217)]),
  (206, [(189, .iastore, 0, 0, 0), (190, .aload_n 0, 0, 0, 0), (191, .getfield 12, 10, 1, 1210), (194, .iload_n 1, 0, 0, 0), (195, .iconst 1, 0, 0, 0), (196, .iadd, 0, 0, 0), (197, .putfield 134, 0, 2, 1123), (200, .aload_n 0, 0, 0, 0), (201, .bipush 59, 0, 0, 0), (203, .invokevirtual 112, 82, 2, 3202), (206, .ireturn, 1, 0, 0)])]
def mO88 : List (Nat × List (Nat × mOp)) := [(15, [(0, .aload_n 0, 0, 0, 0), (1, .getfield 25, 10, 0, 1209), (4, .getfield 51, 9, 4, 1047), (7, .iconst 2, 0, 0, 0), (8, .if_icmp .ne 19, 27, 0, 0), (11, .aload_n 0, 0, 0, 0), (12, .getfield 25, 10, 0, 1209), (15, .getfield 60, 9, 5, 1049)]),
  (30, [(18, .bipush 22, 0, 0, 0), (20, .if_icmp .le 7, 27, 0, 0), (23, .iconst 1, 0, 0, 0), (24, .goto 4, 28, 0, 0), (27, .iconst 0, 0, 0, 0), (28, .istore_n 2, 0, 0, 0), (29, .iload_n 2, 0, 0, 0), (30, .ifCond .ne 9, 39, 0, 0)]),
  (42, [(33, .aload_n 0, 0, 0, 0), (34, .iconst 1, 0, 0, 0), (35, .invokevirtual 92, 79, 2, 3189), (38, .ireturn, 1, 0, 0), (39, .iconst 0, 0, 0, 0), (40, .istore_n 3, 0, 0, 0), (41, .iload_n 3, 0, 0, 0), (42, .iload_n 1, 0, 0, 0)]),
  (56, [(43, .if_icmp .ge 37, 80, 0, 0), (46, .aload_n 0, 0, 0, 0), (47, .getfield 25, 10, 0, 1209), (50, .aload_n 0, 0, 0, 0), (51, .getfield 18, 10, 2, 1212), (54, .iload_n 3, 0, 0, 0), (55, .iaload, 0, 0, 0), (56, .aload_n 0, 0, 0, 0)]),
  (70, [(57, .getfield 22, 10, 3, 1213), (60, .iload_n 3, 0, 0, 0), (61, .iaload, 0, 0, 0), (62, .invokevirtual 158, 74, 3, 3238), (65, .ifCond .eq 9, 74, 0, 0), (68, .aload_n 0, 0, 0, 0), (69, .iconst 3, 0, 0, 0), (70, .invokevirtual 92, 79, 2, 3189)]),
  (86, [(73, .ireturn, 1, 0, 0), (74, .iinc 3 1, 0, 0, 0), (77, .goto (-36), 41, 0, 0), (80, .aload_n 0, 0, 0, 0), (81, .getfield 18, 10, 2, 1212), (84, .iload_n 1, 0, 0, 0), (85, .aload_n 0, 0, 0, 0), (86, .getfield 25, 10, 0, 1209)]),
  (102, [(89, .getfield 57, 9, 2, 1043), (92, .iastore, 0, 0, 0), (93, .aload_n 0, 0, 0, 0), (94, .getfield 22, 10, 3, 1213), (97, .iload_n 1, 0, 0, 0), (98, .aload_n 0, 0, 0, 0), (99, .getfield 25, 10, 0, 1209), (102, .getfield 161, 9, 3, 1046)]),
  (114, [(105, .iastore, 0, 0, 0), (106, .aload_n 0, 0, 0, 0), (107, .getfield 25, 10, 0, 1209), (110, .invokevirtual 116, 68, 1, 3193), (113, .iconst 1, 0, 0, 0), (114, .ireturn, 1, 0, 0)])]
def mO89 : List (Nat × List (Nat × mOp)) := [(12, [(0, .aload_n 0, 0, 0, 0), (1, .getfield 25, 10, 0, 1209), (4, .getfield 51, 9, 4, 1047), (7, .iconst 2, 0, 0, 0), (8, .if_icmp .ne 31, 39, 0, 0), (11, .aload_n 0, 0, 0, 0), (12, .getfield 25, 10, 0, 1209)]),
  (30, [(15, .getfield 60, 9, 5, 1049), (18, .bipush 14, 0, 0, 0), (20, .if_icmp .lt 19, 39, 0, 0), (23, .aload_n 0, 0, 0, 0), (24, .getfield 25, 10, 0, 1209), (27, .getfield 60, 9, 5, 1049), (30, .bipush 18, 0, 0, 0)]),
  (42, [(32, .if_icmp .gt 7, 39, 0, 0), (35, .iconst 1, 0, 0, 0), (36, .goto 4, 40, 0, 0), (39, .iconst 0, 0, 0, 0), (40, .istore_n 2, 0, 0, 0), (41, .iload_n 2, 0, 0, 0), (42, .ifCond .ne 9, 51, 0, 0)]),
  (55, [(45, .aload_n 0, 0, 0, 0), (46, .iconst 1, 0, 0, 0), (47, .invokevirtual 92, 79, 2, 3189), (50, .ireturn, 1, 0, 0), (51, .aload_n 0, 0, 0, 0), (52, .getfield 12, 10, 1, 1210), (55, .getfield 164, 0, 7, 1142)]),
  (69, [(58, .iload_n 1, 0, 0, 0), (59, .aload_n 0, 0, 0, 0), (60, .getfield 25, 10, 0, 1209), (63, .getfield 60, 9, 5, 1049), (66, .bipush 14, 0, 0, 0), (68, .isub, 0, 0, 0), (69, .iastore, 0, 0, 0)]),
  (78, [(70, .aload_n 0, 0, 0, 0), (71, .getfield 25, 10, 0, 1209), (74, .invokevirtual 116, 68, 1, 3193), (77, .iconst 1, 0, 0, 0), (78, .ireturn, 1, 0, 0)])]
def mO90 : List (Nat × List (Nat × mOp)) := [(13, [(0, .aload_n 0, 0, 0, 0), (1, .getfield 32, 10, 4, 1214), (4, .istore_n 1, 0, 0, 0), (5, .aload_n 0, 0, 0, 0), (6, .getfield 12, 10, 1, 1210), (9, .iload_n 1, 0, 0, 0), (10, .invokevirtual 167, 3, 2, 4010), (13, .ifCond .ne 9, 22, 0, 0)]),
  (29, [(16, .aload_n 0, 0, 0, 0), (17, .iconst 5, 0, 0, 0), (18, .invokevirtual 92, 79, 2, 3189), (21, .ireturn, 1, 0, 0), (22, .aload_n 0, 0, 0, 0), (23, .getfield 25, 10, 0, 1209), (26, .invokevirtual 116, 68, 1, 3193), (29, .aload_n 0, 0, 0, 0)]),
  (42, [(30, .iconst 1, 0, 0, 0), (31, .bipush 9, 0, 0, 0), (33, .invokevirtual 99, 80, 3, 3194), (36, .ifCond .ne 5, 41, 0, 0), (39, .iconst 0, 0, 0, 0), (40, .ireturn, 1, 0, 0), (41, .aload_n 0, 0, 0, 0), (42, .getfield 12, 10, 1, 1210)]),
  (57, [(45, .getfield 170, 0, 13, 1163), (48, .iload_n 1, 0, 0, 0), (49, .aload_n 0, 0, 0, 0), (50, .getfield 103, 10, 7, 1217), (53, .iastore, 0, 0, 0), (54, .aload_n 0, 0, 0, 0), (55, .bipush 13, 0, 0, 0), (57, .invokevirtual 96, 78, 2, 3181)]),
  (74, [(60, .ifCond .eq 13, 73, 0, 0), (63, .aload_n 0, 0, 0, 0), (64, .iconst 0, 0, 0, 0), (65, .bipush 99, 0, 0, 0), (67, .invokevirtual 99, 80, 3, 3194), (70, .ifCond .ne 5, 75, 0, 0), (73, .iconst 0, 0, 0, 0), (74, .ireturn, 1, 0, 0)]),
  (88, [(75, .aload_n 0, 0, 0, 0), (76, .getfield 12, 10, 1, 1210), (79, .getfield 173, 0, 14, 1166), (82, .iload_n 1, 0, 0, 0), (83, .aload_n 0, 0, 0, 0), (84, .getfield 103, 10, 7, 1217), (87, .iastore, 0, 0, 0), (88, .aload_n 0, 0, 0, 0)]),
  (101, [(89, .iload_n 1, 0, 0, 0), (90, .iconst 1, 0, 0, 0), (91, .iadd, 0, 0, 0), (92, .putfield 32, 10, 4, 1214), (95, .aload_n 0, 0, 0, 0), (96, .bipush 59, 0, 0, 0), (98, .invokevirtual 112, 82, 2, 3202), (101, .ireturn, 1, 0, 0)])]
def mO91 : List (Nat × List (Nat × mOp)) := [(9, [(0, .aload_n 0, 0, 0, 0), (1, .iload_n 1, 0, 0, 0), (2, .invokevirtual 176, 92, 2, 4018), (5, .ifCond .ne 5, 10, 0, 0), (8, .iconst 0, 0, 0, 0), (9, .ireturn, 1, 0, 0)]),
  (17, [(10, .aload_n 2, 0, 0, 0), (11, .iconst 0, 0, 0, 0), (12, .putfield 179, 4, 2, 1086), (15, .aload_n 0, 0, 0, 0), (16, .aload_n 2, 0, 0, 0), (17, .iload_n 1, 0, 0, 0)]),
  (30, [(18, .bipush 6, 0, 0, 0), (20, .if_icmp .ne 8, 28, 0, 0), (23, .bipush 22, 0, 0, 0), (25, .goto 5, 30, 0, 0), (28, .bipush 26, 0, 0, 0), (30, .iconst 0, 0, 0, 0)]),
  (41, [(31, .iconst 0, 0, 0, 0), (32, .invokevirtual 184, 93, 5, 4022), (35, .ifCond .eq 16, 51, 0, 0), (38, .aload_n 0, 0, 0, 0), (39, .bipush 59, 0, 0, 0), (41, .invokevirtual 112, 82, 2, 3202)]),
  (52, [(44, .ifCond .eq 7, 51, 0, 0), (47, .iconst 1, 0, 0, 0), (48, .goto 4, 52, 0, 0), (51, .iconst 0, 0, 0, 0), (52, .ireturn, 1, 0, 0)])]
def mO92 : List (Nat × List (Nat × mOp)) := [(6, [(0, .aload_n 0, 0, 0, 0), (1, .getfield 36, 10, 5, 1215), (4, .iconst 1, 0, 0, 0), (5, .iload_n 1, 0, 0, 0), (6, .ishl, 0, 0, 0)]),
  (13, [(7, .iand, 0, 0, 0), (8, .ifCond .eq 9, 17, 0, 0), (11, .aload_n 0, 0, 0, 0), (12, .iconst 3, 0, 0, 0), (13, .invokevirtual 92, 79, 2, 3189)]),
  (22, [(16, .ireturn, 1, 0, 0), (17, .aload_n 0, 0, 0, 0), (18, .dup, 0, 0, 0), (19, .getfield 36, 10, 5, 1215), (22, .iconst 1, 0, 0, 0)]),
  (29, [(23, .iload_n 1, 0, 0, 0), (24, .ishl, 0, 0, 0), (25, .ior, 0, 0, 0), (26, .putfield 36, 10, 5, 1215), (29, .aload_n 0, 0, 0, 0)]),
  (37, [(30, .getfield 25, 10, 0, 1209), (33, .invokevirtual 116, 68, 1, 3193), (36, .iconst 1, 0, 0, 0), (37, .ireturn, 1, 0, 0)])]
def mO93 : List (Nat × List (Nat × mOp)) := [(10, [(0, .iload_n 3, 0, 0, 0), (1, .iconst 4, 0, 0, 0), (2, .if_icmp .lt 12, 14, 0, 0), (5, .aload_n 0, 0, 0, 0), (6, .aload_n 1, 0, 0, 0), (7, .iload_n 2, 0, 0, 0), (8, .iload 4, 0, 0, 0), (10, .invokevirtual 207, 94, 4, 4026)]),
  (20, [(13, .ireturn, 1, 0, 0), (14, .aload_n 0, 0, 0, 0), (15, .aload_n 1, 0, 0, 0), (16, .iload_n 2, 0, 0, 0), (17, .iload_n 3, 0, 0, 0), (18, .iconst 1, 0, 0, 0), (19, .iadd, 0, 0, 0), (20, .iload 4, 0, 0, 0)]),
  (35, [(22, .invokevirtual 184, 93, 5, 4022), (25, .ifCond .ne 5, 30, 0, 0), (28, .iconst 0, 0, 0, 0), (29, .ireturn, 1, 0, 0), (30, .iload_n 3, 0, 0, 0), (31, .iconst 1, 0, 0, 0), (32, .if_icmp .ne 7, 39, 0, 0), (35, .iconst 1, 0, 0, 0)]),
  (51, [(36, .goto 6, 42, 0, 0), (39, .sipush 1000, 0, 0, 0), (42, .istore 5, 0, 0, 0), (44, .iconst 0, 0, 0, 0), (45, .istore 6, 0, 0, 0), (47, .iload 6, 0, 0, 0), (49, .iload 5, 0, 0, 0), (51, .if_icmp .ge 52, 103, 0, 0)]),
  (67, [(54, .aload_n 0, 0, 0, 0), (55, .iload_n 3, 0, 0, 0), (56, .invokevirtual 211, 95, 2, 4031), (59, .istore 7, 0, 0, 0), (61, .iload 7, 0, 0, 0), (63, .ifCond .ne 5, 68, 0, 0), (66, .iconst 1, 0, 0, 0), (67, .ireturn, 1, 0, 0)]),
  (79, [(68, .aload_n 0, 0, 0, 0), (69, .getfield 25, 10, 0, 1209), (72, .invokevirtual 116, 68, 1, 3193), (75, .aload_n 0, 0, 0, 0), (76, .aload_n 1, 0, 0, 0), (77, .iload_n 2, 0, 0, 0), (78, .iload_n 3, 0, 0, 0), (79, .iconst 1, 0, 0, 0)]),
  (92, [(80, .iadd, 0, 0, 0), (81, .iload 4, 0, 0, 0), (83, .invokevirtual 184, 93, 5, 4022), (86, .ifCond .ne 5, 91, 0, 0), (89, .iconst 0, 0, 0, 0), (90, .ireturn, 1, 0, 0), (91, .aload_n 1, 0, 0, 0), (92, .iload 7, 0, 0, 0)]),
  (104, [(94, .invokevirtual 215, 41, 2, 4030), (97, .iinc 6 1, 0, 0, 0), (100, .goto (-53), 47, 0, 0), (103, .iconst 1, 0, 0, 0), (104, .ireturn, 1, 0, 0)])]
def mO94 : List (Nat × List (Nat × mOp)) := [(19, [(0, .aload_n 0, 0, 0, 0), (1, .getfield 25, 10, 0, 1209), (4, .getfield 51, 9, 4, 1047), (7, .iconst 3, 0, 0, 0), (8, .if_icmp .ne 7, 15, 0, 0), (11, .iconst 1, 0, 0, 0), (12, .goto 4, 16, 0, 0), (15, .iconst 0, 0, 0, 0), (16, .istore 4, 0, 0, 0), (18, .aload_n 0, 0, 0, 0), (19, .getfield 25, 10, 0, 1209)]),
  (44, [(22, .getfield 51, 9, 4, 1047), (25, .iconst 2, 0, 0, 0), (26, .if_icmp .ne 30, 56, 0, 0), (29, .aload_n 0, 0, 0, 0), (30, .getfield 25, 10, 0, 1209), (33, .getfield 60, 9, 5, 1049), (36, .iload_n 2, 0, 0, 0), (37, .if_icmp .lt 19, 56, 0, 0), (40, .aload_n 0, 0, 0, 0), (41, .getfield 25, 10, 0, 1209), (44, .getfield 60, 9, 5, 1049)]),
  (68, [(47, .bipush 28, 0, 0, 0), (49, .if_icmp .gt 7, 56, 0, 0), (52, .iconst 1, 0, 0, 0), (53, .goto 4, 57, 0, 0), (56, .iconst 0, 0, 0, 0), (57, .istore 5, 0, 0, 0), (59, .aload_n 0, 0, 0, 0), (60, .getfield 25, 10, 0, 1209), (63, .bipush 19, 0, 0, 0), (65, .invokevirtual 194, 72, 2, 3185), (68, .istore 6, 0, 0, 0)]),
  (94, [(70, .iload 4, 0, 0, 0), (72, .ifCond .ne 31, 103, 0, 0), (75, .iload 5, 0, 0, 0), (77, .ifCond .ne 26, 103, 0, 0), (80, .iload 6, 0, 0, 0), (82, .ifCond .ne 21, 103, 0, 0), (85, .aload_n 0, 0, 0, 0), (86, .getfield 25, 10, 0, 1209), (89, .bipush 40, 0, 0, 0), (91, .invokevirtual 197, 73, 2, 3206), (94, .ifCond .ne 9, 103, 0, 0)]),
  (113, [(97, .aload_n 0, 0, 0, 0), (98, .iconst 1, 0, 0, 0), (99, .invokevirtual 92, 79, 2, 3189), (102, .ireturn, 1, 0, 0), (103, .iload_n 3, 0, 0, 0), (104, .iconst 5, 0, 0, 0), (105, .if_icmp .lt 9, 114, 0, 0), (108, .aload_n 0, 0, 0, 0), (109, .iconst 5, 0, 0, 0), (110, .invokevirtual 92, 79, 2, 3189), (113, .ireturn, 1, 0, 0)]),
  (137, [(114, .aload_n 0, 0, 0, 0), (115, .getfield 25, 10, 0, 1209), (118, .getfield 60, 9, 5, 1049), (121, .istore 7, 0, 0, 0), (123, .aload_n 0, 0, 0, 0), (124, .getfield 25, 10, 0, 1209), (127, .invokevirtual 116, 68, 1, 3193), (130, .iload 4, 0, 0, 0), (132, .ifCond .ne 8, 140, 0, 0), (135, .iload 5, 0, 0, 0), (137, .ifCond .eq 26, 163, 0, 0)]),
  (158, [(140, .aload_n 1, 0, 0, 0), (141, .iload 4, 0, 0, 0), (143, .ifCond .eq 8, 151, 0, 0), (146, .iload 7, 0, 0, 0), (148, .goto 10, 158, 0, 0), (151, .iconst (-1), 0, 0, 0), (152, .iload 7, 0, 0, 0), (154, .bipush 22, 0, 0, 0), (156, .isub, 0, 0, 0), (157, .isub, 0, 0, 0), (158, .invokevirtual 215, 41, 2, 4030)]),
  (174, [(161, .iconst 1, 0, 0, 0), (162, .ireturn, 1, 0, 0), (163, .iload 6, 0, 0, 0), (165, .ifCond .eq 23, 188, 0, 0), (168, .aload_n 0, 0, 0, 0), (169, .aload_n 1, 0, 0, 0), (170, .iload_n 2, 0, 0, 0), (171, .iload_n 3, 0, 0, 0), (172, .iconst 1, 0, 0, 0), (173, .iadd, 0, 0, 0), (174, .invokevirtual 207, 94, 4, 4026)]),
  (192, [(177, .istore 8, 0, 0, 0), (179, .aload_n 1, 0, 0, 0), (180, .bipush (-8), 0, 0, 0), (182, .invokevirtual 215, 41, 2, 4030), (185, .iload 8, 0, 0, 0), (187, .ireturn, 1, 0, 0), (188, .aload_n 0, 0, 0, 0), (189, .aload_n 1, 0, 0, 0), (190, .iload_n 2, 0, 0, 0), (191, .iconst 0, 0, 0, 0), (192, .iload_n 3, 0, 0, 0)]),
  (212, [(193, .iconst 1, 0, 0, 0), (194, .iadd, 0, 0, 0), (195, .invokevirtual 184, 93, 5, 4022), (198, .ifCond .ne 5, 203, 0, 0), (201, .iconst 0, 0, 0, 0), (202, .ireturn, 1, 0, 0), (203, .aload_n 0, 0, 0, 0), (204, .getfield 25, 10, 0, 1209), (207, .bipush 41, 0, 0, 0), (209, .invokevirtual 197, 73, 2, 3206), (212, .ifCond .ne 9, 221, 0, 0)]),
  (229, [(215, .aload_n 0, 0, 0, 0), (216, .iconst 1, 0, 0, 0), (217, .invokevirtual 92, 79, 2, 3189), (220, .ireturn, 1, 0, 0), (221, .aload_n 0, 0, 0, 0), (222, .getfield 25, 10, 0, 1209), (225, .invokevirtual 116, 68, 1, 3193), (228, .iconst 1, 0, 0, 0), (229, .ireturn, 1, 0, 0)])]
def mO95 : List (Nat × List (Nat × mOp)) := [(44, [(0, .iload_n 1, 0, 0, 0), (1, .tableswitch 158 0 3 #[31, 67, 103, 139], 0, 0, 0), (32, .aload_n 0, 0, 0, 0), (33, .getfield 25, 10, 0, 1209), (36, .bipush 20, 0, 0, 0), (38, .invokevirtual 194, 72, 2, 3185), (41, .ifCond .eq 8, 49, 0, 0), (44, .bipush (-14), 0, 0, 0)]),
  (63, [(46, .goto 21, 67, 0, 0), (49, .aload_n 0, 0, 0, 0), (50, .getfield 25, 10, 0, 1209), (53, .bipush 21, 0, 0, 0), (55, .invokevirtual 194, 72, 2, 3185), (58, .ifCond .eq 8, 66, 0, 0), (61, .bipush (-15), 0, 0, 0), (63, .goto 4, 67, 0, 0)]),
  (80, [(66, .iconst 0, 0, 0, 0), (67, .ireturn, 0, 0, 0), (68, .aload_n 0, 0, 0, 0), (69, .getfield 25, 10, 0, 1209), (72, .bipush 60, 0, 0, 0), (74, .invokevirtual 197, 73, 2, 3206), (77, .ifCond .eq 8, 85, 0, 0), (80, .bipush (-12), 0, 0, 0)]),
  (99, [(82, .goto 21, 103, 0, 0), (85, .aload_n 0, 0, 0, 0), (86, .getfield 25, 10, 0, 1209), (89, .bipush 61, 0, 0, 0), (91, .invokevirtual 197, 73, 2, 3206), (94, .ifCond .eq 8, 102, 0, 0), (97, .bipush (-13), 0, 0, 0), (99, .goto 4, 103, 0, 0)]),
  (116, [(102, .iconst 0, 0, 0, 0), (103, .ireturn, 0, 0, 0), (104, .aload_n 0, 0, 0, 0), (105, .getfield 25, 10, 0, 1209), (108, .bipush 43, 0, 0, 0), (110, .invokevirtual 197, 73, 2, 3206), (113, .ifCond .eq 8, 121, 0, 0), (116, .bipush (-10), 0, 0, 0)]),
  (135, [(118, .goto 21, 139, 0, 0), (121, .aload_n 0, 0, 0, 0), (122, .getfield 25, 10, 0, 1209), (125, .bipush 45, 0, 0, 0), (127, .invokevirtual 197, 73, 2, 3206), (130, .ifCond .eq 8, 138, 0, 0), (133, .bipush (-11), 0, 0, 0), (135, .goto 4, 139, 0, 0)]),
  (152, [(138, .iconst 0, 0, 0, 0), (139, .ireturn, 0, 0, 0), (140, .aload_n 0, 0, 0, 0), (141, .getfield 25, 10, 0, 1209), (144, .bipush 42, 0, 0, 0), (146, .invokevirtual 197, 73, 2, 3206), (149, .ifCond .eq 8, 157, 0, 0), (152, .bipush (-9), 0, 0, 0)]),
  (160, [(154, .goto 4, 158, 0, 0), (157, .iconst 0, 0, 0, 0), (158, .ireturn, 0, 0, 0), (159, .iconst 0, 0, 0, 0), (160, .ireturn, 0, 0, 0)])]
def mO96 : List (Nat × List (Nat × mOp)) := [(9, [(0, .aload_n 0, 0, 0, 0), (1, .bipush 7, 0, 0, 0), (3, .invokevirtual 176, 92, 2, 4018), (6, .ifCond .eq 13, 19, 0, 0), (9, .aload_n 0, 0, 0, 0)]),
  (19, [(10, .iconst 0, 0, 0, 0), (11, .bipush 50, 0, 0, 0), (13, .invokevirtual 99, 80, 3, 3194), (16, .ifCond .ne 5, 21, 0, 0), (19, .iconst 0, 0, 0, 0)]),
  (26, [(20, .ireturn, 1, 0, 0), (21, .aload_n 0, 0, 0, 0), (22, .getfield 12, 10, 1, 1210), (25, .aload_n 0, 0, 0, 0), (26, .getfield 103, 10, 7, 1217)]),
  (38, [(29, .putfield 188, 0, 3, 1125), (32, .aload_n 0, 0, 0, 0), (33, .bipush 59, 0, 0, 0), (35, .invokevirtual 112, 82, 2, 3202), (38, .ireturn, 1, 0, 0)])]
def mO97 : List (Nat × List (Nat × mOp)) := [(9, [(0, .aload_n 0, 0, 0, 0), (1, .bipush 8, 0, 0, 0), (3, .invokevirtual 176, 92, 2, 4018), (6, .ifCond .eq 13, 19, 0, 0), (9, .aload_n 0, 0, 0, 0)]),
  (19, [(10, .iconst 0, 0, 0, 0), (11, .bipush 99, 0, 0, 0), (13, .invokevirtual 99, 80, 3, 3194), (16, .ifCond .ne 5, 21, 0, 0), (19, .iconst 0, 0, 0, 0)]),
  (26, [(20, .ireturn, 1, 0, 0), (21, .aload_n 0, 0, 0, 0), (22, .getfield 12, 10, 1, 1210), (25, .aload_n 0, 0, 0, 0), (26, .getfield 103, 10, 7, 1217)]),
  (38, [(29, .putfield 191, 0, 4, 1128), (32, .aload_n 0, 0, 0, 0), (33, .bipush 59, 0, 0, 0), (35, .invokevirtual 112, 82, 2, 3202), (38, .ireturn, 1, 0, 0)])]
def mO98 : List (Nat × List (Nat × mOp)) := [(20, [(0, .aload_n 0, 0, 0, 0), (1, .invokespecial 1, 1004, 1, 1031), (4, .aload_n 0, 0, 0, 0), (5, .new 7, 9, 0, 1034), (8, .dup, 0, 0, 0), (9, .invokespecial 9, 65, 101, 1036), (12, .putfield 10, 11, 0, 2238), (15, .aload_n 0, 0, 0, 0), (16, .new 16, 10, 0, 1065), (19, .dup, 0, 0, 0), (20, .aload_n 0, 0, 0, 0)]),
  (45, [(21, .getfield 10, 11, 0, 2238), (24, .invokespecial 18, 75, 2, 1067), (27, .putfield 21, 11, 1, 2239), (30, .aload_n 0, 0, 0, 0), (31, .new 25, 0, 0, 2001), (34, .dup, 0, 0, 0), (35, .invokespecial 27, 0, 1, 2002), (38, .putfield 28, 11, 2, 3000), (41, .aload_n 0, 0, 0, 0), (42, .new 32, 7, 0, 2003), (45, .dup, 0, 0, 0)]),
  (64, [(46, .invokespecial 34, 56, 101, 2005), (49, .putfield 35, 11, 3, 3001), (52, .aload_n 0, 0, 0, 0), (53, .iconst 4, 0, 0, 0), (54, .anewarray 32, 7, 0, 2003), (57, .putfield 39, 11, 4, 3002), (60, .iconst 0, 0, 0, 0), (61, .istore_n 1, 0, 0, 0), (62, .iload_n 1, 0, 0, 0), (63, .iconst 4, 0, 0, 0), (64, .if_icmp .ge 22, 86, 0, 0)]),
  (87, [(67, .aload_n 0, 0, 0, 0), (68, .getfield 39, 11, 4, 3002), (71, .iload_n 1, 0, 0, 0), (72, .new 32, 7, 0, 2003), (75, .dup, 0, 0, 0), (76, .invokespecial 34, 56, 101, 2005), (79, .aastore, 0, 0, 0), (80, .iinc 1 1, 0, 0, 0), (83, .goto (-21), 62, 0, 0), (86, .aload_n 0, 0, 0, 0), (87, .new 43, 6, 0, 2067)]),
  (110, [(90, .dup, 0, 0, 0), (91, .aload_n 0, 0, 0, 0), (92, .getfield 28, 11, 2, 3000), (95, .invokespecial 45, 52, 2, 2069), (98, .putfield 48, 11, 5, 3003), (101, .aload_n 0, 0, 0, 0), (102, .new 52, 1, 0, 2088), (105, .dup, 0, 0, 0), (106, .aload_n 0, 0, 0, 0), (107, .getfield 28, 11, 2, 3000), (110, .aload_n 0, 0, 0, 0)]),
  (133, [(111, .getfield 35, 11, 3, 3001), (114, .aload_n 0, 0, 0, 0), (115, .getfield 48, 11, 5, 3003), (118, .invokespecial 54, 9, 4, 2090), (121, .putfield 57, 11, 6, 3004), (124, .aload_n 0, 0, 0, 0), (125, .new 61, 5, 0, 2108), (128, .dup, 0, 0, 0), (129, .aload_n 0, 0, 0, 0), (130, .getfield 28, 11, 2, 3000), (133, .aload_n 0, 0, 0, 0)]),
  (156, [(134, .getfield 35, 11, 3, 3001), (137, .invokespecial 63, 45, 3, 2110), (140, .putfield 66, 11, 7, 3005), (143, .aload_n 0, 0, 0, 0), (144, .new 70, 3, 0, 2130), (147, .dup, 0, 0, 0), (148, .aload_n 0, 0, 0, 0), (149, .getfield 28, 11, 2, 3000), (152, .aload_n 0, 0, 0, 0), (153, .getfield 35, 11, 3, 3001), (156, .aload_n 0, 0, 0, 0)]),
  (179, [(157, .getfield 57, 11, 6, 3004), (160, .aload_n 0, 0, 0, 0), (161, .getfield 66, 11, 7, 3005), (164, .invokespecial 72, 33, 5, 2132), (167, .putfield 75, 11, 8, 3006), (170, .aload_n 0, 0, 0, 0), (171, .new 79, 2, 0, 2174), (174, .dup, 0, 0, 0), (175, .aload_n 0, 0, 0, 0), (176, .getfield 28, 11, 2, 3000), (179, .aload_n 0, 0, 0, 0)]),
  (202, [(180, .getfield 35, 11, 3, 3001), (183, .aload_n 0, 0, 0, 0), (184, .getfield 48, 11, 5, 3003), (187, .aload_n 0, 0, 0, 0), (188, .getfield 57, 11, 6, 3004), (191, .invokespecial 81, 27, 5, 2176), (194, .putfield 84, 11, 9, 3007), (197, .aload_n 0, 0, 0, 0), (198, .new 88, 8, 0, 2205), (201, .dup, 0, 0, 0), (202, .aload_n 0, 0, 0, 0)]),
  (224, [(203, .getfield 28, 11, 2, 3000), (206, .aload_n 0, 0, 0, 0), (207, .getfield 35, 11, 3, 3001), (210, .aload_n 0, 0, 0, 0), (211, .getfield 48, 11, 5, 3003), (214, .aload_n 0, 0, 0, 0), (215, .getfield 57, 11, 6, 3004), (218, .invokespecial 90, 61, 5, 2207), (221, .putfield 91, 11, 10, 3008), (224, .return_, 0, 0, 0)])]
def mO99 : List (Nat × List (Nat × mOp)) := [(5, [(0, .aload_n 0, 0, 0, 0), (1, .getfield 10, 11, 0, 2238), (4, .lload_n 1, 0, 0, 0), (5, .invokevirtual 95, 66, 2, 3036)]),
  (13, [(8, .aload_n 0, 0, 0, 0), (9, .getfield 10, 11, 0, 2238), (12, .lload_n 3, 0, 0, 0), (13, .invokevirtual 95, 66, 2, 3036)]),
  (22, [(16, .aload_n 0, 0, 0, 0), (17, .getfield 10, 11, 0, 2238), (20, .lload 5, 0, 0, 0), (22, .invokevirtual 95, 66, 2, 3036)]),
  (32, [(25, .aload_n 0, 0, 0, 0), (26, .getfield 10, 11, 0, 2238), (29, .getfield 99, 9, 1, 1041), (32, .ireturn, 0, 0, 0)])]
def mO100 : List (Nat × List (Nat × mOp)) := [(12, [(0, .aload_n 0, 0, 0, 0), (1, .getfield 21, 11, 1, 2239), (4, .invokevirtual 103, 76, 1, 3044), (7, .istore_n 1, 0, 0, 0), (8, .aload_n 0, 0, 0, 0), (9, .getfield 10, 11, 0, 2238), (12, .iconst 0, 0, 0, 0)]),
  (23, [(13, .putfield 99, 9, 1, 1041), (16, .iload_n 1, 0, 0, 0), (17, .ifCond .eq 5, 22, 0, 0), (20, .iload_n 1, 0, 0, 0), (21, .ireturn, 0, 0, 0), (22, .aload_n 0, 0, 0, 0), (23, .getfield 28, 11, 2, 3000)]),
  (40, [(26, .aload_n 0, 0, 0, 0), (27, .getfield 21, 11, 1, 2239), (30, .getfield 107, 10, 1, 1211), (33, .invokevirtual 110, 4, 2, 4043), (36, .aload_n 0, 0, 0, 0), (37, .getfield 48, 11, 5, 3003), (40, .invokevirtual 113, 53, 1, 4055)]),
  (55, [(43, .aload_n 0, 0, 0, 0), (44, .getfield 35, 11, 3, 3001), (47, .aload_n 0, 0, 0, 0), (48, .getfield 28, 11, 2, 3000), (51, .invokevirtual 116, 57, 2, 4056), (54, .iconst 0, 0, 0, 0), (55, .istore_n 2, 0, 0, 0)]),
  (66, [(56, .iload_n 2, 0, 0, 0), (57, .iconst 4, 0, 0, 0), (58, .if_icmp .ge 19, 77, 0, 0), (61, .aload_n 0, 0, 0, 0), (62, .getfield 39, 11, 4, 3002), (65, .iload_n 2, 0, 0, 0), (66, .aaload, 0, 0, 0)]),
  (78, [(67, .iconst 0, 0, 0, 0), (68, .putfield 119, 7, 0, 2009), (71, .iinc 2 1, 0, 0, 0), (74, .goto (-18), 56, 0, 0), (77, .iconst 0, 0, 0, 0), (78, .ireturn, 0, 0, 0)])]
def mO101 : List (Nat × List (Nat × mOp)) := [(14, [(0, .aload_n 0, 0, 0, 0), (1, .getfield 28, 11, 2, 3000), (4, .iload_n 1, 0, 0, 0), (5, .invokevirtual 123, 5, 2, 4073), (8, .ifCond .ne 5, 13, 0, 0), (11, .iconst (-1), 0, 0, 0), (12, .ireturn, 0, 0, 0), (13, .iload_n 2, 0, 0, 0), (14, .tableswitch 163 0 8 #[50, 60, 70, 80, 90, 99, 134, 143, 153], 0, 0, 0)]),
  (78, [(64, .aload_n 0, 0, 0, 0), (65, .getfield 28, 11, 2, 3000), (68, .getfield 127, 0, 7, 1140), (71, .iload_n 1, 0, 0, 0), (72, .iaload, 0, 0, 0), (73, .ireturn, 0, 0, 0), (74, .aload_n 0, 0, 0, 0), (75, .getfield 35, 11, 3, 3001), (78, .getfield 131, 7, 3, 2025)]),
  (93, [(81, .iload_n 1, 0, 0, 0), (82, .iaload, 0, 0, 0), (83, .ireturn, 0, 0, 0), (84, .aload_n 0, 0, 0, 0), (85, .getfield 35, 11, 3, 3001), (88, .getfield 134, 7, 4, 2032), (91, .iload_n 1, 0, 0, 0), (92, .iaload, 0, 0, 0), (93, .ireturn, 0, 0, 0)]),
  (108, [(94, .aload_n 0, 0, 0, 0), (95, .getfield 35, 11, 3, 3001), (98, .getfield 137, 7, 5, 2037), (101, .iload_n 1, 0, 0, 0), (102, .iaload, 0, 0, 0), (103, .ireturn, 0, 0, 0), (104, .aload_n 0, 0, 0, 0), (105, .getfield 28, 11, 2, 3000), (108, .iload_n 1, 0, 0, 0)]),
  (125, [(109, .invokevirtual 140, 6, 2, 4077), (112, .ireturn, 0, 0, 0), (113, .aload_n 0, 0, 0, 0), (114, .getfield 48, 11, 5, 3003), (117, .iload_n 1, 0, 0, 0), (118, .aload_n 0, 0, 0, 0), (119, .getfield 35, 11, 3, 3001), (122, .getfield 131, 7, 3, 2025), (125, .iload_n 1, 0, 0, 0)]),
  (140, [(126, .iaload, 0, 0, 0), (127, .aload_n 0, 0, 0, 0), (128, .getfield 35, 11, 3, 3001), (131, .getfield 134, 7, 4, 2032), (134, .iload_n 1, 0, 0, 0), (135, .iaload, 0, 0, 0), (136, .aload_n 0, 0, 0, 0), (137, .getfield 35, 11, 3, 3001), (140, .getfield 144, 7, 1, 2014)]),
  (157, [(143, .iconst 0, 0, 0, 0), (144, .invokevirtual 147, 54, 6, 4081), (147, .ireturn, 0, 0, 0), (148, .aload_n 0, 0, 0, 0), (149, .getfield 57, 11, 6, 3004), (152, .iload_n 1, 0, 0, 0), (153, .invokevirtual 151, 10, 2, 4103), (156, .ireturn, 0, 0, 0), (157, .aload_n 0, 0, 0, 0)]),
  (174, [(158, .getfield 28, 11, 2, 3000), (161, .getfield 154, 0, 12, 1158), (164, .iload_n 1, 0, 0, 0), (165, .iaload, 0, 0, 0), (166, .ireturn, 0, 0, 0), (167, .aload_n 0, 0, 0, 0), (168, .getfield 35, 11, 3, 3001), (171, .getfield 157, 7, 7, 2042), (174, .iload_n 1, 0, 0, 0)]),
  (178, [(175, .iaload, 0, 0, 0), (176, .ireturn, 0, 0, 0), (177, .iconst (-1), 0, 0, 0), (178, .ireturn, 0, 0, 0)])]
def mO102 : List (Nat × List (Nat × mOp)) := [(3, [(0, .iconst 0, 0, 0, 0), (1, .bipush 99, 0, 0, 0), (3, .iload_n 0, 0, 0, 0)]),
  (10, [(4, .invokestatic 320, 1001, 2, 4099), (7, .invokestatic 272, 1000, 2, 4100), (10, .ireturn, 0, 0, 0)])]
def mO103 : List (Nat × List (Nat × mOp)) := [(12, [(0, .aload_n 0, 0, 0, 0), (1, .getfield 28, 11, 2, 3000), (4, .iload_n 1, 0, 0, 0), (5, .invokevirtual 160, 3, 2, 4111), (8, .ifCond .ne 5, 13, 0, 0), (11, .iconst (-1), 0, 0, 0), (12, .ireturn, 0, 0, 0)]),
  (52, [(13, .iload_n 2, 0, 0, 0), (14, .tableswitch 85 0 3 #[30, 40, 50, 60], 0, 0, 0), (44, .aload_n 0, 0, 0, 0), (45, .getfield 28, 11, 2, 3000), (48, .getfield 163, 0, 13, 1162), (51, .iload_n 1, 0, 0, 0), (52, .iaload, 0, 0, 0)]),
  (63, [(53, .ireturn, 0, 0, 0), (54, .aload_n 0, 0, 0, 0), (55, .getfield 28, 11, 2, 3000), (58, .getfield 166, 0, 14, 1165), (61, .iload_n 1, 0, 0, 0), (62, .iaload, 0, 0, 0), (63, .ireturn, 0, 0, 0)]),
  (74, [(64, .aload_n 0, 0, 0, 0), (65, .getfield 35, 11, 3, 3001), (68, .getfield 169, 7, 8, 2046), (71, .iload_n 1, 0, 0, 0), (72, .iaload, 0, 0, 0), (73, .ireturn, 0, 0, 0), (74, .aload_n 0, 0, 0, 0)]),
  (87, [(75, .getfield 35, 11, 3, 3001), (78, .getfield 169, 7, 8, 2046), (81, .iload_n 1, 0, 0, 0), (82, .iaload, 0, 0, 0), (83, .ifCond .eq 7, 90, 0, 0), (86, .iconst (-1), 0, 0, 0), (87, .goto 11, 98, 0, 0)]),
  (100, [(90, .aload_n 0, 0, 0, 0), (91, .getfield 57, 11, 6, 3004), (94, .iload_n 1, 0, 0, 0), (95, .invokevirtual 172, 11, 2, 4112), (98, .ireturn, 0, 0, 0), (99, .iconst (-1), 0, 0, 0), (100, .ireturn, 0, 0, 0)])]
def mO104 : List (Nat × List (Nat × mOp)) := [(12, [(0, .aload_n 0, 0, 0, 0), (1, .getfield 28, 11, 2, 3000), (4, .iload_n 1, 0, 0, 0), (5, .iload_n 2, 0, 0, 0), (6, .invokevirtual 175, 7, 3, 4139), (9, .ifCond .ne 5, 14, 0, 0), (12, .iconst (-1), 0, 0, 0)]),
  (51, [(13, .ireturn, 0, 0, 0), (14, .iload_n 3, 0, 0, 0), (15, .tableswitch 83 0 3 #[29, 44, 61, 76], 0, 0, 0), (44, .aload_n 0, 0, 0, 0), (45, .getfield 35, 11, 3, 3001), (48, .getfield 179, 7, 2, 2019), (51, .iload_n 2, 0, 0, 0)]),
  (59, [(52, .bipush 8, 0, 0, 0), (54, .imul, 0, 0, 0), (55, .iload_n 1, 0, 0, 0), (56, .iadd, 0, 0, 0), (57, .iaload, 0, 0, 0), (58, .ireturn, 0, 0, 0), (59, .aload_n 0, 0, 0, 0)]),
  (72, [(60, .getfield 48, 11, 5, 3003), (63, .iload_n 1, 0, 0, 0), (64, .iload_n 2, 0, 0, 0), (65, .aload_n 0, 0, 0, 0), (66, .getfield 35, 11, 3, 3001), (69, .getfield 144, 7, 1, 2014), (72, .invokevirtual 182, 55, 4, 4143)]),
  (86, [(75, .ireturn, 0, 0, 0), (76, .aload_n 0, 0, 0, 0), (77, .getfield 28, 11, 2, 3000), (80, .getfield 186, 0, 5, 1133), (83, .iload_n 2, 0, 0, 0), (84, .bipush 8, 0, 0, 0), (86, .imul, 0, 0, 0)]),
  (93, [(87, .iload_n 1, 0, 0, 0), (88, .iadd, 0, 0, 0), (89, .iaload, 0, 0, 0), (90, .ireturn, 0, 0, 0), (91, .aload_n 0, 0, 0, 0), (92, .iload_n 1, 0, 0, 0), (93, .iload_n 2, 0, 0, 0)]),
  (99, [(94, .invokevirtual 189, 105, 3, 4144), (97, .ireturn, 0, 0, 0), (98, .iconst (-1), 0, 0, 0), (99, .ireturn, 0, 0, 0)])]
def mO105 : List (Nat × List (Nat × mOp)) := [(7, [(0, .iconst 0, 0, 0, 0), (1, .istore_n 3, 0, 0, 0), (2, .iconst 0, 0, 0, 0), (3, .istore 4, 0, 0, 0), (5, .iload 4, 0, 0, 0), (7, .aload_n 0, 0, 0, 0)]),
  (21, [(8, .getfield 28, 11, 2, 3000), (11, .getfield 193, 0, 2, 1122), (14, .if_icmp .ge 44, 58, 0, 0), (17, .aload_n 0, 0, 0, 0), (18, .getfield 35, 11, 3, 3001), (21, .getfield 131, 7, 3, 2025)]),
  (32, [(24, .iload 4, 0, 0, 0), (26, .iaload, 0, 0, 0), (27, .iload_n 1, 0, 0, 0), (28, .if_icmp .ne 24, 52, 0, 0), (31, .aload_n 0, 0, 0, 0), (32, .getfield 35, 11, 3, 3001)]),
  (45, [(35, .getfield 134, 7, 4, 2032), (38, .iload 4, 0, 0, 0), (40, .iaload, 0, 0, 0), (41, .iload_n 2, 0, 0, 0), (42, .if_icmp .ne 10, 52, 0, 0), (45, .iload_n 3, 0, 0, 0)]),
  (52, [(46, .iconst 1, 0, 0, 0), (47, .iload 4, 0, 0, 0), (49, .ishl, 0, 0, 0), (50, .ior, 0, 0, 0), (51, .istore_n 3, 0, 0, 0), (52, .iinc 4 1, 0, 0, 0)]),
  (59, [(55, .goto (-50), 5, 0, 0), (58, .iload_n 3, 0, 0, 0), (59, .ireturn, 0, 0, 0)])]
def mO106 : List (Nat × List (Nat × mOp)) := [(8, [(0, .aload_n 0, 0, 0, 0), (1, .getfield 28, 11, 2, 3000), (4, .iload_n 1, 0, 0, 0), (5, .invokevirtual 123, 5, 2, 4073), (8, .ifCond .eq 12, 20, 0, 0)]),
  (17, [(11, .iload_n 2, 0, 0, 0), (12, .ifCond .lt 8, 20, 0, 0), (15, .iload_n 2, 0, 0, 0), (16, .iconst 5, 0, 0, 0), (17, .if_icmp .lt 5, 22, 0, 0)]),
  (26, [(20, .iconst 0, 0, 0, 0), (21, .ireturn, 1, 0, 0), (22, .aload_n 0, 0, 0, 0), (23, .getfield 35, 11, 3, 3001), (26, .getfield 196, 7, 6, 2040)]),
  (37, [(29, .aload_n 0, 0, 0, 0), (30, .getfield 57, 11, 6, 3004), (33, .iload_n 1, 0, 0, 0), (34, .invokevirtual 151, 10, 2, 4103), (37, .iload_n 2, 0, 0, 0)]),
  (40, [(38, .iastore, 0, 0, 0), (39, .iconst 1, 0, 0, 0), (40, .ireturn, 1, 0, 0)])]
def mO107 : List (Nat × List (Nat × mOp)) := [(11, [(0, .iload_n 1, 0, 0, 0), (1, .iconst 1, 0, 0, 0), (2, .if_icmp .lt 9, 11, 0, 0), (5, .iload_n 1, 0, 0, 0), (6, .bipush 100, 0, 0, 0), (8, .if_icmp .le 5, 13, 0, 0), (11, .iconst (-1), 0, 0, 0)]),
  (20, [(12, .ireturn, 0, 0, 0), (13, .iconst 0, 0, 0, 0), (14, .istore_n 2, 0, 0, 0), (15, .iload_n 2, 0, 0, 0), (16, .iload_n 1, 0, 0, 0), (17, .if_icmp .ge 61, 78, 0, 0), (20, .aload_n 0, 0, 0, 0)]),
  (35, [(21, .getfield 57, 11, 6, 3004), (24, .invokevirtual 199, 16, 1, 4156), (27, .aload_n 0, 0, 0, 0), (28, .getfield 57, 11, 6, 3004), (31, .invokevirtual 202, 20, 1, 4181), (34, .aload_n 0, 0, 0, 0), (35, .getfield 66, 11, 7, 3005)]),
  (48, [(38, .iconst 0, 0, 0, 0), (39, .aload_n 0, 0, 0, 0), (40, .getfield 28, 11, 2, 3000), (43, .getfield 193, 0, 2, 1122), (46, .iconst 1, 0, 0, 0), (47, .isub, 0, 0, 0), (48, .iconst 0, 0, 0, 0)]),
  (61, [(49, .iconst 0, 0, 0, 0), (50, .invokevirtual 205, 46, 5, 4189), (53, .pop, 0, 0, 0), (54, .aload_n 0, 0, 0, 0), (55, .getfield 66, 11, 7, 3005), (58, .invokevirtual 209, 50, 1, 4208), (61, .aload_n 0, 0, 0, 0)]),
  (78, [(62, .getfield 35, 11, 3, 3001), (65, .aload_n 0, 0, 0, 0), (66, .getfield 28, 11, 2, 3000), (69, .invokevirtual 212, 59, 2, 4212), (72, .iinc 2 1, 0, 0, 0), (75, .goto (-60), 15, 0, 0), (78, .aload_n 0, 0, 0, 0)]),
  (85, [(79, .getfield 35, 11, 3, 3001), (82, .getfield 144, 7, 1, 2014), (85, .ireturn, 0, 0, 0)])]
def mO108 : List (Nat × List (Nat × mOp)) := [(11, [(0, .aload_n 0, 0, 0, 0), (1, .getfield 28, 11, 2, 3000), (4, .iload_n 1, 0, 0, 0), (5, .invokevirtual 160, 3, 2, 4111), (8, .ifCond .eq 35, 43, 0, 0), (11, .aload_n 0, 0, 0, 0)]),
  (23, [(12, .getfield 35, 11, 3, 3001), (15, .getfield 169, 7, 8, 2046), (18, .iload_n 1, 0, 0, 0), (19, .iaload, 0, 0, 0), (20, .ifCond .eq 23, 43, 0, 0), (23, .aload_n 0, 0, 0, 0)]),
  (35, [(24, .getfield 35, 11, 3, 3001), (27, .iload_n 1, 0, 0, 0), (28, .invokevirtual 215, 58, 2, 4221), (31, .aload_n 0, 0, 0, 0), (32, .getfield 28, 11, 2, 3000), (35, .getfield 163, 0, 13, 1162)]),
  (45, [(38, .iload_n 1, 0, 0, 0), (39, .iaload, 0, 0, 0), (40, .if_icmp .le 5, 45, 0, 0), (43, .iconst 0, 0, 0, 0), (44, .ireturn, 1, 0, 0), (45, .aload_n 0, 0, 0, 0)]),
  (55, [(46, .getfield 35, 11, 3, 3001), (49, .getfield 169, 7, 8, 2046), (52, .iload_n 1, 0, 0, 0), (53, .iconst 0, 0, 0, 0), (54, .iastore, 0, 0, 0), (55, .iconst 1, 0, 0, 0)]),
  (56, [(56, .ireturn, 1, 0, 0)])]
def mO109 : List (Nat × List (Nat × mOp)) := [(11, [(0, .aload_n 0, 0, 0, 0), (1, .getfield 28, 11, 2, 3000), (4, .iload_n 1, 0, 0, 0), (5, .invokevirtual 123, 5, 2, 4073), (8, .ifCond .ne 5, 13, 0, 0), (11, .iconst (-1), 0, 0, 0)]),
  (21, [(12, .ireturn, 0, 0, 0), (13, .aload_n 0, 0, 0, 0), (14, .getfield 57, 11, 6, 3004), (17, .iload_n 1, 0, 0, 0), (18, .invokevirtual 151, 10, 2, 4103), (21, .istore 4, 0, 0, 0)]),
  (33, [(23, .aload_n 0, 0, 0, 0), (24, .getfield 57, 11, 6, 3004), (27, .iload_n 1, 0, 0, 0), (28, .invokevirtual 218, 12, 2, 4226), (31, .istore 5, 0, 0, 0), (33, .aload_n 0, 0, 0, 0)]),
  (43, [(34, .getfield 57, 11, 6, 3004), (37, .iload 4, 0, 0, 0), (39, .iload 5, 0, 0, 0), (41, .iload_n 2, 0, 0, 0), (42, .iload_n 3, 0, 0, 0), (43, .invokevirtual 221, 19, 5, 4227)]),
  (57, [(46, .ifCond .eq 19, 65, 0, 0), (49, .aload_n 0, 0, 0, 0), (50, .getfield 66, 11, 7, 3005), (53, .iload 4, 0, 0, 0), (55, .iload 5, 0, 0, 0), (57, .iload_n 2, 0, 0, 0)]),
  (66, [(58, .iload_n 3, 0, 0, 0), (59, .invokevirtual 205, 46, 5, 4189), (62, .goto 4, 66, 0, 0), (65, .iconst (-1), 0, 0, 0), (66, .ireturn, 0, 0, 0)])]
def mO110 : List (Nat × List (Nat × mOp)) := [(12, [(0, .aload_n 0, 0, 0, 0), (1, .getfield 28, 11, 2, 3000), (4, .iload_n 1, 0, 0, 0), (5, .invokevirtual 123, 5, 2, 4073), (8, .ifCond .eq 19, 27, 0, 0), (11, .iload_n 2, 0, 0, 0), (12, .ifCond .lt 15, 27, 0, 0)]),
  (27, [(15, .iload_n 2, 0, 0, 0), (16, .sipush 999, 0, 0, 0), (19, .if_icmp .gt 8, 27, 0, 0), (22, .iload_n 3, 0, 0, 0), (23, .iconst (-1), 0, 0, 0), (24, .if_icmp .ge 5, 29, 0, 0), (27, .iconst (-1), 0, 0, 0)]),
  (38, [(28, .ireturn, 0, 0, 0), (29, .aload_n 0, 0, 0, 0), (30, .getfield 75, 11, 8, 3006), (33, .iload_n 1, 0, 0, 0), (34, .iload_n 2, 0, 0, 0), (35, .invokevirtual 225, 34, 3, 4232), (38, .istore 4, 0, 0, 0)]),
  (49, [(40, .iload_n 3, 0, 0, 0), (41, .iconst (-1), 0, 0, 0), (42, .if_icmp .ne 6, 48, 0, 0), (45, .iload 4, 0, 0, 0), (47, .ireturn, 0, 0, 0), (48, .iload_n 3, 0, 0, 0), (49, .iload 4, 0, 0, 0)]),
  (63, [(51, .if_icmp .ge 15, 66, 0, 0), (54, .aload_n 0, 0, 0, 0), (55, .getfield 75, 11, 8, 3006), (58, .getfield 228, 3, 4, 2141), (61, .iload_n 3, 0, 0, 0), (62, .iaload, 0, 0, 0), (63, .goto 4, 67, 0, 0)]),
  (67, [(66, .iconst (-1), 0, 0, 0), (67, .ireturn, 0, 0, 0)])]
def mO111 : List (Nat × List (Nat × mOp)) := [(11, [(0, .aload_n 0, 0, 0, 0), (1, .getfield 28, 11, 2, 3000), (4, .iload_n 1, 0, 0, 0), (5, .invokevirtual 123, 5, 2, 4073), (8, .ifCond .eq 12, 20, 0, 0), (11, .iload_n 2, 0, 0, 0)]),
  (21, [(12, .ifCond .lt 8, 20, 0, 0), (15, .iload_n 2, 0, 0, 0), (16, .iconst 5, 0, 0, 0), (17, .if_icmp .lt 5, 22, 0, 0), (20, .iconst (-1), 0, 0, 0), (21, .ireturn, 0, 0, 0)]),
  (33, [(22, .aload_n 0, 0, 0, 0), (23, .getfield 84, 11, 9, 3007), (26, .invokevirtual 231, 28, 1, 5030), (29, .aload_n 0, 0, 0, 0), (30, .getfield 84, 11, 9, 3007), (33, .getfield 234, 2, 4, 2185)]),
  (45, [(36, .iload_n 2, 0, 0, 0), (37, .baload, 0, 0, 0), (38, .ifCond .eq 19, 57, 0, 0), (41, .aload_n 0, 0, 0, 0), (42, .getfield 84, 11, 9, 3007), (45, .getfield 238, 2, 5, 2187)]),
  (53, [(48, .iload_n 1, 0, 0, 0), (49, .iconst 5, 0, 0, 0), (50, .imul, 0, 0, 0), (51, .iload_n 2, 0, 0, 0), (52, .iadd, 0, 0, 0), (53, .iaload, 0, 0, 0)]),
  (58, [(54, .goto 4, 58, 0, 0), (57, .iconst (-1), 0, 0, 0), (58, .ireturn, 0, 0, 0)])]
def mO112 : List (Nat × List (Nat × mOp)) := [(10, [(0, .aload_n 0, 0, 0, 0), (1, .getfield 28, 11, 2, 3000), (4, .getfield 193, 0, 2, 1122), (7, .ifCond .ne 5, 12, 0, 0), (10, .iconst (-1), 0, 0, 0)]),
  (19, [(11, .ireturn, 0, 0, 0), (12, .aload_n 0, 0, 0, 0), (13, .getfield 84, 11, 9, 3007), (16, .invokevirtual 231, 28, 1, 5030), (19, .aload_n 0, 0, 0, 0)]),
  (28, [(20, .getfield 84, 11, 9, 3007), (23, .iload_n 1, 0, 0, 0), (24, .ifCond .eq 13, 37, 0, 0), (27, .aload_n 0, 0, 0, 0), (28, .getfield 84, 11, 9, 3007)]),
  (41, [(31, .invokevirtual 241, 30, 1, 5050), (34, .goto 4, 38, 0, 0), (37, .iconst 0, 0, 0, 0), (38, .invokevirtual 244, 31, 2, 5054), (41, .ireturn, 0, 0, 0)])]
def mO113 : List (Nat × List (Nat × mOp)) := [(5, [(0, .aload_n 0, 0, 0, 0), (1, .getfield 28, 11, 2, 3000), (4, .iload_n 1, 0, 0, 0), (5, .invokevirtual 123, 5, 2, 4073)]),
  (13, [(8, .ifCond .ne 5, 13, 0, 0), (11, .iconst (-1), 0, 0, 0), (12, .ireturn, 0, 0, 0), (13, .aload_n 0, 0, 0, 0)]),
  (21, [(14, .getfield 84, 11, 9, 3007), (17, .invokevirtual 231, 28, 1, 5030), (20, .aload_n 0, 0, 0, 0), (21, .getfield 84, 11, 9, 3007)]),
  (28, [(24, .iload_n 1, 0, 0, 0), (25, .invokevirtual 247, 32, 2, 5062), (28, .ireturn, 0, 0, 0)])]
def mO114 : List (Nat × List (Nat × mOp)) := [(6, [(0, .iload_n 1, 0, 0, 0), (1, .ifCond .lt 33, 34, 0, 0), (4, .iload_n 1, 0, 0, 0), (5, .iload_n 2, 0, 0, 0), (6, .if_icmp .gt 28, 34, 0, 0)]),
  (17, [(9, .iload_n 2, 0, 0, 0), (10, .aload_n 0, 0, 0, 0), (11, .getfield 28, 11, 2, 3000), (14, .getfield 193, 0, 2, 1122), (17, .if_icmp .ge 17, 34, 0, 0)]),
  (26, [(20, .aload_n 0, 0, 0, 0), (21, .getfield 66, 11, 7, 3005), (24, .iload_n 1, 0, 0, 0), (25, .iload_n 2, 0, 0, 0), (26, .iconst 0, 0, 0, 0)]),
  (35, [(27, .iconst 0, 0, 0, 0), (28, .invokevirtual 205, 46, 5, 4189), (31, .goto 4, 35, 0, 0), (34, .iconst (-1), 0, 0, 0), (35, .ireturn, 0, 0, 0)])]
def mO115 : List (Nat × List (Nat × mOp)) := [(8, [(0, .aload_n 0, 0, 0, 0), (1, .getfield 28, 11, 2, 3000), (4, .iload_n 1, 0, 0, 0), (5, .invokevirtual 123, 5, 2, 4073), (8, .ifCond .eq 14, 22, 0, 0)]),
  (19, [(11, .iload_n 2, 0, 0, 0), (12, .ifCond .lt 10, 22, 0, 0), (15, .iload_n 2, 0, 0, 0), (16, .sipush 999, 0, 0, 0), (19, .if_icmp .le 5, 24, 0, 0)]),
  (28, [(22, .iconst 0, 0, 0, 0), (23, .ireturn, 1, 0, 0), (24, .aload_n 0, 0, 0, 0), (25, .getfield 35, 11, 3, 3001), (28, .getfield 157, 7, 7, 2042)]),
  (35, [(31, .iload_n 1, 0, 0, 0), (32, .iload_n 2, 0, 0, 0), (33, .iastore, 0, 0, 0), (34, .iconst 1, 0, 0, 0), (35, .ireturn, 1, 0, 0)])]
def mO116 : List (Nat × List (Nat × mOp)) := [(10, [(0, .iconst 0, 0, 0, 0), (1, .istore_n 1, 0, 0, 0), (2, .iload_n 1, 0, 0, 0), (3, .aload_n 0, 0, 0, 0), (4, .getfield 28, 11, 2, 3000), (7, .getfield 193, 0, 2, 1122), (10, .if_icmp .ge 64, 74, 0, 0)]),
  (19, [(13, .iconst 0, 0, 0, 0), (14, .istore_n 2, 0, 0, 0), (15, .iload_n 1, 0, 0, 0), (16, .istore_n 3, 0, 0, 0), (17, .iload_n 3, 0, 0, 0), (18, .aload_n 0, 0, 0, 0), (19, .getfield 28, 11, 2, 3000)]),
  (36, [(22, .getfield 193, 0, 2, 1122), (25, .if_icmp .ge 43, 68, 0, 0), (28, .iload_n 2, 0, 0, 0), (29, .aload_n 0, 0, 0, 0), (30, .getfield 35, 11, 3, 3001), (33, .getfield 157, 7, 7, 2042), (36, .iload_n 3, 0, 0, 0)]),
  (45, [(37, .iaload, 0, 0, 0), (38, .iadd, 0, 0, 0), (39, .istore_n 2, 0, 0, 0), (40, .iload_n 2, 0, 0, 0), (41, .aload_n 0, 0, 0, 0), (42, .getfield 66, 11, 7, 3005), (45, .iload_n 1, 0, 0, 0)]),
  (57, [(46, .iload_n 3, 0, 0, 0), (47, .iconst 0, 0, 0, 0), (48, .iconst 0, 0, 0, 0), (49, .invokevirtual 205, 46, 5, 4189), (52, .if_icmp .ge 10, 62, 0, 0), (55, .bipush 10, 0, 0, 0), (57, .iload_n 1, 0, 0, 0)]),
  (68, [(58, .imul, 0, 0, 0), (59, .iload_n 3, 0, 0, 0), (60, .iadd, 0, 0, 0), (61, .ireturn, 0, 0, 0), (62, .iinc 3 1, 0, 0, 0), (65, .goto (-48), 17, 0, 0), (68, .iinc 1 1, 0, 0, 0)]),
  (75, [(71, .goto (-69), 2, 0, 0), (74, .iconst (-1), 0, 0, 0), (75, .ireturn, 0, 0, 0)])]
def mO117 : List (Nat × List (Nat × mOp)) := [(5, [(0, .aload_n 0, 0, 0, 0), (1, .getfield 28, 11, 2, 3000), (4, .iload_n 1, 0, 0, 0), (5, .invokevirtual 123, 5, 2, 4073)]),
  (15, [(8, .ifCond .eq 14, 22, 0, 0), (11, .aload_n 0, 0, 0, 0), (12, .getfield 66, 11, 7, 3005), (15, .iload_n 1, 0, 0, 0)]),
  (23, [(16, .invokevirtual 250, 51, 2, 5083), (19, .goto 4, 23, 0, 0), (22, .iconst (-1), 0, 0, 0), (23, .ireturn, 0, 0, 0)])]
def mO118 : List (Nat × List (Nat × mOp)) := [(17, [(0, .aload_n 0, 0, 0, 0), (1, .getfield 28, 11, 2, 3000), (4, .getfield 193, 0, 2, 1122), (7, .istore 4, 0, 0, 0), (9, .iload 4, 0, 0, 0), (11, .iconst 1, 0, 0, 0), (12, .if_icmp .lt 32, 44, 0, 0), (15, .iload 4, 0, 0, 0), (17, .bipush 7, 0, 0, 0)]),
  (35, [(19, .if_icmp .ge 25, 44, 0, 0), (22, .aload_n 0, 0, 0, 0), (23, .getfield 28, 11, 2, 3000), (26, .iload_n 1, 0, 0, 0), (27, .iload_n 2, 0, 0, 0), (28, .invokevirtual 265, 8, 3, 5093), (31, .ifCond .eq 13, 44, 0, 0), (34, .iload_n 3, 0, 0, 0), (35, .ifCond .lt 9, 44, 0, 0)]),
  (52, [(38, .iload_n 3, 0, 0, 0), (39, .bipush 99, 0, 0, 0), (41, .if_icmp .le 5, 46, 0, 0), (44, .iconst (-1), 0, 0, 0), (45, .ireturn, 0, 0, 0), (46, .aload_n 0, 0, 0, 0), (47, .getfield 57, 11, 6, 3004), (50, .iload 4, 0, 0, 0), (52, .iconst 1, 0, 0, 0)]),
  (68, [(53, .isub, 0, 0, 0), (54, .invokevirtual 151, 10, 2, 4103), (57, .istore 5, 0, 0, 0), (59, .aload_n 0, 0, 0, 0), (60, .getfield 57, 11, 6, 3004), (63, .iload 5, 0, 0, 0), (65, .iload 4, 0, 0, 0), (67, .iconst 1, 0, 0, 0), (68, .isub, 0, 0, 0)]),
  (83, [(69, .iconst 0, 0, 0, 0), (70, .iconst 0, 0, 0, 0), (71, .aload_n 0, 0, 0, 0), (72, .getfield 35, 11, 3, 3001), (75, .getfield 144, 7, 1, 2014), (78, .iconst 0, 0, 0, 0), (79, .invokevirtual 268, 13, 7, 5094), (82, .aload_n 0, 0, 0, 0), (83, .getfield 57, 11, 6, 3004)]),
  (99, [(86, .iload 4, 0, 0, 0), (88, .iconst 0, 0, 0, 0), (89, .aload_n 0, 0, 0, 0), (90, .getfield 48, 11, 5, 3003), (93, .iload_n 1, 0, 0, 0), (94, .iload_n 2, 0, 0, 0), (95, .aload_n 0, 0, 0, 0), (96, .getfield 35, 11, 3, 3001), (99, .getfield 144, 7, 1, 2014)]),
  (119, [(102, .invokevirtual 182, 55, 4, 4143), (105, .iload_n 3, 0, 0, 0), (106, .isub, 0, 0, 0), (107, .invokestatic 272, 1000, 2, 4100), (110, .invokevirtual 277, 14, 3, 5095), (113, .aload_n 0, 0, 0, 0), (114, .getfield 57, 11, 6, 3004), (117, .iload 5, 0, 0, 0), (119, .iload 4, 0, 0, 0)]),
  (124, [(121, .invokevirtual 281, 23, 3, 5096), (124, .ireturn, 0, 0, 0)])]
def mO119 : List (Nat × List (Nat × mOp)) := [(16, [(0, .iload_n 1, 0, 0, 0), (1, .ifCond .lt 30, 31, 0, 0), (4, .iload_n 1, 0, 0, 0), (5, .sipush 9999, 0, 0, 0), (8, .if_icmp .gt 23, 31, 0, 0), (11, .iload_n 2, 0, 0, 0), (12, .iconst 1, 0, 0, 0), (13, .if_icmp .lt 18, 31, 0, 0), (16, .iload_n 2, 0, 0, 0)]),
  (32, [(17, .bipush 99, 0, 0, 0), (19, .if_icmp .gt 12, 31, 0, 0), (22, .iload_n 3, 0, 0, 0), (23, .ifCond .lt 8, 31, 0, 0), (26, .iload_n 3, 0, 0, 0), (27, .iconst 1, 0, 0, 0), (28, .if_icmp .le 5, 33, 0, 0), (31, .iconst (-1), 0, 0, 0), (32, .ireturn, 0, 0, 0)]),
  (45, [(33, .iload_n 1, 0, 0, 0), (34, .i2l, 0, 0, 0), (35, .lstore 4, 0, 0, 0), (37, .iconst 0, 0, 0, 0), (38, .istore 6, 0, 0, 0), (40, .iconst 0, 0, 0, 0), (41, .istore 7, 0, 0, 0), (43, .iload 7, 0, 0, 0), (45, .iload_n 2, 0, 0, 0)]),
  (63, [(46, .if_icmp .ge 75, 121, 0, 0), (49, .lload 4, 0, 0, 0), (51, .ldc2_w 284, 0, 5104, 1103515245), (54, .lmul, 0, 0, 0), (55, .ldc2_w 286, 0, 5105, 12345), (58, .ladd, 0, 0, 0), (59, .ldc2_w 288, 0, 5106, 2147483648), (62, .lrem, 0, 0, 0), (63, .lstore 4, 0, 0, 0)]),
  (80, [(65, .lload 4, 0, 0, 0), (67, .ldc2_w 290, 0, 5107, 65536), (70, .ldiv, 0, 0, 0), (71, .aload_n 0, 0, 0, 0), (72, .getfield 28, 11, 2, 3000), (75, .getfield 292, 0, 3, 1126), (78, .iconst 1, 0, 0, 0), (79, .iadd, 0, 0, 0), (80, .i2l, 0, 0, 0)]),
  (95, [(81, .lrem, 0, 0, 0), (82, .l2i, 0, 0, 0), (83, .istore 8, 0, 0, 0), (85, .iload 6, 0, 0, 0), (87, .iload_n 3, 0, 0, 0), (88, .ifCond .ne 15, 103, 0, 0), (91, .aload_n 0, 0, 0, 0), (92, .getfield 57, 11, 6, 3004), (95, .iload 8, 0, 0, 0)]),
  (115, [(97, .invokevirtual 295, 24, 2, 5108), (100, .goto 12, 112, 0, 0), (103, .aload_n 0, 0, 0, 0), (104, .getfield 57, 11, 6, 3004), (107, .iload 8, 0, 0, 0), (109, .invokevirtual 298, 25, 2, 5113), (112, .iadd, 0, 0, 0), (113, .istore 6, 0, 0, 0), (115, .iinc 7 1, 0, 0, 0)]),
  (123, [(118, .goto (-75), 43, 0, 0), (121, .iload 6, 0, 0, 0), (123, .ireturn, 0, 0, 0)])]
def mO120 : List (Nat × List (Nat × mOp)) := [(10, [(0, .iload_n 1, 0, 0, 0), (1, .ifCond .lt 8, 9, 0, 0), (4, .iload_n 1, 0, 0, 0), (5, .iconst 4, 0, 0, 0), (6, .if_icmp .lt 5, 11, 0, 0), (9, .iconst 0, 0, 0, 0), (10, .ireturn, 1, 0, 0)]),
  (21, [(11, .iload_n 2, 0, 0, 0), (12, .ifCond .ne 28, 40, 0, 0), (15, .aload_n 0, 0, 0, 0), (16, .getfield 39, 11, 4, 3002), (19, .iload_n 1, 0, 0, 0), (20, .aaload, 0, 0, 0), (21, .aload_n 0, 0, 0, 0)]),
  (34, [(22, .getfield 35, 11, 3, 3001), (25, .invokevirtual 301, 60, 2, 5122), (28, .aload_n 0, 0, 0, 0), (29, .getfield 39, 11, 4, 3002), (32, .iload_n 1, 0, 0, 0), (33, .aaload, 0, 0, 0), (34, .iconst 1, 0, 0, 0)]),
  (45, [(35, .putfield 119, 7, 0, 2009), (38, .iconst 1, 0, 0, 0), (39, .ireturn, 1, 0, 0), (40, .aload_n 0, 0, 0, 0), (41, .getfield 39, 11, 4, 3002), (44, .iload_n 1, 0, 0, 0), (45, .aaload, 0, 0, 0)]),
  (58, [(46, .getfield 119, 7, 0, 2009), (49, .ifCond .ne 5, 54, 0, 0), (52, .iconst 0, 0, 0, 0), (53, .ireturn, 1, 0, 0), (54, .aload_n 0, 0, 0, 0), (55, .getfield 35, 11, 3, 3001), (58, .aload_n 0, 0, 0, 0)]),
  (68, [(59, .getfield 39, 11, 4, 3002), (62, .iload_n 1, 0, 0, 0), (63, .aaload, 0, 0, 0), (64, .invokevirtual 301, 60, 2, 5122), (67, .iconst 1, 0, 0, 0), (68, .ireturn, 1, 0, 0)])]
def mO121 : List (Nat × List (Nat × mOp)) := [(65, [(0, .iload_n 1, 0, 0, 0), (1, .tableswitch 150 0 9 #[55, 63, 71, 79, 87, 95, 108, 126, 134, 142], 0, 0, 0), (56, .aload_n 0, 0, 0, 0), (57, .getfield 28, 11, 2, 3000), (60, .getfield 304, 0, 0, 1112), (63, .ireturn, 0, 0, 0), (64, .aload_n 0, 0, 0, 0), (65, .getfield 28, 11, 2, 3000)]),
  (81, [(68, .getfield 307, 0, 1, 1115), (71, .ireturn, 0, 0, 0), (72, .aload_n 0, 0, 0, 0), (73, .getfield 28, 11, 2, 3000), (76, .getfield 193, 0, 2, 1122), (79, .ireturn, 0, 0, 0), (80, .aload_n 0, 0, 0, 0), (81, .getfield 35, 11, 3, 3001)]),
  (97, [(84, .getfield 144, 7, 1, 2014), (87, .ireturn, 0, 0, 0), (88, .aload_n 0, 0, 0, 0), (89, .getfield 57, 11, 6, 3004), (92, .invokevirtual 310, 26, 1, 5130), (95, .ireturn, 0, 0, 0), (96, .aload_n 0, 0, 0, 0), (97, .getfield 35, 11, 3, 3001)]),
  (116, [(100, .getfield 179, 7, 2, 2019), (103, .bipush 64, 0, 0, 0), (105, .invokestatic 313, 122, 2, 5134), (108, .ireturn, 0, 0, 0), (109, .aload_n 0, 0, 0, 0), (110, .getfield 35, 11, 3, 3001), (113, .getfield 137, 7, 5, 2037), (116, .aload_n 0, 0, 0, 0)]),
  (134, [(117, .getfield 28, 11, 2, 3000), (120, .getfield 193, 0, 2, 1122), (123, .invokestatic 313, 122, 2, 5134), (126, .ireturn, 0, 0, 0), (127, .aload_n 0, 0, 0, 0), (128, .getfield 28, 11, 2, 3000), (131, .getfield 292, 0, 3, 1126), (134, .ireturn, 0, 0, 0)]),
  (150, [(135, .aload_n 0, 0, 0, 0), (136, .getfield 28, 11, 2, 3000), (139, .getfield 317, 0, 4, 1130), (142, .ireturn, 0, 0, 0), (143, .aload_n 0, 0, 0, 0), (144, .getfield 10, 11, 0, 2238), (147, .getfield 99, 9, 1, 1041), (150, .ireturn, 0, 0, 0)]),
  (152, [(151, .iconst (-1), 0, 0, 0), (152, .ireturn, 0, 0, 0)])]
def mO122 : List (Nat × List (Nat × mOp)) := [(4, [(0, .iconst 0, 0, 0, 0), (1, .istore_n 2, 0, 0, 0), (2, .iconst 0, 0, 0, 0), (3, .istore_n 3, 0, 0, 0), (4, .iload_n 3, 0, 0, 0)]),
  (11, [(5, .iload_n 1, 0, 0, 0), (6, .if_icmp .ge 21, 27, 0, 0), (9, .iload_n 3, 0, 0, 0), (10, .aload_n 0, 0, 0, 0), (11, .arraylength, 0, 0, 0)]),
  (18, [(12, .if_icmp .ge 15, 27, 0, 0), (15, .iload_n 2, 0, 0, 0), (16, .aload_n 0, 0, 0, 0), (17, .iload_n 3, 0, 0, 0), (18, .iaload, 0, 0, 0)]),
  (27, [(19, .iadd, 0, 0, 0), (20, .istore_n 2, 0, 0, 0), (21, .iinc 3 1, 0, 0, 0), (24, .goto (-20), 4, 0, 0), (27, .iload_n 2, 0, 0, 0)]),
  (28, [(28, .ireturn, 0, 0, 0)])]
def mO123 : List (Nat × List (Nat × mOp)) := [(11, [(0, .aload_n 0, 0, 0, 0), (1, .getfield 28, 11, 2, 3000), (4, .getfield 193, 0, 2, 1122), (7, .iconst 2, 0, 0, 0), (8, .if_icmp .lt 19, 27, 0, 0), (11, .iload_n 1, 0, 0, 0)]),
  (21, [(12, .iconst (-1), 0, 0, 0), (13, .if_icmp .lt 14, 27, 0, 0), (16, .iload_n 1, 0, 0, 0), (17, .aload_n 0, 0, 0, 0), (18, .getfield 28, 11, 2, 3000), (21, .getfield 193, 0, 2, 1122)]),
  (42, [(24, .if_icmp .lt 11, 35, 0, 0), (30, .dup, 0, 0, 0), (35, .aload_n 0, 0, 0, 0), (36, .getfield 91, 11, 10, 3008), (39, .invokevirtual 256, 62, 1, 5206), (42, .iload_n 1, 0, 0, 0)]),
  (54, [(43, .iconst (-1), 0, 0, 0), (44, .if_icmp .ne 13, 57, 0, 0), (47, .aload_n 0, 0, 0, 0), (48, .getfield 91, 11, 10, 3008), (51, .getfield 259, 8, 7, 2220), (54, .goto 12, 66, 0, 0)]),
  (66, [(57, .aload_n 0, 0, 0, 0), (58, .getfield 91, 11, 10, 3008), (61, .getfield 262, 8, 6, 2218), (64, .iload_n 1, 0, 0, 0), (65, .iaload, 0, 0, 0), (66, .ireturn, 0, 0, 0)])]
def mO124 : List (Nat × List (Nat × mOp)) := [(1, [(0, .aload_n 0, 0, 0, 0), (1, .getfield 1, 12, 0, 6036)]),
  (4, [(4, .ireturn, 0, 0, 0)])]
def mO125 : List (Nat × List (Nat × mOp)) := [(5, [(0, .aload_n 0, 0, 0, 0), (1, .iconst 0, 0, 0, 0), (2, .putfield 1, 12, 0, 6036), (5, .aload_n 0, 0, 0, 0)]),
  (11, [(6, .lload_n 1, 0, 0, 0), (7, .invokevirtual 7, 126, 2, 5233), (10, .aload_n 0, 0, 0, 0), (11, .lload_n 3, 0, 0, 0)]),
  (18, [(12, .invokevirtual 7, 126, 2, 5233), (15, .aload_n 0, 0, 0, 0), (16, .lload 5, 0, 0, 0), (18, .invokevirtual 7, 126, 2, 5233)]),
  (25, [(21, .aload_n 0, 0, 0, 0), (22, .getfield 11, 12, 2, 6038), (25, .ireturn, 0, 0, 0)])]
def mO126 : List (Nat × List (Nat × mOp)) := [(9, [(0, .bipush 56, 0, 0, 0), (2, .istore_n 3, 0, 0, 0), (3, .iload_n 3, 0, 0, 0), (4, .ifCond .lt 71, 75, 0, 0), (7, .lload_n 1, 0, 0, 0), (8, .iload_n 3, 0, 0, 0), (9, .lshr, 0, 0, 0)]),
  (21, [(10, .l2i, 0, 0, 0), (11, .sipush 255, 0, 0, 0), (14, .iand, 0, 0, 0), (15, .istore 4, 0, 0, 0), (17, .iload 4, 0, 0, 0), (19, .bipush 10, 0, 0, 0), (21, .if_icmp .eq 17, 38, 0, 0)]),
  (38, [(24, .iload 4, 0, 0, 0), (26, .bipush 32, 0, 0, 0), (28, .if_icmp .lt 41, 69, 0, 0), (31, .iload 4, 0, 0, 0), (33, .bipush 126, 0, 0, 0), (35, .if_icmp .gt 34, 69, 0, 0), (38, .aload_n 0, 0, 0, 0)]),
  (53, [(39, .getfield 11, 12, 2, 6038), (42, .sipush 1000, 0, 0, 0), (45, .if_icmp .ge 24, 69, 0, 0), (48, .aload_n 0, 0, 0, 0), (49, .getfield 14, 12, 1, 6037), (52, .aload_n 0, 0, 0, 0), (53, .getfield 11, 12, 2, 6038)]),
  (65, [(56, .iload 4, 0, 0, 0), (58, .iastore, 0, 0, 0), (59, .aload_n 0, 0, 0, 0), (60, .dup, 0, 0, 0), (61, .getfield 11, 12, 2, 6038), (64, .iconst 1, 0, 0, 0), (65, .iadd, 0, 0, 0)]),
  (75, [(66, .putfield 11, 12, 2, 6038), (69, .iinc 3 (-8), 0, 0, 0), (72, .goto (-69), 3, 0, 0), (75, .return_, 0, 0, 0)])]
def mO127 : List (Nat × List (Nat × mOp)) := [(32, [(0, .aload_n 0, 0, 0, 0), (1, .invokespecial 18, 1004, 1, 6002), (4, .aload_n 0, 0, 0, 0), (5, .sipush 1000, 0, 0, 0), (8, .newarray .int, 0, 0, 0), (10, .putfield 14, 12, 1, 6037), (13, .aload_n 0, 0, 0, 0), (14, .sipush 1002, 0, 0, 0), (17, .newarray .int, 0, 0, 0), (19, .putfield 24, 12, 4, 6040), (22, .aload_n 0, 0, 0, 0), (23, .sipush 1002, 0, 0, 0), (26, .newarray .int, 0, 0, 0), (28, .putfield 27, 12, 5, 6041), (31, .aload_n 0, 0, 0, 0), (32, .sipush 1002, 0, 0, 0)]),
  (59, [(35, .newarray .long, 0, 0, 0), (37, .putfield 30, 12, 6, 6042), (40, .aload_n 0, 0, 0, 0), (41, .bipush 29, 0, 0, 0), (43, .newarray .long, 0, 0, 0), (45, .dup, 0, 0, 0), (46, .iconst 0, 0, 0, 0), (47, .ldc2_w 34, 0, 6003, 2800), (50, .lastore, 0, 0, 0), (51, .dup, 0, 0, 0), (52, .iconst 1, 0, 0, 0), (53, .ldc2_w 36, 0, 6004, 932411), (56, .lastore, 0, 0, 0), (57, .dup, 0, 0, 0), (58, .iconst 2, 0, 0, 0), (59, .ldc2_w 38, 0, 6005, 36034867)]),
  (84, [(62, .lastore, 0, 0, 0), (63, .dup, 0, 0, 0), (64, .iconst 3, 0, 0, 0), (65, .ldc2_w 40, 0, 6006, 316950), (68, .lastore, 0, 0, 0), (69, .dup, 0, 0, 0), (70, .iconst 4, 0, 0, 0), (71, .ldc2_w 42, 0, 6007, 121898), (74, .lastore, 0, 0, 0), (75, .dup, 0, 0, 0), (76, .iconst 5, 0, 0, 0), (77, .ldc2_w 44, 0, 6008, 57), (80, .lastore, 0, 0, 0), (81, .dup, 0, 0, 0), (82, .bipush 6, 0, 0, 0), (84, .ldc2_w 46, 0, 6009, 426207)]),
  (112, [(87, .lastore, 0, 0, 0), (88, .dup, 0, 0, 0), (89, .bipush 7, 0, 0, 0), (91, .ldc2_w 48, 0, 6010, 839653), (94, .lastore, 0, 0, 0), (95, .dup, 0, 0, 0), (96, .bipush 8, 0, 0, 0), (98, .ldc2_w 50, 0, 6011, 38424446), (101, .lastore, 0, 0, 0), (102, .dup, 0, 0, 0), (103, .bipush 9, 0, 0, 0), (105, .ldc2_w 52, 0, 6012, 5676323), (108, .lastore, 0, 0, 0), (109, .dup, 0, 0, 0), (110, .bipush 10, 0, 0, 0), (112, .ldc2_w 54, 0, 6013, 1355951217)]),
  (140, [(115, .lastore, 0, 0, 0), (116, .dup, 0, 0, 0), (117, .bipush 11, 0, 0, 0), (119, .ldc2_w 56, 0, 6014, 36781379), (122, .lastore, 0, 0, 0), (123, .dup, 0, 0, 0), (124, .bipush 12, 0, 0, 0), (126, .ldc2_w 58, 0, 6015, 1178051), (129, .lastore, 0, 0, 0), (130, .dup, 0, 0, 0), (131, .bipush 13, 0, 0, 0), (133, .ldc2_w 60, 0, 6016, 13186412), (136, .lastore, 0, 0, 0), (137, .dup, 0, 0, 0), (138, .bipush 14, 0, 0, 0), (140, .ldc2_w 62, 0, 6017, 23270970)]),
  (168, [(143, .lastore, 0, 0, 0), (144, .dup, 0, 0, 0), (145, .bipush 15, 0, 0, 0), (147, .ldc2_w 64, 0, 6018, 30596128), (150, .lastore, 0, 0, 0), (151, .dup, 0, 0, 0), (152, .bipush 16, 0, 0, 0), (154, .ldc2_w 66, 0, 6019, 979413), (157, .lastore, 0, 0, 0), (158, .dup, 0, 0, 0), (159, .bipush 17, 0, 0, 0), (161, .ldc2_w 68, 0, 6020, 20590), (164, .lastore, 0, 0, 0), (165, .dup, 0, 0, 0), (166, .bipush 18, 0, 0, 0), (168, .ldc2_w 70, 0, 6021, 20983)]),
  (196, [(171, .lastore, 0, 0, 0), (172, .dup, 0, 0, 0), (173, .bipush 19, 0, 0, 0), (175, .ldc2_w 72, 0, 6022, 564227), (178, .lastore, 0, 0, 0), (179, .dup, 0, 0, 0), (180, .bipush 20, 0, 0, 0), (182, .ldc2_w 74, 0, 6023, 19741), (185, .lastore, 0, 0, 0), (186, .dup, 0, 0, 0), (187, .bipush 21, 0, 0, 0), (189, .ldc2_w 76, 0, 6024, 1891), (192, .lastore, 0, 0, 0), (193, .dup, 0, 0, 0), (194, .bipush 22, 0, 0, 0), (196, .ldc2_w 78, 0, 6025, 573)]),
  (224, [(199, .lastore, 0, 0, 0), (200, .dup, 0, 0, 0), (201, .bipush 23, 0, 0, 0), (203, .ldc2_w 80, 0, 6026, 24), (206, .lastore, 0, 0, 0), (207, .dup, 0, 0, 0), (208, .bipush 24, 0, 0, 0), (210, .ldc2_w 82, 0, 6027, 25), (213, .lastore, 0, 0, 0), (214, .dup, 0, 0, 0), (215, .bipush 25, 0, 0, 0), (217, .ldc2_w 84, 0, 6028, 426554), (220, .lastore, 0, 0, 0), (221, .dup, 0, 0, 0), (222, .bipush 26, 0, 0, 0), (224, .ldc2_w 86, 0, 6029, 34523709)]),
  (255, [(227, .lastore, 0, 0, 0), (228, .dup, 0, 0, 0), (229, .bipush 27, 0, 0, 0), (231, .ldc2_w 88, 0, 6030, 932857), (234, .lastore, 0, 0, 0), (235, .dup, 0, 0, 0), (236, .bipush 28, 0, 0, 0), (238, .ldc2_w 90, 0, 6031, 8269), (241, .lastore, 0, 0, 0), (242, .putfield 92, 12, 9, 6045), (245, .aload_n 0, 0, 0, 0), (246, .sipush 2240, 0, 0, 0), (249, .newarray .int, 0, 0, 0), (251, .putfield 95, 12, 10, 6046), (254, .aload_n 0, 0, 0, 0), (255, .sipush 2200, 0, 0, 0)]),
  (287, [(258, .newarray .int, 0, 0, 0), (260, .putfield 98, 12, 11, 6047), (263, .aload_n 0, 0, 0, 0), (264, .sipush 2200, 0, 0, 0), (267, .newarray .int, 0, 0, 0), (269, .putfield 101, 12, 12, 6048), (272, .aload_n 0, 0, 0, 0), (273, .bipush 7, 0, 0, 0), (275, .newarray .long, 0, 0, 0), (277, .putfield 104, 12, 14, 6050), (280, .aload_n 0, 0, 0, 0), (281, .bipush 7, 0, 0, 0), (283, .newarray .int, 0, 0, 0), (285, .dup, 0, 0, 0), (286, .iconst 0, 0, 0, 0), (287, .bipush 23, 0, 0, 0)]),
  (306, [(289, .iastore, 0, 0, 0), (290, .dup, 0, 0, 0), (291, .iconst 1, 0, 0, 0), (292, .bipush 24, 0, 0, 0), (294, .iastore, 0, 0, 0), (295, .dup, 0, 0, 0), (296, .iconst 2, 0, 0, 0), (297, .bipush 25, 0, 0, 0), (299, .iastore, 0, 0, 0), (300, .dup, 0, 0, 0), (301, .iconst 3, 0, 0, 0), (302, .iconst 3, 0, 0, 0), (303, .iastore, 0, 0, 0), (304, .dup, 0, 0, 0), (305, .iconst 4, 0, 0, 0), (306, .bipush 26, 0, 0, 0)]),
  (332, [(308, .iastore, 0, 0, 0), (309, .dup, 0, 0, 0), (310, .iconst 5, 0, 0, 0), (311, .bipush 27, 0, 0, 0), (313, .iastore, 0, 0, 0), (314, .dup, 0, 0, 0), (315, .bipush 6, 0, 0, 0), (317, .bipush 28, 0, 0, 0), (319, .iastore, 0, 0, 0), (320, .putfield 107, 12, 18, 6054), (323, .aload_n 0, 0, 0, 0), (324, .bipush 7, 0, 0, 0), (326, .newarray .int, 0, 0, 0), (328, .putfield 110, 12, 19, 6055), (331, .aload_n 0, 0, 0, 0), (332, .sipush 1100, 0, 0, 0)]),
  (364, [(335, .newarray .int, 0, 0, 0), (337, .putfield 113, 12, 20, 6056), (340, .aload_n 0, 0, 0, 0), (341, .iconst 4, 0, 0, 0), (342, .newarray .boolean, 0, 0, 0), (344, .putfield 116, 12, 21, 6057), (347, .aload_n 0, 0, 0, 0), (348, .bipush 8, 0, 0, 0), (350, .newarray .int, 0, 0, 0), (352, .putfield 120, 12, 22, 6058), (355, .aload_n 0, 0, 0, 0), (356, .bipush 6, 0, 0, 0), (358, .newarray .boolean, 0, 0, 0), (360, .putfield 123, 12, 23, 6059), (363, .aload_n 0, 0, 0, 0), (364, .bipush 64, 0, 0, 0)]),
  (398, [(366, .newarray .int, 0, 0, 0), (368, .putfield 126, 12, 24, 6060), (371, .aload_n 0, 0, 0, 0), (372, .bipush 7, 0, 0, 0), (374, .newarray .int, 0, 0, 0), (376, .putfield 129, 12, 25, 6061), (379, .aload_n 0, 0, 0, 0), (380, .sipush 5625, 0, 0, 0), (383, .newarray .boolean, 0, 0, 0), (385, .putfield 132, 12, 26, 6062), (388, .aload_n 0, 0, 0, 0), (389, .sipush 5625, 0, 0, 0), (392, .newarray .boolean, 0, 0, 0), (394, .putfield 135, 12, 27, 6063), (397, .aload_n 0, 0, 0, 0), (398, .bipush 8, 0, 0, 0)]),
  (430, [(400, .newarray .int, 0, 0, 0), (402, .putfield 138, 12, 28, 6064), (405, .aload_n 0, 0, 0, 0), (406, .bipush 7, 0, 0, 0), (408, .newarray .int, 0, 0, 0), (410, .putfield 141, 12, 29, 6065), (413, .aload_n 0, 0, 0, 0), (414, .bipush 7, 0, 0, 0), (416, .newarray .int, 0, 0, 0), (418, .putfield 144, 12, 30, 6066), (421, .aload_n 0, 0, 0, 0), (422, .iconst 0, 0, 0, 0), (423, .invokevirtual 147, 128, 2, 6032), (426, .aload_n 0, 0, 0, 0), (427, .getfield 95, 12, 10, 6046), (430, .iconst 0, 0, 0, 0)]),
  (440, [(431, .iconst 2, 0, 0, 0), (432, .iastore, 0, 0, 0), (433, .aload_n 0, 0, 0, 0), (434, .getfield 95, 12, 10, 6046), (437, .iconst 1, 0, 0, 0), (438, .iconst 2, 0, 0, 0), (439, .iastore, 0, 0, 0), (440, .return_, 0, 0, 0)])]
def mO128 : List (Nat × List (Nat × mOp)) := [(14, [(0, .iconst 0, 0, 0, 0), (1, .istore_n 2, 0, 0, 0), (2, .iload_n 2, 0, 0, 0), (3, .sipush 320, 0, 0, 0), (6, .if_icmp .ge 18, 24, 0, 0), (9, .aload_n 0, 0, 0, 0), (10, .getfield 95, 12, 10, 6046), (13, .iload_n 1, 0, 0, 0), (14, .iload_n 2, 0, 0, 0)]),
  (29, [(15, .iadd, 0, 0, 0), (16, .iconst 0, 0, 0, 0), (17, .iastore, 0, 0, 0), (18, .iinc 2 1, 0, 0, 0), (21, .goto (-19), 2, 0, 0), (24, .aload_n 0, 0, 0, 0), (25, .getfield 95, 12, 10, 6046), (28, .iload_n 1, 0, 0, 0), (29, .iconst 4, 0, 0, 0)]),
  (41, [(30, .iadd, 0, 0, 0), (31, .bipush 10, 0, 0, 0), (33, .iastore, 0, 0, 0), (34, .aload_n 0, 0, 0, 0), (35, .getfield 95, 12, 10, 6046), (38, .iload_n 1, 0, 0, 0), (39, .iconst 5, 0, 0, 0), (40, .iadd, 0, 0, 0), (41, .bipush 20, 0, 0, 0)]),
  (54, [(43, .iastore, 0, 0, 0), (44, .aload_n 0, 0, 0, 0), (45, .getfield 95, 12, 10, 6046), (48, .iload_n 1, 0, 0, 0), (49, .bipush 6, 0, 0, 0), (51, .iadd, 0, 0, 0), (52, .iconst (-1), 0, 0, 0), (53, .iastore, 0, 0, 0), (54, .aload_n 0, 0, 0, 0)]),
  (66, [(55, .getfield 95, 12, 10, 6046), (58, .iload_n 1, 0, 0, 0), (59, .bipush 6, 0, 0, 0), (61, .iadd, 0, 0, 0), (62, .iconst 1, 0, 0, 0), (63, .iadd, 0, 0, 0), (64, .iconst (-1), 0, 0, 0), (65, .iastore, 0, 0, 0), (66, .iconst 0, 0, 0, 0)]),
  (82, [(67, .istore_n 2, 0, 0, 0), (68, .iload_n 2, 0, 0, 0), (69, .bipush 6, 0, 0, 0), (71, .if_icmp .ge 42, 113, 0, 0), (74, .aload_n 0, 0, 0, 0), (75, .getfield 95, 12, 10, 6046), (78, .iload_n 1, 0, 0, 0), (79, .sipush 290, 0, 0, 0), (82, .iadd, 0, 0, 0)]),
  (93, [(83, .iconst 3, 0, 0, 0), (84, .iload_n 2, 0, 0, 0), (85, .imul, 0, 0, 0), (86, .iadd, 0, 0, 0), (87, .iconst 3, 0, 0, 0), (88, .iastore, 0, 0, 0), (89, .aload_n 0, 0, 0, 0), (90, .getfield 95, 12, 10, 6046), (93, .iload_n 1, 0, 0, 0)]),
  (104, [(94, .sipush 290, 0, 0, 0), (97, .iadd, 0, 0, 0), (98, .iconst 3, 0, 0, 0), (99, .iload_n 2, 0, 0, 0), (100, .imul, 0, 0, 0), (101, .iadd, 0, 0, 0), (102, .iconst 1, 0, 0, 0), (103, .iadd, 0, 0, 0), (104, .bipush 20, 0, 0, 0)]),
  (113, [(106, .iastore, 0, 0, 0), (107, .iinc 2 1, 0, 0, 0), (110, .goto (-42), 68, 0, 0), (113, .return_, 0, 0, 0)])]
def mO129 : List (Nat × List (Nat × mOp)) := [(19, [(0, .aload_n 0, 0, 0, 0), (1, .iconst 0, 0, 0, 0), (2, .putfield 1, 12, 0, 6036), (5, .aload_n 0, 0, 0, 0), (6, .invokevirtual 199, 130, 1, 6144), (9, .aload_n 0, 0, 0, 0), (10, .iconst 0, 0, 0, 0), (11, .putfield 202, 12, 13, 6049), (14, .aload_n 0, 0, 0, 0), (15, .iconst 0, 0, 0, 0), (16, .putfield 205, 12, 15, 6051), (19, .aload_n 0, 0, 0, 0)]),
  (43, [(20, .iconst 0, 0, 0, 0), (21, .putfield 208, 12, 16, 6052), (24, .aload_n 0, 0, 0, 0), (25, .sipush 320, 0, 0, 0), (28, .invokevirtual 147, 128, 2, 6032), (31, .aload_n 0, 0, 0, 0), (32, .iconst 0, 0, 0, 0), (33, .invokevirtual 192, 135, 2, 6163), (36, .aload_n 0, 0, 0, 0), (37, .getfield 95, 12, 10, 6046), (40, .sipush 320, 0, 0, 0), (43, .aload_n 0, 0, 0, 0)]),
  (65, [(44, .iconst 2, 0, 0, 0), (45, .bipush 8, 0, 0, 0), (47, .invokevirtual 195, 139, 3, 6179), (50, .iastore, 0, 0, 0), (51, .aload_n 0, 0, 0, 0), (52, .getfield 95, 12, 10, 6046), (55, .sipush 321, 0, 0, 0), (58, .aload_n 0, 0, 0, 0), (59, .iconst 2, 0, 0, 0), (60, .bipush 8, 0, 0, 0), (62, .invokevirtual 195, 139, 3, 6179), (65, .iastore, 0, 0, 0)]),
  (88, [(66, .aload_n 0, 0, 0, 0), (67, .bipush 59, 0, 0, 0), (69, .invokevirtual 211, 140, 2, 6183), (72, .aload_n 0, 0, 0, 0), (73, .getfield 177, 12, 8, 6044), (76, .ifCond .ne 28, 104, 0, 0), (79, .aload_n 0, 0, 0, 0), (80, .getfield 24, 12, 4, 6040), (83, .aload_n 0, 0, 0, 0), (84, .getfield 174, 12, 7, 6043), (87, .iaload, 0, 0, 0), (88, .ifCond .eq 16, 104, 0, 0)]),
  (115, [(91, .aload_n 0, 0, 0, 0), (92, .invokevirtual 214, 142, 1, 6191), (95, .aload_n 0, 0, 0, 0), (96, .bipush 59, 0, 0, 0), (98, .invokevirtual 211, 140, 2, 6183), (101, .goto (-29), 72, 0, 0), (104, .aload_n 0, 0, 0, 0), (105, .getfield 177, 12, 8, 6044), (108, .ifCond .le 8, 116, 0, 0), (111, .aload_n 0, 0, 0, 0), (112, .getfield 177, 12, 8, 6044), (115, .ireturn, 0, 0, 0)]),
  (133, [(116, .aload_n 0, 0, 0, 0), (117, .iconst 1, 0, 0, 0), (118, .iconst 0, 0, 0, 0), (119, .invokevirtual 217, 157, 3, 7011), (122, .iconst 0, 0, 0, 0), (123, .istore_n 1, 0, 0, 0), (124, .iload_n 1, 0, 0, 0), (125, .aload_n 0, 0, 0, 0), (126, .getfield 202, 12, 13, 6049), (129, .if_icmp .ge 41, 170, 0, 0), (132, .aload_n 0, 0, 0, 0), (133, .getfield 98, 12, 11, 6047)]),
  (153, [(136, .iload_n 1, 0, 0, 0), (137, .aload_n 0, 0, 0, 0), (138, .getfield 98, 12, 11, 6047), (141, .sipush 1100, 0, 0, 0), (144, .iload_n 1, 0, 0, 0), (145, .iadd, 0, 0, 0), (146, .iaload, 0, 0, 0), (147, .iastore, 0, 0, 0), (148, .aload_n 0, 0, 0, 0), (149, .getfield 101, 12, 12, 6048), (152, .iload_n 1, 0, 0, 0), (153, .aload_n 0, 0, 0, 0)]),
  (173, [(154, .getfield 101, 12, 12, 6048), (157, .sipush 1100, 0, 0, 0), (160, .iload_n 1, 0, 0, 0), (161, .iadd, 0, 0, 0), (162, .iaload, 0, 0, 0), (163, .iastore, 0, 0, 0), (164, .iinc 1 1, 0, 0, 0), (167, .goto (-43), 124, 0, 0), (170, .iconst 0, 0, 0, 0), (171, .istore_n 1, 0, 0, 0), (172, .iload_n 1, 0, 0, 0), (173, .aload_n 0, 0, 0, 0)]),
  (193, [(174, .invokevirtual 221, 158, 1, 7015), (177, .if_icmp .ge 48, 225, 0, 0), (180, .aload_n 0, 0, 0, 0), (181, .getfield 95, 12, 10, 6046), (184, .sipush 290, 0, 0, 0), (187, .iconst 3, 0, 0, 0), (188, .iload_n 1, 0, 0, 0), (189, .imul, 0, 0, 0), (190, .iadd, 0, 0, 0), (191, .iconst 2, 0, 0, 0), (192, .iadd, 0, 0, 0), (193, .aload_n 0, 0, 0, 0)]),
  (213, [(194, .iload_n 1, 0, 0, 0), (195, .invokevirtual 225, 160, 2, 7023), (198, .aload_n 0, 0, 0, 0), (199, .getfield 95, 12, 10, 6046), (202, .sipush 290, 0, 0, 0), (205, .iconst 3, 0, 0, 0), (206, .iload_n 1, 0, 0, 0), (207, .imul, 0, 0, 0), (208, .iadd, 0, 0, 0), (209, .iaload, 0, 0, 0), (210, .if_icmp .le 7, 217, 0, 0), (213, .iconst 1, 0, 0, 0)]),
  (233, [(214, .goto 4, 218, 0, 0), (217, .iconst 0, 0, 0, 0), (218, .iastore, 0, 0, 0), (219, .iinc 1 1, 0, 0, 0), (222, .goto (-50), 172, 0, 0), (225, .iconst 0, 0, 0, 0), (226, .istore_n 1, 0, 0, 0), (227, .iload_n 1, 0, 0, 0), (228, .iconst 4, 0, 0, 0), (229, .if_icmp .ge 16, 245, 0, 0), (232, .aload_n 0, 0, 0, 0), (233, .getfield 116, 12, 21, 6057)]),
  (246, [(236, .iload_n 1, 0, 0, 0), (237, .iconst 0, 0, 0, 0), (238, .bastore, 0, 0, 0), (239, .iinc 1 1, 0, 0, 0), (242, .goto (-15), 227, 0, 0), (245, .iconst 0, 0, 0, 0), (246, .ireturn, 0, 0, 0)])]
def mO130 : List (Nat × List (Nat × mOp)) := [(18, [(0, .aload_n 0, 0, 0, 0), (1, .aload_n 0, 0, 0, 0), (2, .getfield 11, 12, 2, 6038), (5, .putfield 155, 12, 3, 6039), (8, .aload_n 0, 0, 0, 0), (9, .iconst 0, 0, 0, 0), (10, .putfield 11, 12, 2, 6038), (13, .iconst 0, 0, 0, 0), (14, .istore_n 1, 0, 0, 0), (15, .iconst 0, 0, 0, 0), (16, .istore_n 2, 0, 0, 0), (17, .iload_n 2, 0, 0, 0), (18, .aload_n 0, 0, 0, 0)]),
  (41, [(19, .getfield 155, 12, 3, 6039), (22, .if_icmp .ge 257, 279, 0, 0), (25, .aload_n 0, 0, 0, 0), (26, .getfield 14, 12, 1, 6037), (29, .iload_n 2, 0, 0, 0), (30, .iaload, 0, 0, 0), (31, .istore_n 3, 0, 0, 0), (32, .iload_n 3, 0, 0, 0), (33, .bipush 10, 0, 0, 0), (35, .if_icmp .eq 9, 44, 0, 0), (38, .iload_n 3, 0, 0, 0), (39, .bipush 32, 0, 0, 0), (41, .if_icmp .ne 9, 50, 0, 0)]),
  (64, [(44, .iinc 2 1, 0, 0, 0), (47, .goto (-30), 17, 0, 0), (50, .iload_n 2, 0, 0, 0), (51, .istore 4, 0, 0, 0), (53, .lconst 0, 0, 0, 0), (54, .lstore 5, 0, 0, 0), (56, .aload_n 0, 0, 0, 0), (57, .getfield 27, 12, 5, 6041), (60, .iload_n 1, 0, 0, 0), (61, .iload_n 2, 0, 0, 0), (62, .iastore, 0, 0, 0), (63, .iload_n 3, 0, 0, 0), (64, .invokestatic 151, 131, 1, 6148)]),
  (91, [(67, .ifCond .eq 85, 152, 0, 0), (70, .iload_n 2, 0, 0, 0), (71, .aload_n 0, 0, 0, 0), (72, .getfield 155, 12, 3, 6039), (75, .if_icmp .ge 54, 129, 0, 0), (78, .aload_n 0, 0, 0, 0), (79, .getfield 14, 12, 1, 6037), (82, .iload_n 2, 0, 0, 0), (83, .iaload, 0, 0, 0), (84, .invokestatic 151, 131, 1, 6148), (87, .ifCond .eq 42, 129, 0, 0), (90, .iload_n 2, 0, 0, 0), (91, .iload 4, 0, 0, 0)]),
  (115, [(93, .isub, 0, 0, 0), (94, .bipush 8, 0, 0, 0), (96, .if_icmp .ge 23, 119, 0, 0), (99, .ldc2_w 158, 0, 6151, 37), (102, .lload 5, 0, 0, 0), (104, .lmul, 0, 0, 0), (105, .aload_n 0, 0, 0, 0), (106, .getfield 14, 12, 1, 6037), (109, .iload_n 2, 0, 0, 0), (110, .iaload, 0, 0, 0), (111, .invokestatic 160, 132, 1, 6152), (114, .i2l, 0, 0, 0), (115, .ladd, 0, 0, 0)]),
  (140, [(116, .goto 5, 121, 0, 0), (119, .lload 5, 0, 0, 0), (121, .lstore 5, 0, 0, 0), (123, .iinc 2 1, 0, 0, 0), (126, .goto (-56), 70, 0, 0), (129, .aload_n 0, 0, 0, 0), (130, .getfield 24, 12, 4, 6040), (133, .iload_n 1, 0, 0, 0), (134, .iload_n 2, 0, 0, 0), (135, .iload 4, 0, 0, 0), (137, .isub, 0, 0, 0), (138, .bipush 8, 0, 0, 0), (140, .if_icmp .le 7, 147, 0, 0)]),
  (167, [(143, .iconst 4, 0, 0, 0), (144, .goto 4, 148, 0, 0), (147, .iconst 1, 0, 0, 0), (148, .iastore, 0, 0, 0), (149, .goto 116, 265, 0, 0), (152, .iload_n 3, 0, 0, 0), (153, .invokestatic 164, 133, 1, 6155), (156, .ifCond .eq 84, 240, 0, 0), (159, .iload_n 2, 0, 0, 0), (160, .aload_n 0, 0, 0, 0), (161, .getfield 155, 12, 3, 6039), (164, .if_icmp .ge 54, 218, 0, 0), (167, .aload_n 0, 0, 0, 0)]),
  (192, [(168, .getfield 14, 12, 1, 6037), (171, .iload_n 2, 0, 0, 0), (172, .iaload, 0, 0, 0), (173, .invokestatic 164, 133, 1, 6155), (176, .ifCond .eq 42, 218, 0, 0), (179, .iload_n 2, 0, 0, 0), (180, .iload 4, 0, 0, 0), (182, .isub, 0, 0, 0), (183, .iconst 4, 0, 0, 0), (184, .if_icmp .ge 24, 208, 0, 0), (187, .ldc2_w 167, 0, 6158, 10), (190, .lload 5, 0, 0, 0), (192, .lmul, 0, 0, 0)]),
  (215, [(193, .aload_n 0, 0, 0, 0), (194, .getfield 14, 12, 1, 6037), (197, .iload_n 2, 0, 0, 0), (198, .iaload, 0, 0, 0), (199, .i2l, 0, 0, 0), (200, .ladd, 0, 0, 0), (201, .ldc2_w 169, 0, 6159, 48), (204, .lsub, 0, 0, 0), (205, .goto 5, 210, 0, 0), (208, .lload 5, 0, 0, 0), (210, .lstore 5, 0, 0, 0), (212, .iinc 2 1, 0, 0, 0), (215, .goto (-56), 159, 0, 0)]),
  (237, [(218, .aload_n 0, 0, 0, 0), (219, .getfield 24, 12, 4, 6040), (222, .iload_n 1, 0, 0, 0), (223, .iload_n 2, 0, 0, 0), (224, .iload 4, 0, 0, 0), (226, .isub, 0, 0, 0), (227, .iconst 4, 0, 0, 0), (228, .if_icmp .le 7, 235, 0, 0), (231, .iconst 4, 0, 0, 0), (232, .goto 4, 236, 0, 0), (235, .iconst 2, 0, 0, 0), (236, .iastore, 0, 0, 0), (237, .goto 28, 265, 0, 0)]),
  (261, [(240, .iload_n 3, 0, 0, 0), (241, .i2l, 0, 0, 0), (242, .lstore 5, 0, 0, 0), (244, .aload_n 0, 0, 0, 0), (245, .getfield 24, 12, 4, 6040), (248, .iload_n 1, 0, 0, 0), (249, .iload_n 3, 0, 0, 0), (250, .invokestatic 171, 134, 1, 6160), (253, .ifCond .eq 7, 260, 0, 0), (256, .iconst 3, 0, 0, 0), (257, .goto 4, 261, 0, 0), (260, .iconst 4, 0, 0, 0), (261, .iastore, 0, 0, 0)]),
  (285, [(262, .iinc 2 1, 0, 0, 0), (265, .aload_n 0, 0, 0, 0), (266, .getfield 30, 12, 6, 6042), (269, .iload_n 1, 0, 0, 0), (270, .lload 5, 0, 0, 0), (272, .lastore, 0, 0, 0), (273, .iinc 1 1, 0, 0, 0), (276, .goto (-259), 17, 0, 0), (279, .aload_n 0, 0, 0, 0), (280, .getfield 24, 12, 4, 6040), (283, .iload_n 1, 0, 0, 0), (284, .iconst 0, 0, 0, 0), (285, .iastore, 0, 0, 0)]),
  (306, [(286, .aload_n 0, 0, 0, 0), (287, .getfield 27, 12, 5, 6041), (290, .iload_n 1, 0, 0, 0), (291, .aload_n 0, 0, 0, 0), (292, .getfield 155, 12, 3, 6039), (295, .iastore, 0, 0, 0), (296, .aload_n 0, 0, 0, 0), (297, .iconst 0, 0, 0, 0), (298, .putfield 174, 12, 7, 6043), (301, .aload_n 0, 0, 0, 0), (302, .iconst 0, 0, 0, 0), (303, .putfield 177, 12, 8, 6044), (306, .return_, 0, 0, 0)])]
def mO131 : List (Nat × List (Nat × mOp)) := [(6, [(0, .iload_n 0, 0, 0, 0), (1, .bipush 97, 0, 0, 0), (3, .if_icmp .lt 13, 16, 0, 0), (6, .iload_n 0, 0, 0, 0)]),
  (13, [(7, .bipush 122, 0, 0, 0), (9, .if_icmp .gt 7, 16, 0, 0), (12, .iconst 1, 0, 0, 0), (13, .goto 4, 17, 0, 0)]),
  (17, [(16, .iconst 0, 0, 0, 0), (17, .ireturn, 1, 0, 0)])]
def mO132 : List (Nat × List (Nat × mOp)) := [(7, [(0, .iload_n 0, 0, 0, 0), (1, .invokestatic 151, 131, 1, 6148), (4, .ifCond .eq 10, 14, 0, 0), (7, .iload_n 0, 0, 0, 0)]),
  (14, [(8, .bipush 96, 0, 0, 0), (10, .isub, 0, 0, 0), (11, .goto 7, 18, 0, 0), (14, .iload_n 0, 0, 0, 0)]),
  (18, [(15, .bipush 21, 0, 0, 0), (17, .isub, 0, 0, 0), (18, .ireturn, 0, 0, 0)])]
def mO133 : List (Nat × List (Nat × mOp)) := [(6, [(0, .iload_n 0, 0, 0, 0), (1, .bipush 48, 0, 0, 0), (3, .if_icmp .lt 13, 16, 0, 0), (6, .iload_n 0, 0, 0, 0)]),
  (13, [(7, .bipush 57, 0, 0, 0), (9, .if_icmp .gt 7, 16, 0, 0), (12, .iconst 1, 0, 0, 0), (13, .goto 4, 17, 0, 0)]),
  (17, [(16, .iconst 0, 0, 0, 0), (17, .ireturn, 1, 0, 0)])]
def mO134 : List (Nat × List (Nat × mOp)) := [(9, [(0, .iload_n 0, 0, 0, 0), (1, .bipush 40, 0, 0, 0), (3, .if_icmp .eq 45, 48, 0, 0), (6, .iload_n 0, 0, 0, 0), (7, .bipush 41, 0, 0, 0), (9, .if_icmp .eq 39, 48, 0, 0)]),
  (21, [(12, .iload_n 0, 0, 0, 0), (13, .bipush 59, 0, 0, 0), (15, .if_icmp .eq 33, 48, 0, 0), (18, .iload_n 0, 0, 0, 0), (19, .bipush 61, 0, 0, 0), (21, .if_icmp .eq 27, 48, 0, 0)]),
  (33, [(24, .iload_n 0, 0, 0, 0), (25, .bipush 60, 0, 0, 0), (27, .if_icmp .eq 21, 48, 0, 0), (30, .iload_n 0, 0, 0, 0), (31, .bipush 43, 0, 0, 0), (33, .if_icmp .eq 15, 48, 0, 0)]),
  (45, [(36, .iload_n 0, 0, 0, 0), (37, .bipush 45, 0, 0, 0), (39, .if_icmp .eq 9, 48, 0, 0), (42, .iload_n 0, 0, 0, 0), (43, .bipush 42, 0, 0, 0), (45, .if_icmp .ne 7, 52, 0, 0)]),
  (53, [(48, .iconst 1, 0, 0, 0), (49, .goto 4, 53, 0, 0), (52, .iconst 0, 0, 0, 0), (53, .ireturn, 1, 0, 0)])]
def mO135 : List (Nat × List (Nat × mOp)) := [(2, [(0, .aload_n 0, 0, 0, 0), (1, .iload_n 1, 0, 0, 0), (2, .invokevirtual 189, 136, 2, 6167)]),
  (9, [(5, .ifCond .ne 8, 13, 0, 0), (8, .aload_n 0, 0, 0, 0), (9, .iconst 1, 0, 0, 0)]),
  (13, [(10, .invokevirtual 183, 138, 2, 6175), (13, .return_, 0, 0, 0)])]
def mO136 : List (Nat × List (Nat × mOp)) := [(5, [(0, .aload_n 0, 0, 0, 0), (1, .iload_n 1, 0, 0, 0), (2, .invokevirtual 186, 137, 2, 6171), (5, .istore_n 2, 0, 0, 0)]),
  (11, [(6, .aload_n 0, 0, 0, 0), (7, .dup, 0, 0, 0), (8, .getfield 174, 12, 7, 6043), (11, .iload_n 2, 0, 0, 0)]),
  (19, [(12, .ifCond .eq 7, 19, 0, 0), (15, .iconst 1, 0, 0, 0), (16, .goto 4, 20, 0, 0), (19, .iconst 0, 0, 0, 0)]),
  (25, [(20, .iadd, 0, 0, 0), (21, .putfield 174, 12, 7, 6043), (24, .iload_n 2, 0, 0, 0), (25, .ireturn, 1, 0, 0)])]
def mO137 : List (Nat × List (Nat × mOp)) := [(8, [(0, .aload_n 0, 0, 0, 0), (1, .getfield 177, 12, 8, 6044), (4, .ifCond .ne 39, 43, 0, 0), (7, .aload_n 0, 0, 0, 0), (8, .getfield 24, 12, 4, 6040)]),
  (17, [(11, .aload_n 0, 0, 0, 0), (12, .getfield 174, 12, 7, 6043), (15, .iaload, 0, 0, 0), (16, .iconst 1, 0, 0, 0), (17, .if_icmp .ne 26, 43, 0, 0)]),
  (28, [(20, .aload_n 0, 0, 0, 0), (21, .getfield 30, 12, 6, 6042), (24, .aload_n 0, 0, 0, 0), (25, .getfield 174, 12, 7, 6043), (28, .laload, 0, 0, 0)]),
  (35, [(29, .aload_n 0, 0, 0, 0), (30, .getfield 92, 12, 9, 6045), (33, .iload_n 1, 0, 0, 0), (34, .laload, 0, 0, 0), (35, .lcmp, 0, 0, 0)]),
  (44, [(36, .ifCond .ne 7, 43, 0, 0), (39, .iconst 1, 0, 0, 0), (40, .goto 4, 44, 0, 0), (43, .iconst 0, 0, 0, 0), (44, .ireturn, 1, 0, 0)])]
def mO138 : List (Nat × List (Nat × mOp)) := [(7, [(0, .aload_n 0, 0, 0, 0), (1, .getfield 177, 12, 8, 6044), (4, .ifCond .ne 21, 25, 0, 0), (7, .aload_n 0, 0, 0, 0)]),
  (12, [(8, .iload_n 1, 0, 0, 0), (9, .bipush 16, 0, 0, 0), (11, .aload_n 0, 0, 0, 0), (12, .getfield 27, 12, 5, 6041)]),
  (20, [(15, .aload_n 0, 0, 0, 0), (16, .getfield 174, 12, 7, 6043), (19, .iaload, 0, 0, 0), (20, .imul, 0, 0, 0)]),
  (25, [(21, .iadd, 0, 0, 0), (22, .putfield 177, 12, 8, 6044), (25, .return_, 0, 0, 0)])]
def mO139 : List (Nat × List (Nat × mOp)) := [(15, [(0, .aload_n 0, 0, 0, 0), (1, .getfield 177, 12, 8, 6044), (4, .ifCond .ne 24, 28, 0, 0), (7, .aload_n 0, 0, 0, 0), (8, .getfield 24, 12, 4, 6040), (11, .aload_n 0, 0, 0, 0), (12, .getfield 174, 12, 7, 6043), (15, .iaload, 0, 0, 0)]),
  (29, [(16, .iconst 2, 0, 0, 0), (17, .if_icmp .eq 11, 28, 0, 0), (20, .aload_n 0, 0, 0, 0), (21, .iconst 1, 0, 0, 0), (22, .invokevirtual 183, 138, 2, 6175), (25, .goto 45, 70, 0, 0), (28, .aload_n 0, 0, 0, 0), (29, .getfield 177, 12, 8, 6044)]),
  (45, [(32, .ifCond .ne 38, 70, 0, 0), (35, .aload_n 0, 0, 0, 0), (36, .getfield 30, 12, 6, 6042), (39, .aload_n 0, 0, 0, 0), (40, .getfield 174, 12, 7, 6043), (43, .laload, 0, 0, 0), (44, .iload_n 1, 0, 0, 0), (45, .i2l, 0, 0, 0)]),
  (59, [(46, .lcmp, 0, 0, 0), (47, .ifCond .lt 18, 65, 0, 0), (50, .aload_n 0, 0, 0, 0), (51, .getfield 30, 12, 6, 6042), (54, .aload_n 0, 0, 0, 0), (55, .getfield 174, 12, 7, 6043), (58, .laload, 0, 0, 0), (59, .iload_n 2, 0, 0, 0)]),
  (71, [(60, .i2l, 0, 0, 0), (61, .lcmp, 0, 0, 0), (62, .ifCond .le 8, 70, 0, 0), (65, .aload_n 0, 0, 0, 0), (66, .iconst 4, 0, 0, 0), (67, .invokevirtual 183, 138, 2, 6175), (70, .aload_n 0, 0, 0, 0), (71, .getfield 177, 12, 8, 6044)]),
  (85, [(74, .ifCond .le 5, 79, 0, 0), (77, .iconst 0, 0, 0, 0), (78, .ireturn, 0, 0, 0), (79, .aload_n 0, 0, 0, 0), (80, .dup, 0, 0, 0), (81, .getfield 174, 12, 7, 6043), (84, .iconst 1, 0, 0, 0), (85, .iadd, 0, 0, 0)]),
  (99, [(86, .putfield 174, 12, 7, 6043), (89, .aload_n 0, 0, 0, 0), (90, .getfield 30, 12, 6, 6042), (93, .aload_n 0, 0, 0, 0), (94, .getfield 174, 12, 7, 6043), (97, .iconst 1, 0, 0, 0), (98, .isub, 0, 0, 0), (99, .laload, 0, 0, 0)]),
  (101, [(100, .l2i, 0, 0, 0), (101, .ireturn, 0, 0, 0)])]
def mO140 : List (Nat × List (Nat × mOp)) := [(5, [(0, .aload_n 0, 0, 0, 0), (1, .iload_n 1, 0, 0, 0), (2, .invokevirtual 180, 141, 2, 6187), (5, .ifCond .eq 16, 21, 0, 0)]),
  (13, [(8, .aload_n 0, 0, 0, 0), (9, .dup, 0, 0, 0), (10, .getfield 174, 12, 7, 6043), (13, .iconst 1, 0, 0, 0)]),
  (21, [(14, .iadd, 0, 0, 0), (15, .putfield 174, 12, 7, 6043), (18, .goto 8, 26, 0, 0), (21, .aload_n 0, 0, 0, 0)]),
  (26, [(22, .iconst 1, 0, 0, 0), (23, .invokevirtual 183, 138, 2, 6175), (26, .return_, 0, 0, 0)])]
def mO141 : List (Nat × List (Nat × mOp)) := [(8, [(0, .aload_n 0, 0, 0, 0), (1, .getfield 177, 12, 8, 6044), (4, .ifCond .ne 35, 39, 0, 0), (7, .aload_n 0, 0, 0, 0), (8, .getfield 24, 12, 4, 6040)]),
  (17, [(11, .aload_n 0, 0, 0, 0), (12, .getfield 174, 12, 7, 6043), (15, .iaload, 0, 0, 0), (16, .iconst 3, 0, 0, 0), (17, .if_icmp .ne 22, 39, 0, 0)]),
  (28, [(20, .aload_n 0, 0, 0, 0), (21, .getfield 30, 12, 6, 6042), (24, .aload_n 0, 0, 0, 0), (25, .getfield 174, 12, 7, 6043), (28, .laload, 0, 0, 0)]),
  (35, [(29, .iload_n 1, 0, 0, 0), (30, .i2l, 0, 0, 0), (31, .lcmp, 0, 0, 0), (32, .ifCond .ne 7, 39, 0, 0), (35, .iconst 1, 0, 0, 0)]),
  (40, [(36, .goto 4, 40, 0, 0), (39, .iconst 0, 0, 0, 0), (40, .ireturn, 1, 0, 0)])]
def mO142 : List (Nat × List (Nat × mOp)) := [(10, [(0, .aload_n 0, 0, 0, 0), (1, .iconst 1, 0, 0, 0), (2, .invokevirtual 186, 137, 2, 6171), (5, .ifCond .ne 11, 16, 0, 0), (8, .aload_n 0, 0, 0, 0), (9, .iconst 2, 0, 0, 0), (10, .invokevirtual 186, 137, 2, 6171)]),
  (25, [(13, .ifCond .eq 10, 23, 0, 0), (16, .aload_n 0, 0, 0, 0), (17, .invokevirtual 228, 143, 1, 6195), (20, .goto 82, 102, 0, 0), (23, .aload_n 0, 0, 0, 0), (24, .iconst 4, 0, 0, 0), (25, .invokevirtual 186, 137, 2, 6171)]),
  (41, [(28, .ifCond .eq 10, 38, 0, 0), (31, .aload_n 0, 0, 0, 0), (32, .invokevirtual 231, 146, 1, 6207), (35, .goto 67, 102, 0, 0), (38, .aload_n 0, 0, 0, 0), (39, .bipush 9, 0, 0, 0), (41, .invokevirtual 186, 137, 2, 6171)]),
  (57, [(44, .ifCond .eq 10, 54, 0, 0), (47, .aload_n 0, 0, 0, 0), (48, .invokevirtual 234, 148, 1, 6215), (51, .goto 51, 102, 0, 0), (54, .aload_n 0, 0, 0, 0), (55, .bipush 11, 0, 0, 0), (57, .invokevirtual 186, 137, 2, 6171)]),
  (73, [(60, .ifCond .ne 30, 90, 0, 0), (63, .aload_n 0, 0, 0, 0), (64, .bipush 12, 0, 0, 0), (66, .invokevirtual 186, 137, 2, 6171), (69, .ifCond .ne 21, 90, 0, 0), (72, .aload_n 0, 0, 0, 0), (73, .bipush 13, 0, 0, 0)]),
  (90, [(75, .invokevirtual 186, 137, 2, 6171), (78, .ifCond .ne 12, 90, 0, 0), (81, .aload_n 0, 0, 0, 0), (82, .bipush 14, 0, 0, 0), (84, .invokevirtual 186, 137, 2, 6171), (87, .ifCond .eq 10, 97, 0, 0), (90, .aload_n 0, 0, 0, 0)]),
  (102, [(91, .invokevirtual 237, 149, 1, 6219), (94, .goto 8, 102, 0, 0), (97, .aload_n 0, 0, 0, 0), (98, .iconst 1, 0, 0, 0), (99, .invokevirtual 183, 138, 2, 6175), (102, .return_, 0, 0, 0)])]
def mO143 : List (Nat × List (Nat × mOp)) := [(12, [(0, .aload_n 0, 0, 0, 0), (1, .iconst 1, 0, 0, 0), (2, .invokevirtual 186, 137, 2, 6171), (5, .istore_n 1, 0, 0, 0), (6, .aload_n 0, 0, 0, 0), (7, .dup, 0, 0, 0), (8, .getfield 174, 12, 7, 6043), (11, .iconst 1, 0, 0, 0), (12, .iadd, 0, 0, 0)]),
  (30, [(13, .putfield 174, 12, 7, 6043), (16, .aload_n 0, 0, 0, 0), (17, .iload_n 1, 0, 0, 0), (18, .ifCond .eq 8, 26, 0, 0), (21, .bipush 7, 0, 0, 0), (23, .goto 4, 27, 0, 0), (26, .iconst 3, 0, 0, 0), (27, .invokevirtual 240, 144, 2, 6199), (30, .istore_n 2, 0, 0, 0)]),
  (44, [(31, .iload_n 1, 0, 0, 0), (32, .ifCond .eq 7, 39, 0, 0), (35, .iconst 1, 0, 0, 0), (36, .goto 11, 47, 0, 0), (39, .aload_n 0, 0, 0, 0), (40, .iconst 3, 0, 0, 0), (41, .iconst 1, 0, 0, 0), (42, .bipush 99, 0, 0, 0), (44, .invokevirtual 243, 145, 4, 6203)]),
  (61, [(47, .istore_n 3, 0, 0, 0), (48, .aload_n 0, 0, 0, 0), (49, .getfield 177, 12, 8, 6044), (52, .ifCond .ne 64, 116, 0, 0), (55, .sipush 330, 0, 0, 0), (58, .iconst 3, 0, 0, 0), (59, .iload_n 2, 0, 0, 0), (60, .imul, 0, 0, 0), (61, .iadd, 0, 0, 0)]),
  (78, [(62, .istore 4, 0, 0, 0), (64, .aload_n 0, 0, 0, 0), (65, .getfield 95, 12, 10, 6046), (68, .iload 4, 0, 0, 0), (70, .iload_n 1, 0, 0, 0), (71, .ifCond .eq 7, 78, 0, 0), (74, .iconst 1, 0, 0, 0), (75, .goto 4, 79, 0, 0), (78, .iconst 0, 0, 0, 0)]),
  (92, [(79, .iastore, 0, 0, 0), (80, .aload_n 0, 0, 0, 0), (81, .getfield 95, 12, 10, 6046), (84, .iload 4, 0, 0, 0), (86, .iconst 1, 0, 0, 0), (87, .iadd, 0, 0, 0), (88, .iload_n 1, 0, 0, 0), (89, .ifCond .eq 7, 96, 0, 0), (92, .iconst 0, 0, 0, 0)]),
  (106, [(93, .goto 4, 97, 0, 0), (96, .iload_n 3, 0, 0, 0), (97, .iastore, 0, 0, 0), (98, .aload_n 0, 0, 0, 0), (99, .getfield 95, 12, 10, 6046), (102, .iload 4, 0, 0, 0), (104, .iconst 2, 0, 0, 0), (105, .iadd, 0, 0, 0), (106, .iload_n 1, 0, 0, 0)]),
  (116, [(107, .ifCond .eq 7, 114, 0, 0), (110, .iconst 0, 0, 0, 0), (111, .goto 4, 115, 0, 0), (114, .iload_n 3, 0, 0, 0), (115, .iastore, 0, 0, 0), (116, .return_, 0, 0, 0)])]
def mO144 : List (Nat × List (Nat × mOp)) := [(16, [(0, .aload_n 0, 0, 0, 0), (1, .iconst 0, 0, 0, 0), (2, .aload_n 0, 0, 0, 0), (3, .getfield 95, 12, 10, 6046), (6, .sipush 320, 0, 0, 0), (9, .iaload, 0, 0, 0), (10, .iconst 1, 0, 0, 0), (11, .isub, 0, 0, 0), (12, .invokevirtual 195, 139, 3, 6179), (15, .istore_n 2, 0, 0, 0), (16, .aload_n 0, 0, 0, 0)]),
  (34, [(17, .iconst 0, 0, 0, 0), (18, .aload_n 0, 0, 0, 0), (19, .getfield 95, 12, 10, 6046), (22, .sipush 321, 0, 0, 0), (25, .iaload, 0, 0, 0), (26, .iconst 1, 0, 0, 0), (27, .isub, 0, 0, 0), (28, .invokevirtual 195, 139, 3, 6179), (31, .istore_n 3, 0, 0, 0), (32, .bipush 8, 0, 0, 0), (34, .iload_n 3, 0, 0, 0)]),
  (52, [(35, .imul, 0, 0, 0), (36, .iload_n 2, 0, 0, 0), (37, .iadd, 0, 0, 0), (38, .istore 4, 0, 0, 0), (40, .aload_n 0, 0, 0, 0), (41, .getfield 177, 12, 8, 6044), (44, .ifCond .le 7, 51, 0, 0), (47, .iconst 0, 0, 0, 0), (48, .goto 40, 88, 0, 0), (51, .aload_n 0, 0, 0, 0), (52, .getfield 95, 12, 10, 6046)]),
  (72, [(55, .sipush 330, 0, 0, 0), (58, .iconst 3, 0, 0, 0), (59, .iload 4, 0, 0, 0), (61, .imul, 0, 0, 0), (62, .iadd, 0, 0, 0), (63, .iaload, 0, 0, 0), (64, .aload_n 0, 0, 0, 0), (65, .getfield 95, 12, 10, 6046), (68, .sipush 330, 0, 0, 0), (71, .iconst 3, 0, 0, 0), (72, .iload 4, 0, 0, 0)]),
  (88, [(74, .imul, 0, 0, 0), (75, .iadd, 0, 0, 0), (76, .iconst 1, 0, 0, 0), (77, .iadd, 0, 0, 0), (78, .iaload, 0, 0, 0), (79, .ifCond .le 7, 86, 0, 0), (82, .iconst 2, 0, 0, 0), (83, .goto 4, 87, 0, 0), (86, .iconst 0, 0, 0, 0), (87, .iadd, 0, 0, 0), (88, .istore 5, 0, 0, 0)]),
  (110, [(90, .iconst 0, 0, 0, 0), (91, .istore 6, 0, 0, 0), (93, .iload 6, 0, 0, 0), (95, .aload_n 0, 0, 0, 0), (96, .getfield 95, 12, 10, 6046), (99, .sipush 322, 0, 0, 0), (102, .iaload, 0, 0, 0), (103, .if_icmp .ge 63, 166, 0, 0), (106, .aload_n 0, 0, 0, 0), (107, .getfield 177, 12, 8, 6044), (110, .ifCond .ne 56, 166, 0, 0)]),
  (132, [(113, .sipush 522, 0, 0, 0), (116, .bipush 12, 0, 0, 0), (118, .iload 6, 0, 0, 0), (120, .imul, 0, 0, 0), (121, .iadd, 0, 0, 0), (122, .istore 7, 0, 0, 0), (124, .iload 5, 0, 0, 0), (126, .aload_n 0, 0, 0, 0), (127, .getfield 95, 12, 10, 6046), (130, .iload 7, 0, 0, 0), (132, .iconst 1, 0, 0, 0)]),
  (148, [(133, .iadd, 0, 0, 0), (134, .iaload, 0, 0, 0), (135, .iload_n 2, 0, 0, 0), (136, .if_icmp .ne 20, 156, 0, 0), (139, .aload_n 0, 0, 0, 0), (140, .getfield 95, 12, 10, 6046), (143, .iload 7, 0, 0, 0), (145, .iconst 2, 0, 0, 0), (146, .iadd, 0, 0, 0), (147, .iaload, 0, 0, 0), (148, .iload_n 3, 0, 0, 0)]),
  (169, [(149, .if_icmp .ne 7, 156, 0, 0), (152, .iconst 4, 0, 0, 0), (153, .goto 4, 157, 0, 0), (156, .iconst 0, 0, 0, 0), (157, .ior, 0, 0, 0), (158, .istore 5, 0, 0, 0), (160, .iinc 6 1, 0, 0, 0), (163, .goto (-70), 93, 0, 0), (166, .iload 5, 0, 0, 0), (168, .iload_n 1, 0, 0, 0), (169, .iand, 0, 0, 0)]),
  (188, [(170, .ifCond .eq 18, 188, 0, 0), (173, .aload_n 0, 0, 0, 0), (174, .dup, 0, 0, 0), (175, .getfield 174, 12, 7, 6043), (178, .iconst 1, 0, 0, 0), (179, .isub, 0, 0, 0), (180, .putfield 174, 12, 7, 6043), (183, .aload_n 0, 0, 0, 0), (184, .iconst 3, 0, 0, 0), (185, .invokevirtual 183, 138, 2, 6175), (188, .iload 4, 0, 0, 0)]),
  (190, [(190, .ireturn, 0, 0, 0)])]
def mO145 : List (Nat × List (Nat × mOp)) := [(2, [(0, .aload_n 0, 0, 0, 0), (1, .iload_n 1, 0, 0, 0), (2, .invokevirtual 192, 135, 2, 6163)]),
  (7, [(5, .aload_n 0, 0, 0, 0), (6, .iload_n 2, 0, 0, 0), (7, .iload_n 3, 0, 0, 0)]),
  (11, [(8, .invokevirtual 195, 139, 3, 6179), (11, .ireturn, 0, 0, 0)])]
def mO146 : List (Nat × List (Nat × mOp)) := [(22, [(0, .aload_n 0, 0, 0, 0), (1, .getfield 95, 12, 10, 6046), (4, .sipush 322, 0, 0, 0), (7, .iaload, 0, 0, 0), (8, .istore_n 1, 0, 0, 0), (9, .iload_n 1, 0, 0, 0), (10, .bipush 7, 0, 0, 0), (12, .if_icmp .ne 9, 21, 0, 0), (15, .aload_n 0, 0, 0, 0), (16, .iconst 5, 0, 0, 0), (17, .invokevirtual 183, 138, 2, 6175), (20, .return_, 0, 0, 0), (21, .aload_n 0, 0, 0, 0), (22, .dup, 0, 0, 0)]),
  (46, [(23, .getfield 174, 12, 7, 6043), (26, .iconst 1, 0, 0, 0), (27, .iadd, 0, 0, 0), (28, .putfield 174, 12, 7, 6043), (31, .aload_n 0, 0, 0, 0), (32, .invokevirtual 247, 147, 1, 6211), (35, .ifCond .ne 8, 43, 0, 0), (38, .aload_n 0, 0, 0, 0), (39, .iconst 1, 0, 0, 0), (40, .invokevirtual 183, 138, 2, 6175), (43, .iconst 0, 0, 0, 0), (44, .istore_n 2, 0, 0, 0), (45, .iload_n 2, 0, 0, 0), (46, .iload_n 1, 0, 0, 0)]),
  (72, [(47, .if_icmp .ge 40, 87, 0, 0), (50, .aload_n 0, 0, 0, 0), (51, .getfield 177, 12, 8, 6044), (54, .ifCond .ne 33, 87, 0, 0), (57, .aload_n 0, 0, 0, 0), (58, .getfield 104, 12, 14, 6050), (61, .iload_n 2, 0, 0, 0), (62, .laload, 0, 0, 0), (63, .aload_n 0, 0, 0, 0), (64, .getfield 30, 12, 6, 6042), (67, .aload_n 0, 0, 0, 0), (68, .getfield 174, 12, 7, 6043), (71, .laload, 0, 0, 0), (72, .lcmp, 0, 0, 0)]),
  (100, [(73, .ifCond .ne 8, 81, 0, 0), (76, .aload_n 0, 0, 0, 0), (77, .iconst 3, 0, 0, 0), (78, .invokevirtual 183, 138, 2, 6175), (81, .iinc 2 1, 0, 0, 0), (84, .goto (-39), 45, 0, 0), (87, .aload_n 0, 0, 0, 0), (88, .getfield 177, 12, 8, 6044), (91, .ifCond .le 4, 95, 0, 0), (94, .return_, 0, 0, 0), (95, .aload_n 0, 0, 0, 0), (96, .getfield 104, 12, 14, 6050), (99, .iload_n 1, 0, 0, 0), (100, .aload_n 0, 0, 0, 0)]),
  (122, [(101, .getfield 30, 12, 6, 6042), (104, .aload_n 0, 0, 0, 0), (105, .getfield 174, 12, 7, 6043), (108, .laload, 0, 0, 0), (109, .lastore, 0, 0, 0), (110, .aload_n 0, 0, 0, 0), (111, .dup, 0, 0, 0), (112, .getfield 174, 12, 7, 6043), (115, .iconst 1, 0, 0, 0), (116, .iadd, 0, 0, 0), (117, .putfield 174, 12, 7, 6043), (120, .iconst (-1), 0, 0, 0), (121, .istore_n 2, 0, 0, 0), (122, .iconst 0, 0, 0, 0)]),
  (145, [(123, .istore_n 3, 0, 0, 0), (124, .iload_n 3, 0, 0, 0), (125, .iconst 5, 0, 0, 0), (126, .if_icmp .ge 26, 152, 0, 0), (129, .aload_n 0, 0, 0, 0), (130, .bipush 15, 0, 0, 0), (132, .iload_n 3, 0, 0, 0), (133, .iadd, 0, 0, 0), (134, .invokevirtual 186, 137, 2, 6171), (137, .ifCond .eq 7, 144, 0, 0), (140, .iload_n 3, 0, 0, 0), (141, .goto 4, 145, 0, 0), (144, .iload_n 2, 0, 0, 0), (145, .istore_n 2, 0, 0, 0)]),
  (169, [(146, .iinc 3 1, 0, 0, 0), (149, .goto (-25), 124, 0, 0), (152, .iload_n 2, 0, 0, 0), (153, .ifCond .ge 9, 162, 0, 0), (156, .aload_n 0, 0, 0, 0), (157, .iconst 1, 0, 0, 0), (158, .invokevirtual 183, 138, 2, 6175), (161, .return_, 0, 0, 0), (162, .aload_n 0, 0, 0, 0), (163, .dup, 0, 0, 0), (164, .getfield 174, 12, 7, 6043), (167, .iconst 1, 0, 0, 0), (168, .iadd, 0, 0, 0), (169, .putfield 174, 12, 7, 6043)]),
  (193, [(172, .aload_n 0, 0, 0, 0), (173, .iconst 5, 0, 0, 0), (174, .invokevirtual 192, 135, 2, 6163), (177, .aload_n 0, 0, 0, 0), (178, .iconst 1, 0, 0, 0), (179, .invokevirtual 240, 144, 2, 6199), (182, .istore_n 3, 0, 0, 0), (183, .sipush 522, 0, 0, 0), (186, .bipush 12, 0, 0, 0), (188, .iload_n 1, 0, 0, 0), (189, .imul, 0, 0, 0), (190, .iadd, 0, 0, 0), (191, .istore 4, 0, 0, 0), (193, .aload_n 0, 0, 0, 0)]),
  (214, [(194, .getfield 95, 12, 10, 6046), (197, .iload 4, 0, 0, 0), (199, .iconst 0, 0, 0, 0), (200, .iadd, 0, 0, 0), (201, .iload_n 2, 0, 0, 0), (202, .iastore, 0, 0, 0), (203, .aload_n 0, 0, 0, 0), (204, .getfield 95, 12, 10, 6046), (207, .iload 4, 0, 0, 0), (209, .iconst 1, 0, 0, 0), (210, .iadd, 0, 0, 0), (211, .iload_n 3, 0, 0, 0), (212, .bipush 8, 0, 0, 0), (214, .irem, 0, 0, 0)]),
  (235, [(215, .iastore, 0, 0, 0), (216, .aload_n 0, 0, 0, 0), (217, .getfield 95, 12, 10, 6046), (220, .iload 4, 0, 0, 0), (222, .iconst 2, 0, 0, 0), (223, .iadd, 0, 0, 0), (224, .iload_n 3, 0, 0, 0), (225, .bipush 8, 0, 0, 0), (227, .idiv, 0, 0, 0), (228, .iastore, 0, 0, 0), (229, .aload_n 0, 0, 0, 0), (230, .getfield 95, 12, 10, 6046), (233, .iload 4, 0, 0, 0), (235, .iconst 3, 0, 0, 0)]),
  (254, [(236, .iadd, 0, 0, 0), (237, .iload_n 3, 0, 0, 0), (238, .bipush 8, 0, 0, 0), (240, .irem, 0, 0, 0), (241, .iastore, 0, 0, 0), (242, .aload_n 0, 0, 0, 0), (243, .getfield 95, 12, 10, 6046), (246, .iload 4, 0, 0, 0), (248, .iconst 4, 0, 0, 0), (249, .iadd, 0, 0, 0), (250, .iload_n 3, 0, 0, 0), (251, .bipush 8, 0, 0, 0), (253, .idiv, 0, 0, 0), (254, .iastore, 0, 0, 0)]),
  (277, [(255, .aload_n 0, 0, 0, 0), (256, .getfield 95, 12, 10, 6046), (259, .iload 4, 0, 0, 0), (261, .iconst 5, 0, 0, 0), (262, .iadd, 0, 0, 0), (263, .aload_n 0, 0, 0, 0), (264, .bipush 6, 0, 0, 0), (266, .iconst 0, 0, 0, 0), (267, .bipush 99, 0, 0, 0), (269, .invokevirtual 243, 145, 4, 6203), (272, .iastore, 0, 0, 0), (273, .aload_n 0, 0, 0, 0), (274, .getfield 95, 12, 10, 6046), (277, .iload 4, 0, 0, 0)]),
  (301, [(279, .bipush 6, 0, 0, 0), (281, .iadd, 0, 0, 0), (282, .aload_n 0, 0, 0, 0), (283, .bipush 7, 0, 0, 0), (285, .iconst 0, 0, 0, 0), (286, .bipush 99, 0, 0, 0), (288, .invokevirtual 243, 145, 4, 6203), (291, .iastore, 0, 0, 0), (292, .aload_n 0, 0, 0, 0), (293, .getfield 95, 12, 10, 6046), (296, .iload 4, 0, 0, 0), (298, .bipush 7, 0, 0, 0), (300, .iadd, 0, 0, 0), (301, .aload_n 0, 0, 0, 0)]),
  (323, [(302, .bipush 8, 0, 0, 0), (304, .iconst 0, 0, 0, 0), (305, .bipush 9, 0, 0, 0), (307, .invokevirtual 243, 145, 4, 6203), (310, .iastore, 0, 0, 0), (311, .aload_n 0, 0, 0, 0), (312, .getfield 95, 12, 10, 6046), (315, .sipush 322, 0, 0, 0), (318, .dup2, 0, 0, 0), (319, .iaload, 0, 0, 0), (320, .iconst 1, 0, 0, 0), (321, .iadd, 0, 0, 0), (322, .iastore, 0, 0, 0), (323, .return_, 0, 0, 0)])]
def mO147 : List (Nat × List (Nat × mOp)) := [(12, [(0, .aload_n 0, 0, 0, 0), (1, .getfield 177, 12, 8, 6044), (4, .ifCond .ne 20, 24, 0, 0), (7, .aload_n 0, 0, 0, 0), (8, .getfield 24, 12, 4, 6040), (11, .aload_n 0, 0, 0, 0), (12, .getfield 174, 12, 7, 6043)]),
  (25, [(15, .iaload, 0, 0, 0), (16, .iconst 1, 0, 0, 0), (17, .if_icmp .ne 7, 24, 0, 0), (20, .iconst 1, 0, 0, 0), (21, .goto 4, 25, 0, 0), (24, .iconst 0, 0, 0, 0), (25, .istore_n 1, 0, 0, 0)]),
  (35, [(26, .iconst 0, 0, 0, 0), (27, .istore_n 2, 0, 0, 0), (28, .iload_n 2, 0, 0, 0), (29, .bipush 23, 0, 0, 0), (31, .if_icmp .ge 38, 69, 0, 0), (34, .iload_n 1, 0, 0, 0), (35, .ifCond .eq 26, 61, 0, 0)]),
  (48, [(38, .aload_n 0, 0, 0, 0), (39, .getfield 30, 12, 6, 6042), (42, .aload_n 0, 0, 0, 0), (43, .getfield 174, 12, 7, 6043), (46, .laload, 0, 0, 0), (47, .aload_n 0, 0, 0, 0), (48, .getfield 92, 12, 9, 6045)]),
  (61, [(51, .iload_n 2, 0, 0, 0), (52, .laload, 0, 0, 0), (53, .lcmp, 0, 0, 0), (54, .ifCond .eq 7, 61, 0, 0), (57, .iconst 1, 0, 0, 0), (58, .goto 4, 62, 0, 0), (61, .iconst 0, 0, 0, 0)]),
  (70, [(62, .istore_n 1, 0, 0, 0), (63, .iinc 2 1, 0, 0, 0), (66, .goto (-38), 28, 0, 0), (69, .iload_n 1, 0, 0, 0), (70, .ireturn, 1, 0, 0)])]
def mO148 : List (Nat × List (Nat × mOp)) := [(13, [(0, .aload_n 0, 0, 0, 0), (1, .getfield 205, 12, 15, 6051), (4, .aload_n 0, 0, 0, 0), (5, .getfield 95, 12, 10, 6046), (8, .sipush 322, 0, 0, 0), (11, .iaload, 0, 0, 0), (12, .iconst 1, 0, 0, 0), (13, .isub, 0, 0, 0)]),
  (25, [(14, .if_icmp .lt 9, 23, 0, 0), (17, .aload_n 0, 0, 0, 0), (18, .iconst 5, 0, 0, 0), (19, .invokevirtual 183, 138, 2, 6175), (22, .return_, 0, 0, 0), (23, .aload_n 0, 0, 0, 0), (24, .dup, 0, 0, 0), (25, .getfield 174, 12, 7, 6043)]),
  (41, [(28, .iconst 1, 0, 0, 0), (29, .iadd, 0, 0, 0), (30, .putfield 174, 12, 7, 6043), (33, .aload_n 0, 0, 0, 0), (34, .getfield 95, 12, 10, 6046), (37, .sipush 610, 0, 0, 0), (40, .iconst 3, 0, 0, 0), (41, .aload_n 0, 0, 0, 0)]),
  (54, [(42, .getfield 205, 12, 15, 6051), (45, .imul, 0, 0, 0), (46, .iadd, 0, 0, 0), (47, .aload_n 0, 0, 0, 0), (48, .iconst 1, 0, 0, 0), (49, .bipush 9, 0, 0, 0), (51, .invokevirtual 195, 139, 3, 6179), (54, .iastore, 0, 0, 0)]),
  (68, [(55, .aload_n 0, 0, 0, 0), (56, .getfield 95, 12, 10, 6046), (59, .sipush 610, 0, 0, 0), (62, .iconst 3, 0, 0, 0), (63, .aload_n 0, 0, 0, 0), (64, .getfield 205, 12, 15, 6051), (67, .imul, 0, 0, 0), (68, .iadd, 0, 0, 0)]),
  (80, [(69, .iconst 1, 0, 0, 0), (70, .iadd, 0, 0, 0), (71, .aload_n 0, 0, 0, 0), (72, .bipush 10, 0, 0, 0), (74, .iconst 0, 0, 0, 0), (75, .bipush 99, 0, 0, 0), (77, .invokevirtual 243, 145, 4, 6203), (80, .iastore, 0, 0, 0)]),
  (91, [(81, .aload_n 0, 0, 0, 0), (82, .dup, 0, 0, 0), (83, .getfield 205, 12, 15, 6051), (86, .iconst 1, 0, 0, 0), (87, .iadd, 0, 0, 0), (88, .putfield 205, 12, 15, 6051), (91, .return_, 0, 0, 0)])]
def mO149 : List (Nat × List (Nat × mOp)) := [(13, [(0, .iconst 0, 0, 0, 0), (1, .istore_n 1, 0, 0, 0), (2, .aload_n 0, 0, 0, 0), (3, .bipush 11, 0, 0, 0), (5, .iload_n 1, 0, 0, 0), (6, .iadd, 0, 0, 0), (7, .invokevirtual 186, 137, 2, 6171), (10, .ifCond .ne 9, 19, 0, 0), (13, .iinc 1 1, 0, 0, 0)]),
  (28, [(16, .goto (-14), 2, 0, 0), (19, .aload_n 0, 0, 0, 0), (20, .getfield 208, 12, 16, 6052), (23, .iload_n 1, 0, 0, 0), (24, .ishr, 0, 0, 0), (25, .iconst 1, 0, 0, 0), (26, .iand, 0, 0, 0), (27, .iconst 1, 0, 0, 0), (28, .if_icmp .ne 9, 37, 0, 0)]),
  (43, [(31, .aload_n 0, 0, 0, 0), (32, .iconst 3, 0, 0, 0), (33, .invokevirtual 183, 138, 2, 6175), (36, .return_, 0, 0, 0), (37, .aload_n 0, 0, 0, 0), (38, .dup, 0, 0, 0), (39, .getfield 208, 12, 16, 6052), (42, .iconst 1, 0, 0, 0), (43, .iload_n 1, 0, 0, 0)]),
  (56, [(44, .ishl, 0, 0, 0), (45, .ior, 0, 0, 0), (46, .putfield 208, 12, 16, 6052), (49, .aload_n 0, 0, 0, 0), (50, .dup, 0, 0, 0), (51, .getfield 174, 12, 7, 6043), (54, .iconst 1, 0, 0, 0), (55, .iadd, 0, 0, 0), (56, .putfield 174, 12, 7, 6043)]),
  (73, [(59, .iload_n 1, 0, 0, 0), (60, .iconst 1, 0, 0, 0), (61, .if_icmp .le 33, 94, 0, 0), (64, .aload_n 0, 0, 0, 0), (65, .getfield 95, 12, 10, 6046), (68, .sipush 324, 0, 0, 0), (71, .iload_n 1, 0, 0, 0), (72, .iadd, 0, 0, 0), (73, .iconst 2, 0, 0, 0)]),
  (87, [(74, .isub, 0, 0, 0), (75, .aload_n 0, 0, 0, 0), (76, .iconst 0, 0, 0, 0), (77, .iload_n 1, 0, 0, 0), (78, .iconst 2, 0, 0, 0), (79, .if_icmp .ne 8, 87, 0, 0), (82, .bipush 50, 0, 0, 0), (84, .goto 5, 89, 0, 0), (87, .bipush 99, 0, 0, 0)]),
  (101, [(89, .invokevirtual 195, 139, 3, 6179), (92, .iastore, 0, 0, 0), (93, .return_, 0, 0, 0), (94, .aload_n 0, 0, 0, 0), (95, .iload_n 1, 0, 0, 0), (96, .iconst 1, 0, 0, 0), (97, .if_icmp .ne 7, 104, 0, 0), (100, .iconst 1, 0, 0, 0), (101, .goto 4, 105, 0, 0)]),
  (118, [(104, .iconst 0, 0, 0, 0), (105, .putfield 251, 12, 17, 6053), (108, .aload_n 0, 0, 0, 0), (109, .getfield 95, 12, 10, 6046), (112, .sipush 326, 0, 0, 0), (115, .iload_n 1, 0, 0, 0), (116, .iadd, 0, 0, 0), (117, .aload_n 0, 0, 0, 0), (118, .getfield 202, 12, 13, 6049)]),
  (133, [(121, .iastore, 0, 0, 0), (122, .aload_n 0, 0, 0, 0), (123, .iconst 0, 0, 0, 0), (124, .invokevirtual 255, 150, 2, 6223), (127, .aload_n 0, 0, 0, 0), (128, .iconst 0, 0, 0, 0), (129, .iconst 0, 0, 0, 0), (130, .invokevirtual 258, 155, 3, 7003), (133, .return_, 0, 0, 0)])]
def mO150 : List (Nat × List (Nat × mOp)) := [(8, [(0, .aload_n 0, 0, 0, 0), (1, .iload_n 1, 0, 0, 0), (2, .invokevirtual 261, 151, 2, 6227), (5, .aload_n 0, 0, 0, 0), (6, .bipush 21, 0, 0, 0), (8, .invokevirtual 186, 137, 2, 6171)]),
  (23, [(11, .ifCond .ne 12, 23, 0, 0), (14, .aload_n 0, 0, 0, 0), (15, .bipush 22, 0, 0, 0), (17, .invokevirtual 186, 137, 2, 6171), (20, .ifCond .eq 44, 64, 0, 0), (23, .aload_n 0, 0, 0, 0)]),
  (32, [(24, .bipush 21, 0, 0, 0), (26, .invokevirtual 186, 137, 2, 6171), (29, .istore_n 2, 0, 0, 0), (30, .aload_n 0, 0, 0, 0), (31, .dup, 0, 0, 0), (32, .getfield 174, 12, 7, 6043)]),
  (42, [(35, .iconst 1, 0, 0, 0), (36, .iadd, 0, 0, 0), (37, .putfield 174, 12, 7, 6043), (40, .aload_n 0, 0, 0, 0), (41, .iload_n 1, 0, 0, 0), (42, .invokevirtual 261, 151, 2, 6227)]),
  (55, [(45, .aload_n 0, 0, 0, 0), (46, .iload_n 2, 0, 0, 0), (47, .ifCond .eq 8, 55, 0, 0), (50, .bipush 9, 0, 0, 0), (52, .goto 5, 57, 0, 0), (55, .bipush 10, 0, 0, 0)]),
  (64, [(57, .iconst 0, 0, 0, 0), (58, .invokevirtual 258, 155, 3, 7003), (61, .goto (-56), 5, 0, 0), (64, .return_, 0, 0, 0)])]
def mO151 : List (Nat × List (Nat × mOp)) := [(8, [(0, .aload_n 0, 0, 0, 0), (1, .iload_n 1, 0, 0, 0), (2, .invokevirtual 264, 152, 2, 6231), (5, .aload_n 0, 0, 0, 0), (6, .bipush 60, 0, 0, 0), (8, .invokevirtual 180, 141, 2, 6187)]),
  (21, [(11, .istore_n 2, 0, 0, 0), (12, .aload_n 0, 0, 0, 0), (13, .bipush 60, 0, 0, 0), (15, .invokevirtual 267, 156, 2, 7007), (18, .ifCond .ne 12, 30, 0, 0), (21, .aload_n 0, 0, 0, 0)]),
  (32, [(22, .bipush 61, 0, 0, 0), (24, .invokevirtual 267, 156, 2, 7007), (27, .ifCond .eq 24, 51, 0, 0), (30, .aload_n 0, 0, 0, 0), (31, .iload_n 1, 0, 0, 0), (32, .invokevirtual 264, 152, 2, 6231)]),
  (45, [(35, .aload_n 0, 0, 0, 0), (36, .iload_n 2, 0, 0, 0), (37, .ifCond .eq 8, 45, 0, 0), (40, .bipush 7, 0, 0, 0), (42, .goto 5, 47, 0, 0), (45, .bipush 8, 0, 0, 0)]),
  (51, [(47, .iconst 0, 0, 0, 0), (48, .invokevirtual 258, 155, 3, 7003), (51, .return_, 0, 0, 0)])]
def mO152 : List (Nat × List (Nat × mOp)) := [(8, [(0, .aload_n 0, 0, 0, 0), (1, .iload_n 1, 0, 0, 0), (2, .invokevirtual 270, 153, 2, 6235), (5, .aload_n 0, 0, 0, 0), (6, .bipush 43, 0, 0, 0), (8, .invokevirtual 180, 141, 2, 6187)]),
  (23, [(11, .ifCond .ne 12, 23, 0, 0), (14, .aload_n 0, 0, 0, 0), (15, .bipush 45, 0, 0, 0), (17, .invokevirtual 180, 141, 2, 6187), (20, .ifCond .eq 42, 62, 0, 0), (23, .aload_n 0, 0, 0, 0)]),
  (32, [(24, .bipush 43, 0, 0, 0), (26, .invokevirtual 180, 141, 2, 6187), (29, .istore_n 2, 0, 0, 0), (30, .aload_n 0, 0, 0, 0), (31, .dup, 0, 0, 0), (32, .getfield 174, 12, 7, 6043)]),
  (42, [(35, .iconst 1, 0, 0, 0), (36, .iadd, 0, 0, 0), (37, .putfield 174, 12, 7, 6043), (40, .aload_n 0, 0, 0, 0), (41, .iload_n 1, 0, 0, 0), (42, .invokevirtual 270, 153, 2, 6235)]),
  (54, [(45, .aload_n 0, 0, 0, 0), (46, .iload_n 2, 0, 0, 0), (47, .ifCond .eq 7, 54, 0, 0), (50, .iconst 4, 0, 0, 0), (51, .goto 4, 55, 0, 0), (54, .iconst 5, 0, 0, 0)]),
  (62, [(55, .iconst 0, 0, 0, 0), (56, .invokevirtual 258, 155, 3, 7003), (59, .goto (-54), 5, 0, 0), (62, .return_, 0, 0, 0)])]
def mO153 : List (Nat × List (Nat × mOp)) := [(5, [(0, .aload_n 0, 0, 0, 0), (1, .iload_n 1, 0, 0, 0), (2, .invokevirtual 273, 154, 2, 6239), (5, .aload_n 0, 0, 0, 0)]),
  (14, [(6, .bipush 42, 0, 0, 0), (8, .invokevirtual 267, 156, 2, 7007), (11, .ifCond .eq 18, 29, 0, 0), (14, .aload_n 0, 0, 0, 0)]),
  (20, [(15, .iload_n 1, 0, 0, 0), (16, .invokevirtual 273, 154, 2, 6239), (19, .aload_n 0, 0, 0, 0), (20, .bipush 6, 0, 0, 0)]),
  (29, [(22, .iconst 0, 0, 0, 0), (23, .invokevirtual 258, 155, 3, 7003), (26, .goto (-21), 5, 0, 0), (29, .return_, 0, 0, 0)])]
def mO154 : List (Nat × List (Nat × mOp)) := [(18, [(0, .aload_n 0, 0, 0, 0), (1, .getfield 177, 12, 8, 6044), (4, .ifCond .le 4, 8, 0, 0), (7, .return_, 0, 0, 0), (8, .aload_n 0, 0, 0, 0), (9, .getfield 24, 12, 4, 6040), (12, .aload_n 0, 0, 0, 0), (13, .getfield 174, 12, 7, 6043), (16, .iaload, 0, 0, 0), (17, .iconst 2, 0, 0, 0), (18, .if_icmp .ne 7, 25, 0, 0)]),
  (35, [(21, .iconst 1, 0, 0, 0), (22, .goto 4, 26, 0, 0), (25, .iconst 0, 0, 0, 0), (26, .istore_n 2, 0, 0, 0), (27, .iconst (-1), 0, 0, 0), (28, .istore_n 3, 0, 0, 0), (29, .iconst 0, 0, 0, 0), (30, .istore 4, 0, 0, 0), (32, .iload 4, 0, 0, 0), (34, .aload_n 0, 0, 0, 0), (35, .getfield 251, 12, 17, 6053)]),
  (58, [(38, .ifCond .eq 8, 46, 0, 0), (41, .bipush 7, 0, 0, 0), (43, .goto 4, 47, 0, 0), (46, .iconst 3, 0, 0, 0), (47, .if_icmp .ge 30, 77, 0, 0), (50, .aload_n 0, 0, 0, 0), (51, .aload_n 0, 0, 0, 0), (52, .getfield 107, 12, 18, 6054), (55, .iload 4, 0, 0, 0), (57, .iaload, 0, 0, 0), (58, .invokevirtual 186, 137, 2, 6171)]),
  (82, [(61, .ifCond .eq 8, 69, 0, 0), (64, .iload 4, 0, 0, 0), (66, .goto 4, 70, 0, 0), (69, .iload_n 3, 0, 0, 0), (70, .istore_n 3, 0, 0, 0), (71, .iinc 4 1, 0, 0, 0), (74, .goto (-42), 32, 0, 0), (77, .iload_n 3, 0, 0, 0), (78, .ifCond .ge 33, 111, 0, 0), (81, .iload_n 2, 0, 0, 0), (82, .ifCond .ne 29, 111, 0, 0)]),
  (105, [(85, .aload_n 0, 0, 0, 0), (86, .bipush 40, 0, 0, 0), (88, .invokevirtual 180, 141, 2, 6187), (91, .ifCond .ne 20, 111, 0, 0), (94, .aload_n 0, 0, 0, 0), (95, .bipush 20, 0, 0, 0), (97, .invokevirtual 186, 137, 2, 6171), (100, .ifCond .ne 11, 111, 0, 0), (103, .aload_n 0, 0, 0, 0), (104, .iconst 1, 0, 0, 0), (105, .invokevirtual 183, 138, 2, 6175)]),
  (128, [(108, .goto 13, 121, 0, 0), (111, .iload_n 1, 0, 0, 0), (112, .iconst 5, 0, 0, 0), (113, .if_icmp .ne 8, 121, 0, 0), (116, .aload_n 0, 0, 0, 0), (117, .iconst 5, 0, 0, 0), (118, .invokevirtual 183, 138, 2, 6175), (121, .aload_n 0, 0, 0, 0), (122, .getfield 177, 12, 8, 6044), (125, .ifCond .le 4, 129, 0, 0), (128, .return_, 0, 0, 0)]),
  (146, [(129, .aload_n 0, 0, 0, 0), (130, .bipush 20, 0, 0, 0), (132, .invokevirtual 189, 136, 2, 6167), (135, .ifCond .eq 19, 154, 0, 0), (138, .aload_n 0, 0, 0, 0), (139, .iload_n 1, 0, 0, 0), (140, .iconst 1, 0, 0, 0), (141, .iadd, 0, 0, 0), (142, .invokevirtual 273, 154, 2, 6239), (145, .aload_n 0, 0, 0, 0), (146, .iconst 3, 0, 0, 0)]),
  (166, [(147, .iconst 0, 0, 0, 0), (148, .invokevirtual 258, 155, 3, 7003), (151, .goto 69, 220, 0, 0), (154, .aload_n 0, 0, 0, 0), (155, .bipush 40, 0, 0, 0), (157, .invokevirtual 267, 156, 2, 7007), (160, .ifCond .eq 19, 179, 0, 0), (163, .aload_n 0, 0, 0, 0), (164, .iload_n 1, 0, 0, 0), (165, .iconst 1, 0, 0, 0), (166, .iadd, 0, 0, 0)]),
  (188, [(167, .invokevirtual 255, 150, 2, 6223), (170, .aload_n 0, 0, 0, 0), (171, .bipush 41, 0, 0, 0), (173, .invokevirtual 211, 140, 2, 6183), (176, .goto 44, 220, 0, 0), (179, .aload_n 0, 0, 0, 0), (180, .iload_n 2, 0, 0, 0), (181, .ifCond .eq 7, 188, 0, 0), (184, .iconst 1, 0, 0, 0), (185, .goto 4, 189, 0, 0), (188, .iconst 2, 0, 0, 0)]),
  (207, [(189, .iload_n 2, 0, 0, 0), (190, .ifCond .eq 16, 206, 0, 0), (193, .aload_n 0, 0, 0, 0), (194, .getfield 30, 12, 6, 6042), (197, .aload_n 0, 0, 0, 0), (198, .getfield 174, 12, 7, 6043), (201, .laload, 0, 0, 0), (202, .l2i, 0, 0, 0), (203, .goto 4, 207, 0, 0), (206, .iload_n 3, 0, 0, 0), (207, .invokevirtual 258, 155, 3, 7003)]),
  (220, [(210, .aload_n 0, 0, 0, 0), (211, .dup, 0, 0, 0), (212, .getfield 174, 12, 7, 6043), (215, .iconst 1, 0, 0, 0), (216, .iadd, 0, 0, 0), (217, .putfield 174, 12, 7, 6043), (220, .return_, 0, 0, 0)])]
def mO155 : List (Nat × List (Nat × mOp)) := [(8, [(0, .aload_n 0, 0, 0, 0), (1, .getfield 98, 12, 11, 6047), (4, .sipush 1100, 0, 0, 0), (7, .aload_n 0, 0, 0, 0), (8, .getfield 202, 12, 13, 6049)]),
  (15, [(11, .iadd, 0, 0, 0), (12, .iload_n 1, 0, 0, 0), (13, .iastore, 0, 0, 0), (14, .aload_n 0, 0, 0, 0), (15, .getfield 101, 12, 12, 6048)]),
  (26, [(18, .sipush 1100, 0, 0, 0), (21, .aload_n 0, 0, 0, 0), (22, .getfield 202, 12, 13, 6049), (25, .iadd, 0, 0, 0), (26, .iload_n 2, 0, 0, 0)]),
  (33, [(27, .iastore, 0, 0, 0), (28, .aload_n 0, 0, 0, 0), (29, .dup, 0, 0, 0), (30, .getfield 202, 12, 13, 6049), (33, .iconst 1, 0, 0, 0)]),
  (38, [(34, .iadd, 0, 0, 0), (35, .putfield 202, 12, 13, 6049), (38, .return_, 0, 0, 0)])]
def mO156 : List (Nat × List (Nat × mOp)) := [(5, [(0, .aload_n 0, 0, 0, 0), (1, .iload_n 1, 0, 0, 0), (2, .invokevirtual 180, 141, 2, 6187), (5, .istore_n 2, 0, 0, 0)]),
  (11, [(6, .aload_n 0, 0, 0, 0), (7, .dup, 0, 0, 0), (8, .getfield 174, 12, 7, 6043), (11, .iload_n 2, 0, 0, 0)]),
  (19, [(12, .ifCond .eq 7, 19, 0, 0), (15, .iconst 1, 0, 0, 0), (16, .goto 4, 20, 0, 0), (19, .iconst 0, 0, 0, 0)]),
  (25, [(20, .iadd, 0, 0, 0), (21, .putfield 174, 12, 7, 6043), (24, .iload_n 2, 0, 0, 0), (25, .ireturn, 1, 0, 0)])]
def mO157 : List (Nat × List (Nat × mOp)) := [(6, [(0, .iconst 0, 0, 0, 0), (1, .istore_n 3, 0, 0, 0), (2, .iload_n 3, 0, 0, 0), (3, .sipush 320, 0, 0, 0), (6, .if_icmp .ge 33, 39, 0, 0)]),
  (17, [(9, .aload_n 0, 0, 0, 0), (10, .getfield 95, 12, 10, 6046), (13, .sipush 320, 0, 0, 0), (16, .iload_n 2, 0, 0, 0), (17, .imul, 0, 0, 0)]),
  (24, [(18, .iload_n 3, 0, 0, 0), (19, .iadd, 0, 0, 0), (20, .aload_n 0, 0, 0, 0), (21, .getfield 95, 12, 10, 6046), (24, .sipush 320, 0, 0, 0)]),
  (31, [(27, .iload_n 1, 0, 0, 0), (28, .imul, 0, 0, 0), (29, .iload_n 3, 0, 0, 0), (30, .iadd, 0, 0, 0), (31, .iaload, 0, 0, 0)]),
  (39, [(32, .iastore, 0, 0, 0), (33, .iinc 3 1, 0, 0, 0), (36, .goto (-34), 2, 0, 0), (39, .return_, 0, 0, 0)])]
def mO158 : List (Nat × List (Nat × mOp)) := [(7, [(0, .aload_n 0, 0, 0, 0), (1, .invokevirtual 279, 159, 1, 7019), (4, .ifCond .le 12, 16, 0, 0), (7, .aload_n 0, 0, 0, 0)]),
  (13, [(8, .invokevirtual 279, 159, 1, 7019), (11, .iconst 1, 0, 0, 0), (12, .isub, 0, 0, 0), (13, .goto 4, 17, 0, 0)]),
  (17, [(16, .iconst 0, 0, 0, 0), (17, .ireturn, 0, 0, 0)])]
def mO159 : List (Nat × List (Nat × mOp)) := [(4, [(0, .aload_n 0, 0, 0, 0), (1, .getfield 95, 12, 10, 6046), (4, .iconst 2, 0, 0, 0)]),
  (6, [(5, .iaload, 0, 0, 0), (6, .ireturn, 0, 0, 0)])]
def mO160 : List (Nat × List (Nat × mOp)) := [(6, [(0, .aload_n 0, 0, 0, 0), (1, .iload_n 1, 0, 0, 0), (2, .iconst 1, 0, 0, 0), (3, .invokevirtual 286, 161, 3, 7027), (6, .aload_n 0, 0, 0, 0)]),
  (11, [(7, .iload_n 1, 0, 0, 0), (8, .iconst 1, 0, 0, 0), (9, .iadd, 0, 0, 0), (10, .iconst 1, 0, 0, 0), (11, .invokevirtual 286, 161, 3, 7027)]),
  (20, [(14, .invokestatic 289, 162, 2, 7031), (17, .aload_n 0, 0, 0, 0), (18, .iload_n 1, 0, 0, 0), (19, .iconst 2, 0, 0, 0), (20, .invokevirtual 286, 161, 3, 7027)]),
  (27, [(23, .aload_n 0, 0, 0, 0), (24, .iload_n 1, 0, 0, 0), (25, .iconst 1, 0, 0, 0), (26, .iadd, 0, 0, 0), (27, .iconst 2, 0, 0, 0)]),
  (35, [(28, .invokevirtual 286, 161, 3, 7027), (31, .invokestatic 289, 162, 2, 7031), (34, .iadd, 0, 0, 0), (35, .ireturn, 0, 0, 0)])]
def mO161 : List (Nat × List (Nat × mOp)) := [(7, [(0, .aload_n 0, 0, 0, 0), (1, .getfield 95, 12, 10, 6046), (4, .sipush 202, 0, 0, 0), (7, .bipush 12, 0, 0, 0)]),
  (12, [(9, .iload_n 1, 0, 0, 0), (10, .imul, 0, 0, 0), (11, .iadd, 0, 0, 0), (12, .iload_n 2, 0, 0, 0)]),
  (15, [(13, .iadd, 0, 0, 0), (14, .iaload, 0, 0, 0), (15, .ireturn, 0, 0, 0)])]
def mO162 : List (Nat × List (Nat × mOp)) := [(5, [(0, .iload_n 0, 0, 0, 0), (1, .iload_n 1, 0, 0, 0), (2, .if_icmp .ge 9, 11, 0, 0), (5, .iload_n 1, 0, 0, 0)]),
  (11, [(6, .iload_n 0, 0, 0, 0), (7, .isub, 0, 0, 0), (8, .goto 6, 14, 0, 0), (11, .iload_n 0, 0, 0, 0)]),
  (14, [(12, .iload_n 1, 0, 0, 0), (13, .isub, 0, 0, 0), (14, .ireturn, 0, 0, 0)])]
def mO163 : List (Nat × List (Nat × mOp)) := [(14, [(0, .aload_n 0, 0, 0, 0), (1, .iconst 0, 0, 0, 0), (2, .putfield 1, 12, 0, 6036), (5, .aload_n 0, 0, 0, 0), (6, .iload_n 1, 0, 0, 0), (7, .invokevirtual 321, 164, 2, 7038), (10, .ifCond .ne 5, 15, 0, 0), (13, .iconst (-1), 0, 0, 0), (14, .ireturn, 0, 0, 0)]),
  (76, [(15, .iload_n 2, 0, 0, 0), (16, .tableswitch 134 0 8 #[52, 59, 66, 73, 81, 87, 112, 118, 126], 0, 0, 0), (68, .aload_n 0, 0, 0, 0), (69, .iload_n 1, 0, 0, 0), (70, .iconst 0, 0, 0, 0), (71, .invokevirtual 286, 161, 3, 7027), (74, .ireturn, 0, 0, 0), (75, .aload_n 0, 0, 0, 0), (76, .iload_n 1, 0, 0, 0)]),
  (89, [(77, .iconst 1, 0, 0, 0), (78, .invokevirtual 286, 161, 3, 7027), (81, .ireturn, 0, 0, 0), (82, .aload_n 0, 0, 0, 0), (83, .iload_n 1, 0, 0, 0), (84, .iconst 2, 0, 0, 0), (85, .invokevirtual 286, 161, 3, 7027), (88, .ireturn, 0, 0, 0), (89, .aload_n 0, 0, 0, 0)]),
  (103, [(90, .iload_n 1, 0, 0, 0), (91, .bipush 8, 0, 0, 0), (93, .invokevirtual 286, 161, 3, 7027), (96, .ireturn, 0, 0, 0), (97, .aload_n 0, 0, 0, 0), (98, .iload_n 1, 0, 0, 0), (99, .invokevirtual 324, 165, 2, 7042), (102, .ireturn, 0, 0, 0), (103, .aload_n 0, 0, 0, 0)]),
  (114, [(104, .iload_n 1, 0, 0, 0), (105, .aload_n 0, 0, 0, 0), (106, .iload_n 1, 0, 0, 0), (107, .iconst 1, 0, 0, 0), (108, .invokevirtual 286, 161, 3, 7027), (111, .aload_n 0, 0, 0, 0), (112, .iload_n 1, 0, 0, 0), (113, .iconst 2, 0, 0, 0), (114, .invokevirtual 286, 161, 3, 7027)]),
  (129, [(117, .aload_n 0, 0, 0, 0), (118, .getfield 95, 12, 10, 6046), (121, .iconst 3, 0, 0, 0), (122, .iaload, 0, 0, 0), (123, .iconst 0, 0, 0, 0), (124, .invokevirtual 305, 166, 6, 7046), (127, .ireturn, 0, 0, 0), (128, .aload_n 0, 0, 0, 0), (129, .iload_n 1, 0, 0, 0)]),
  (143, [(130, .invokevirtual 309, 171, 2, 7065), (133, .ireturn, 0, 0, 0), (134, .aload_n 0, 0, 0, 0), (135, .iload_n 1, 0, 0, 0), (136, .bipush 7, 0, 0, 0), (138, .invokevirtual 286, 161, 3, 7027), (141, .ireturn, 0, 0, 0), (142, .aload_n 0, 0, 0, 0), (143, .iload_n 1, 0, 0, 0)]),
  (151, [(144, .bipush 9, 0, 0, 0), (146, .invokevirtual 286, 161, 3, 7027), (149, .ireturn, 0, 0, 0), (150, .iconst (-1), 0, 0, 0), (151, .ireturn, 0, 0, 0)])]
def mO164 : List (Nat × List (Nat × mOp)) := [(5, [(0, .iload_n 1, 0, 0, 0), (1, .ifCond .lt 15, 16, 0, 0), (4, .iload_n 1, 0, 0, 0), (5, .aload_n 0, 0, 0, 0)]),
  (13, [(6, .invokevirtual 279, 159, 1, 7019), (9, .if_icmp .ge 7, 16, 0, 0), (12, .iconst 1, 0, 0, 0), (13, .goto 4, 17, 0, 0)]),
  (17, [(16, .iconst 0, 0, 0, 0), (17, .ireturn, 1, 0, 0)])]
def mO165 : List (Nat × List (Nat × mOp)) := [(6, [(0, .aload_n 0, 0, 0, 0), (1, .iload_n 1, 0, 0, 0), (2, .iconst 0, 0, 0, 0), (3, .invokevirtual 286, 161, 3, 7027), (6, .iconst 3, 0, 0, 0)]),
  (13, [(7, .if_icmp .ne 14, 21, 0, 0), (10, .aload_n 0, 0, 0, 0), (11, .iload_n 1, 0, 0, 0), (12, .iconst 5, 0, 0, 0), (13, .invokevirtual 286, 161, 3, 7027)]),
  (22, [(16, .iconst 2, 0, 0, 0), (17, .idiv, 0, 0, 0), (18, .goto 9, 27, 0, 0), (21, .aload_n 0, 0, 0, 0), (22, .iload_n 1, 0, 0, 0)]),
  (27, [(23, .iconst 5, 0, 0, 0), (24, .invokevirtual 286, 161, 3, 7027), (27, .ireturn, 0, 0, 0)])]
def mO166 : List (Nat × List (Nat × mOp)) := [(5, [(0, .aload_n 0, 0, 0, 0), (1, .iload_n 2, 0, 0, 0), (2, .iload_n 3, 0, 0, 0), (3, .iload 4, 0, 0, 0), (5, .iload 5, 0, 0, 0)]),
  (15, [(7, .invokevirtual 298, 167, 5, 7050), (10, .aload_n 0, 0, 0, 0), (11, .iload_n 1, 0, 0, 0), (12, .invokevirtual 302, 170, 2, 7061), (15, .isub, 0, 0, 0)]),
  (24, [(16, .istore 6, 0, 0, 0), (18, .iload 6, 0, 0, 0), (20, .ifCond .ge 7, 27, 0, 0), (23, .iconst 0, 0, 0, 0), (24, .goto 5, 29, 0, 0)]),
  (29, [(27, .iload 6, 0, 0, 0), (29, .ireturn, 0, 0, 0)])]
def mO167 : List (Nat × List (Nat × mOp)) := [(14, [(0, .bipush 10, 0, 0, 0), (2, .istore 5, 0, 0, 0), (4, .aload_n 0, 0, 0, 0), (5, .getfield 95, 12, 10, 6046), (8, .bipush 6, 0, 0, 0), (10, .iaload, 0, 0, 0), (11, .ifCond .lt 40, 51, 0, 0), (14, .aload_n 0, 0, 0, 0)]),
  (26, [(15, .getfield 110, 12, 19, 6055), (18, .iconst 0, 0, 0, 0), (19, .iload_n 1, 0, 0, 0), (20, .iastore, 0, 0, 0), (21, .aload_n 0, 0, 0, 0), (22, .getfield 110, 12, 19, 6055), (25, .iconst 1, 0, 0, 0), (26, .iload_n 2, 0, 0, 0)]),
  (37, [(27, .iastore, 0, 0, 0), (28, .aload_n 0, 0, 0, 0), (29, .getfield 110, 12, 19, 6055), (32, .iconst 2, 0, 0, 0), (33, .iload_n 3, 0, 0, 0), (34, .bipush 24, 0, 0, 0), (36, .irem, 0, 0, 0), (37, .iastore, 0, 0, 0)]),
  (51, [(38, .aload_n 0, 0, 0, 0), (39, .aload_n 0, 0, 0, 0), (40, .getfield 95, 12, 10, 6046), (43, .bipush 6, 0, 0, 0), (45, .iaload, 0, 0, 0), (46, .invokevirtual 295, 168, 2, 7054), (49, .istore 5, 0, 0, 0), (51, .iload 5, 0, 0, 0)]),
  (69, [(53, .ifCond .ge 7, 60, 0, 0), (56, .iconst 0, 0, 0, 0), (57, .goto 17, 74, 0, 0), (60, .iload 5, 0, 0, 0), (62, .bipush 99, 0, 0, 0), (64, .if_icmp .le 8, 72, 0, 0), (67, .bipush 99, 0, 0, 0), (69, .goto 5, 74, 0, 0)]),
  (86, [(72, .iload 5, 0, 0, 0), (74, .istore 5, 0, 0, 0), (76, .iload 5, 0, 0, 0), (78, .iload 4, 0, 0, 0), (80, .iadd, 0, 0, 0), (81, .bipush 99, 0, 0, 0), (83, .if_icmp .le 8, 91, 0, 0), (86, .bipush 99, 0, 0, 0)]),
  (96, [(88, .goto 8, 96, 0, 0), (91, .iload 5, 0, 0, 0), (93, .iload 4, 0, 0, 0), (95, .iadd, 0, 0, 0), (96, .ireturn, 0, 0, 0)])]
def mO168 : List (Nat × List (Nat × mOp)) := [(13, [(0, .iconst 0, 0, 0, 0), (1, .istore_n 2, 0, 0, 0), (2, .iload_n 1, 0, 0, 0), (3, .istore_n 3, 0, 0, 0), (4, .aload_n 0, 0, 0, 0), (5, .getfield 98, 12, 11, 6047), (8, .iload_n 3, 0, 0, 0), (9, .iaload, 0, 0, 0), (10, .ifCond .eq 130, 140, 0, 0), (13, .aload_n 0, 0, 0, 0)]),
  (30, [(14, .getfield 98, 12, 11, 6047), (17, .iload_n 3, 0, 0, 0), (18, .iaload, 0, 0, 0), (19, .istore 4, 0, 0, 0), (21, .iload 4, 0, 0, 0), (23, .iconst 1, 0, 0, 0), (24, .if_icmp .eq 9, 33, 0, 0), (27, .iload 4, 0, 0, 0), (29, .iconst 2, 0, 0, 0), (30, .if_icmp .ne 41, 71, 0, 0)]),
  (49, [(33, .aload_n 0, 0, 0, 0), (34, .getfield 113, 12, 20, 6056), (37, .iload_n 2, 0, 0, 0), (38, .iload 4, 0, 0, 0), (40, .iconst 1, 0, 0, 0), (41, .if_icmp .ne 12, 53, 0, 0), (44, .aload_n 0, 0, 0, 0), (45, .getfield 101, 12, 12, 6048), (48, .iload_n 3, 0, 0, 0), (49, .iaload, 0, 0, 0)]),
  (65, [(50, .goto 14, 64, 0, 0), (53, .aload_n 0, 0, 0, 0), (54, .getfield 110, 12, 19, 6055), (57, .aload_n 0, 0, 0, 0), (58, .getfield 101, 12, 12, 6048), (61, .iload_n 3, 0, 0, 0), (62, .iaload, 0, 0, 0), (63, .iaload, 0, 0, 0), (64, .iastore, 0, 0, 0), (65, .iinc 2 1, 0, 0, 0)]),
  (84, [(68, .goto 66, 134, 0, 0), (71, .iload 4, 0, 0, 0), (73, .iconst 3, 0, 0, 0), (74, .if_icmp .ne 30, 104, 0, 0), (77, .aload_n 0, 0, 0, 0), (78, .getfield 113, 12, 20, 6056), (81, .iload_n 2, 0, 0, 0), (82, .iconst 1, 0, 0, 0), (83, .isub, 0, 0, 0), (84, .aload_n 0, 0, 0, 0)]),
  (100, [(85, .getfield 113, 12, 20, 6056), (88, .iload_n 2, 0, 0, 0), (89, .iconst 1, 0, 0, 0), (90, .isub, 0, 0, 0), (91, .iaload, 0, 0, 0), (92, .ifCond .ne 7, 99, 0, 0), (95, .iconst 1, 0, 0, 0), (96, .goto 4, 100, 0, 0), (99, .iconst 0, 0, 0, 0), (100, .iastore, 0, 0, 0)]),
  (117, [(101, .goto 33, 134, 0, 0), (104, .iinc 2 (-1), 0, 0, 0), (107, .aload_n 0, 0, 0, 0), (108, .getfield 113, 12, 20, 6056), (111, .iload_n 2, 0, 0, 0), (112, .iconst 1, 0, 0, 0), (113, .isub, 0, 0, 0), (114, .iload 4, 0, 0, 0), (116, .aload_n 0, 0, 0, 0), (117, .getfield 113, 12, 20, 6056)]),
  (133, [(120, .iload_n 2, 0, 0, 0), (121, .iconst 1, 0, 0, 0), (122, .isub, 0, 0, 0), (123, .iaload, 0, 0, 0), (124, .aload_n 0, 0, 0, 0), (125, .getfield 113, 12, 20, 6056), (128, .iload_n 2, 0, 0, 0), (129, .iaload, 0, 0, 0), (130, .invokestatic 276, 169, 3, 7058), (133, .iastore, 0, 0, 0)]),
  (146, [(134, .iinc 3 1, 0, 0, 0), (137, .goto (-133), 4, 0, 0), (140, .aload_n 0, 0, 0, 0), (141, .getfield 113, 12, 20, 6056), (144, .iconst 0, 0, 0, 0), (145, .iaload, 0, 0, 0), (146, .ireturn, 0, 0, 0)])]
def mO169 : List (Nat × List (Nat × mOp)) := [(44, [(0, .iload_n 0, 0, 0, 0), (1, .tableswitch 87 4 9 #[39, 43, 47, 51, 62, 73], 0, 0, 0), (40, .iload_n 1, 0, 0, 0), (41, .iload_n 2, 0, 0, 0), (42, .iadd, 0, 0, 0), (43, .ireturn, 0, 0, 0), (44, .iload_n 1, 0, 0, 0)]),
  (51, [(45, .iload_n 2, 0, 0, 0), (46, .isub, 0, 0, 0), (47, .ireturn, 0, 0, 0), (48, .iload_n 1, 0, 0, 0), (49, .iload_n 2, 0, 0, 0), (50, .imul, 0, 0, 0), (51, .ireturn, 0, 0, 0)]),
  (62, [(52, .iload_n 1, 0, 0, 0), (53, .iload_n 2, 0, 0, 0), (54, .if_icmp .ge 7, 61, 0, 0), (57, .iconst 1, 0, 0, 0), (58, .goto 4, 62, 0, 0), (61, .iconst 0, 0, 0, 0), (62, .ireturn, 0, 0, 0)]),
  (73, [(63, .iload_n 1, 0, 0, 0), (64, .iload_n 2, 0, 0, 0), (65, .if_icmp .ne 7, 72, 0, 0), (68, .iconst 1, 0, 0, 0), (69, .goto 4, 73, 0, 0), (72, .iconst 0, 0, 0, 0), (73, .ireturn, 0, 0, 0)]),
  (86, [(74, .iload_n 1, 0, 0, 0), (75, .ifCond .eq 11, 86, 0, 0), (78, .iload_n 2, 0, 0, 0), (79, .ifCond .eq 7, 86, 0, 0), (82, .iconst 1, 0, 0, 0), (83, .goto 4, 87, 0, 0), (86, .iconst 0, 0, 0, 0)]),
  (97, [(87, .ireturn, 0, 0, 0), (88, .iload_n 1, 0, 0, 0), (89, .ifCond .ne 7, 96, 0, 0), (92, .iload_n 2, 0, 0, 0), (93, .ifCond .eq 7, 100, 0, 0), (96, .iconst 1, 0, 0, 0), (97, .goto 4, 101, 0, 0)]),
  (101, [(100, .iconst 0, 0, 0, 0), (101, .ireturn, 0, 0, 0)])]
def mO170 : List (Nat × List (Nat × mOp)) := [(4, [(0, .aload_n 0, 0, 0, 0), (1, .iload_n 1, 0, 0, 0), (2, .bipush 6, 0, 0, 0), (4, .invokevirtual 286, 161, 3, 7027)]),
  (10, [(7, .aload_n 0, 0, 0, 0), (8, .iload_n 1, 0, 0, 0), (9, .iconst 0, 0, 0, 0), (10, .invokevirtual 286, 161, 3, 7027)]),
  (18, [(13, .iconst 2, 0, 0, 0), (14, .if_icmp .ne 7, 21, 0, 0), (17, .iconst 5, 0, 0, 0), (18, .goto 4, 22, 0, 0)]),
  (23, [(21, .iconst 0, 0, 0, 0), (22, .iadd, 0, 0, 0), (23, .ireturn, 0, 0, 0)])]
def mO171 : List (Nat × List (Nat × mOp)) := [(3, [(0, .iload_n 1, 0, 0, 0), (1, .istore_n 2, 0, 0, 0), (2, .iload_n 2, 0, 0, 0), (3, .ifCond .le 19, 22, 0, 0)]),
  (9, [(6, .aload_n 0, 0, 0, 0), (7, .iload_n 2, 0, 0, 0), (8, .iconst 1, 0, 0, 0), (9, .isub, 0, 0, 0)]),
  (19, [(10, .invokevirtual 292, 172, 2, 7069), (13, .ifCond .ne 9, 22, 0, 0), (16, .iinc 2 (-1), 0, 0, 0), (19, .goto (-17), 2, 0, 0)]),
  (23, [(22, .iload_n 2, 0, 0, 0), (23, .ireturn, 0, 0, 0)])]
def mO172 : List (Nat × List (Nat × mOp)) := [(7, [(0, .aload_n 0, 0, 0, 0), (1, .getfield 95, 12, 10, 6046), (4, .sipush 290, 0, 0, 0), (7, .iconst 3, 0, 0, 0)]),
  (11, [(8, .iload_n 1, 0, 0, 0), (9, .imul, 0, 0, 0), (10, .iadd, 0, 0, 0), (11, .iconst 2, 0, 0, 0)]),
  (15, [(12, .iadd, 0, 0, 0), (13, .iaload, 0, 0, 0), (14, .iconst 1, 0, 0, 0), (15, .if_icmp .ne 7, 22, 0, 0)]),
  (23, [(18, .iconst 1, 0, 0, 0), (19, .goto 4, 23, 0, 0), (22, .iconst 0, 0, 0, 0), (23, .ireturn, 1, 0, 0)])]
def mO173 : List (Nat × List (Nat × mOp)) := [(13, [(0, .aload_n 0, 0, 0, 0), (1, .iconst 0, 0, 0, 0), (2, .putfield 1, 12, 0, 6036), (5, .aload_n 0, 0, 0, 0), (6, .iload_n 1, 0, 0, 0), (7, .invokevirtual 327, 174, 2, 7077), (10, .ifCond .eq 12, 22, 0, 0), (13, .iload_n 2, 0, 0, 0)]),
  (25, [(14, .iconst 0, 0, 0, 0), (15, .iconst 3, 0, 0, 0), (16, .invokestatic 330, 175, 3, 7081), (19, .ifCond .ne 5, 24, 0, 0), (22, .iconst (-1), 0, 0, 0), (23, .ireturn, 0, 0, 0), (24, .iload_n 2, 0, 0, 0), (25, .iconst 3, 0, 0, 0)]),
  (39, [(26, .if_icmp .ge 18, 44, 0, 0), (29, .aload_n 0, 0, 0, 0), (30, .getfield 95, 12, 10, 6046), (33, .sipush 290, 0, 0, 0), (36, .iconst 3, 0, 0, 0), (37, .iload_n 1, 0, 0, 0), (38, .imul, 0, 0, 0), (39, .iadd, 0, 0, 0)]),
  (47, [(40, .iload_n 2, 0, 0, 0), (41, .iadd, 0, 0, 0), (42, .iaload, 0, 0, 0), (43, .ireturn, 0, 0, 0), (44, .aload_n 0, 0, 0, 0), (45, .iconst 0, 0, 0, 0), (46, .iconst 0, 0, 0, 0), (47, .aload_n 0, 0, 0, 0)]),
  (59, [(48, .getfield 95, 12, 10, 6046), (51, .iconst 3, 0, 0, 0), (52, .iaload, 0, 0, 0), (53, .iconst 0, 0, 0, 0), (54, .invokevirtual 334, 176, 5, 7084), (57, .aload_n 0, 0, 0, 0), (58, .iload_n 1, 0, 0, 0), (59, .invokevirtual 292, 172, 2, 7069)]),
  (75, [(62, .ifCond .eq 7, 69, 0, 0), (65, .iconst (-1), 0, 0, 0), (66, .goto 18, 84, 0, 0), (69, .aload_n 0, 0, 0, 0), (70, .aload_n 0, 0, 0, 0), (71, .iload_n 1, 0, 0, 0), (72, .invokevirtual 309, 171, 2, 7065), (75, .aload_n 0, 0, 0, 0)]),
  (84, [(76, .iload_n 1, 0, 0, 0), (77, .invokevirtual 312, 177, 2, 7088), (80, .iload_n 1, 0, 0, 0), (81, .invokevirtual 315, 178, 4, 7092), (84, .ireturn, 0, 0, 0)])]
def mO174 : List (Nat × List (Nat × mOp)) := [(5, [(0, .iload_n 1, 0, 0, 0), (1, .ifCond .lt 15, 16, 0, 0), (4, .iload_n 1, 0, 0, 0), (5, .aload_n 0, 0, 0, 0)]),
  (13, [(6, .invokevirtual 221, 158, 1, 7015), (9, .if_icmp .ge 7, 16, 0, 0), (12, .iconst 1, 0, 0, 0), (13, .goto 4, 17, 0, 0)]),
  (17, [(16, .iconst 0, 0, 0, 0), (17, .ireturn, 1, 0, 0)])]
def mO175 : List (Nat × List (Nat × mOp)) := [(5, [(0, .iload_n 0, 0, 0, 0), (1, .iload_n 1, 0, 0, 0), (2, .if_icmp .lt 12, 14, 0, 0), (5, .iload_n 0, 0, 0, 0)]),
  (11, [(6, .iload_n 2, 0, 0, 0), (7, .if_icmp .gt 7, 14, 0, 0), (10, .iconst 1, 0, 0, 0), (11, .goto 4, 15, 0, 0)]),
  (15, [(14, .iconst 0, 0, 0, 0), (15, .ireturn, 1, 0, 0)])]
def mO176 : List (Nat × List (Nat × mOp)) := [(9, [(0, .iconst 0, 0, 0, 0), (1, .istore 5, 0, 0, 0), (3, .iload 5, 0, 0, 0), (5, .aload_n 0, 0, 0, 0), (6, .invokevirtual 279, 159, 1, 7019), (9, .if_icmp .ge 43, 52, 0, 0)]),
  (21, [(12, .aload_n 0, 0, 0, 0), (13, .getfield 120, 12, 22, 6058), (16, .iload 5, 0, 0, 0), (18, .aload_n 0, 0, 0, 0), (19, .iload 5, 0, 0, 0), (21, .aload_n 0, 0, 0, 0)]),
  (30, [(22, .iload 5, 0, 0, 0), (24, .iconst 1, 0, 0, 0), (25, .invokevirtual 286, 161, 3, 7027), (28, .iload_n 1, 0, 0, 0), (29, .iadd, 0, 0, 0), (30, .aload_n 0, 0, 0, 0)]),
  (39, [(31, .iload 5, 0, 0, 0), (33, .iconst 2, 0, 0, 0), (34, .invokevirtual 286, 161, 3, 7027), (37, .iload_n 2, 0, 0, 0), (38, .iadd, 0, 0, 0), (39, .iload_n 3, 0, 0, 0)]),
  (52, [(40, .iload 4, 0, 0, 0), (42, .invokevirtual 305, 166, 6, 7046), (45, .iastore, 0, 0, 0), (46, .iinc 5 1, 0, 0, 0), (49, .goto (-46), 3, 0, 0), (52, .return_, 0, 0, 0)])]
def mO177 : List (Nat × List (Nat × mOp)) := [(3, [(0, .iload_n 1, 0, 0, 0), (1, .istore_n 2, 0, 0, 0), (2, .iload_n 2, 0, 0, 0), (3, .aload_n 0, 0, 0, 0)]),
  (9, [(4, .invokevirtual 279, 159, 1, 7019), (7, .iconst 1, 0, 0, 0), (8, .isub, 0, 0, 0), (9, .if_icmp .ge 17, 26, 0, 0)]),
  (17, [(12, .aload_n 0, 0, 0, 0), (13, .iload_n 2, 0, 0, 0), (14, .invokevirtual 292, 172, 2, 7069), (17, .ifCond .ne 9, 26, 0, 0)]),
  (27, [(20, .iinc 2 1, 0, 0, 0), (23, .goto (-21), 2, 0, 0), (26, .iload_n 2, 0, 0, 0), (27, .ireturn, 0, 0, 0)])]
def mO178 : List (Nat × List (Nat × mOp)) := [(11, [(0, .iconst 0, 0, 0, 0), (1, .istore 4, 0, 0, 0), (3, .iconst 0, 0, 0, 0), (4, .istore 5, 0, 0, 0), (6, .iload_n 1, 0, 0, 0), (7, .istore 6, 0, 0, 0), (9, .iload 6, 0, 0, 0), (11, .iload_n 2, 0, 0, 0)]),
  (25, [(12, .if_icmp .gt 43, 55, 0, 0), (15, .iload 5, 0, 0, 0), (17, .aload_n 0, 0, 0, 0), (18, .getfield 120, 12, 22, 6058), (21, .iload 6, 0, 0, 0), (23, .iaload, 0, 0, 0), (24, .iadd, 0, 0, 0), (25, .istore 5, 0, 0, 0)]),
  (41, [(27, .iload 4, 0, 0, 0), (29, .iload 6, 0, 0, 0), (31, .iload_n 3, 0, 0, 0), (32, .if_icmp .gt 13, 45, 0, 0), (35, .aload_n 0, 0, 0, 0), (36, .getfield 120, 12, 22, 6058), (39, .iload 6, 0, 0, 0), (41, .iaload, 0, 0, 0)]),
  (56, [(42, .goto 4, 46, 0, 0), (45, .iconst 0, 0, 0, 0), (46, .iadd, 0, 0, 0), (47, .istore 4, 0, 0, 0), (49, .iinc 6 1, 0, 0, 0), (52, .goto (-43), 9, 0, 0), (55, .iload_n 2, 0, 0, 0), (56, .iload_n 1, 0, 0, 0)]),
  (65, [(57, .isub, 0, 0, 0), (58, .iconst 1, 0, 0, 0), (59, .iadd, 0, 0, 0), (60, .iload 4, 0, 0, 0), (62, .imul, 0, 0, 0), (63, .iload_n 3, 0, 0, 0), (64, .iload_n 1, 0, 0, 0), (65, .isub, 0, 0, 0)]),
  (76, [(66, .iconst 1, 0, 0, 0), (67, .iadd, 0, 0, 0), (68, .iload 5, 0, 0, 0), (70, .imul, 0, 0, 0), (71, .isub, 0, 0, 0), (72, .istore 6, 0, 0, 0), (74, .iload 6, 0, 0, 0), (76, .ifCond .ge 9, 85, 0, 0)]),
  (87, [(79, .iload 6, 0, 0, 0), (81, .ineg, 0, 0, 0), (82, .goto 5, 87, 0, 0), (85, .iload 6, 0, 0, 0), (87, .ireturn, 0, 0, 0)])]
def mO179 : List (Nat × List (Nat × mOp)) := [(15, [(0, .aload_n 0, 0, 0, 0), (1, .iconst 0, 0, 0, 0), (2, .putfield 1, 12, 0, 6036), (5, .aload_n 0, 0, 0, 0), (6, .iload_n 1, 0, 0, 0), (7, .iload_n 2, 0, 0, 0), (8, .invokevirtual 282, 180, 3, 7100), (11, .ifCond .eq 12, 23, 0, 0), (14, .iload_n 3, 0, 0, 0), (15, .iconst 0, 0, 0, 0)]),
  (31, [(16, .iconst 3, 0, 0, 0), (17, .invokestatic 330, 175, 3, 7081), (20, .ifCond .ne 5, 25, 0, 0), (23, .iconst (-1), 0, 0, 0), (24, .ireturn, 0, 0, 0), (25, .iconst 0, 0, 0, 0), (26, .istore 4, 0, 0, 0), (28, .iconst 0, 0, 0, 0), (29, .istore 5, 0, 0, 0), (31, .iload 5, 0, 0, 0)]),
  (50, [(33, .aload_n 0, 0, 0, 0), (34, .invokevirtual 279, 159, 1, 7019), (37, .if_icmp .ge 44, 81, 0, 0), (40, .iload 4, 0, 0, 0), (42, .aload_n 0, 0, 0, 0), (43, .iload 5, 0, 0, 0), (45, .iconst 1, 0, 0, 0), (46, .invokevirtual 286, 161, 3, 7027), (49, .iload_n 1, 0, 0, 0), (50, .if_icmp .ne 21, 71, 0, 0)]),
  (68, [(53, .aload_n 0, 0, 0, 0), (54, .iload 5, 0, 0, 0), (56, .iconst 2, 0, 0, 0), (57, .invokevirtual 286, 161, 3, 7027), (60, .iload_n 2, 0, 0, 0), (61, .if_icmp .ne 10, 71, 0, 0), (64, .iconst 1, 0, 0, 0), (65, .iload 5, 0, 0, 0), (67, .ishl, 0, 0, 0), (68, .goto 4, 72, 0, 0)]),
  (87, [(71, .iconst 0, 0, 0, 0), (72, .ior, 0, 0, 0), (73, .istore 4, 0, 0, 0), (75, .iinc 5 1, 0, 0, 0), (78, .goto (-47), 31, 0, 0), (81, .bipush 10, 0, 0, 0), (83, .iconst 3, 0, 0, 0), (84, .bipush 8, 0, 0, 0), (86, .iload_n 2, 0, 0, 0), (87, .imul, 0, 0, 0)]),
  (102, [(88, .iload_n 1, 0, 0, 0), (89, .iadd, 0, 0, 0), (90, .imul, 0, 0, 0), (91, .iadd, 0, 0, 0), (92, .istore 5, 0, 0, 0), (94, .iload_n 3, 0, 0, 0), (95, .ifCond .ne 15, 110, 0, 0), (98, .aload_n 0, 0, 0, 0), (99, .getfield 95, 12, 10, 6046), (102, .iload 5, 0, 0, 0)]),
  (117, [(104, .iconst 2, 0, 0, 0), (105, .iadd, 0, 0, 0), (106, .iaload, 0, 0, 0), (107, .goto 41, 148, 0, 0), (110, .iload_n 3, 0, 0, 0), (111, .iconst 1, 0, 0, 0), (112, .if_icmp .ne 19, 131, 0, 0), (115, .aload_n 0, 0, 0, 0), (116, .iload_n 1, 0, 0, 0), (117, .iload_n 2, 0, 0, 0)]),
  (133, [(118, .aload_n 0, 0, 0, 0), (119, .getfield 95, 12, 10, 6046), (122, .iconst 3, 0, 0, 0), (123, .iaload, 0, 0, 0), (124, .iconst 0, 0, 0, 0), (125, .invokevirtual 298, 167, 5, 7050), (128, .goto 20, 148, 0, 0), (131, .iload_n 3, 0, 0, 0), (132, .iconst 2, 0, 0, 0), (133, .if_icmp .ne 13, 146, 0, 0)]),
  (148, [(136, .aload_n 0, 0, 0, 0), (137, .getfield 95, 12, 10, 6046), (140, .iload 5, 0, 0, 0), (142, .iaload, 0, 0, 0), (143, .goto 5, 148, 0, 0), (146, .iload 4, 0, 0, 0), (148, .ireturn, 0, 0, 0)])]
def mO180 : List (Nat × List (Nat × mOp)) := [(6, [(0, .iload_n 1, 0, 0, 0), (1, .ifCond .lt 31, 32, 0, 0), (4, .iload_n 1, 0, 0, 0), (5, .aload_n 0, 0, 0, 0), (6, .getfield 95, 12, 10, 6046)]),
  (15, [(9, .iconst 0, 0, 0, 0), (10, .iaload, 0, 0, 0), (11, .if_icmp .ge 21, 32, 0, 0), (14, .iload_n 2, 0, 0, 0), (15, .ifCond .lt 17, 32, 0, 0)]),
  (24, [(18, .iload_n 2, 0, 0, 0), (19, .aload_n 0, 0, 0, 0), (20, .getfield 95, 12, 10, 6046), (23, .iconst 1, 0, 0, 0), (24, .iaload, 0, 0, 0)]),
  (33, [(25, .if_icmp .ge 7, 32, 0, 0), (28, .iconst 1, 0, 0, 0), (29, .goto 4, 33, 0, 0), (32, .iconst 0, 0, 0, 0), (33, .ireturn, 1, 0, 0)])]
def mO181 : List (Nat × List (Nat × mOp)) := [(7, [(0, .aload_n 0, 0, 0, 0), (1, .iconst 0, 0, 0, 0), (2, .putfield 1, 12, 0, 6036), (5, .aload_n 0, 0, 0, 0), (6, .iload_n 1, 0, 0, 0), (7, .invokevirtual 321, 164, 2, 7038)]),
  (19, [(10, .ifCond .eq 12, 22, 0, 0), (13, .iload_n 2, 0, 0, 0), (14, .iconst 0, 0, 0, 0), (15, .iconst 4, 0, 0, 0), (16, .invokestatic 330, 175, 3, 7081), (19, .ifCond .ne 5, 24, 0, 0)]),
  (31, [(22, .iconst 0, 0, 0, 0), (23, .ireturn, 1, 0, 0), (24, .aload_n 0, 0, 0, 0), (25, .getfield 95, 12, 10, 6046), (28, .sipush 202, 0, 0, 0), (31, .bipush 12, 0, 0, 0)]),
  (40, [(33, .aload_n 0, 0, 0, 0), (34, .iload_n 1, 0, 0, 0), (35, .invokevirtual 309, 171, 2, 7065), (38, .imul, 0, 0, 0), (39, .iadd, 0, 0, 0), (40, .bipush 10, 0, 0, 0)]),
  (46, [(42, .iadd, 0, 0, 0), (43, .iload_n 2, 0, 0, 0), (44, .iastore, 0, 0, 0), (45, .iconst 1, 0, 0, 0), (46, .ireturn, 1, 0, 0)])]
def mO182 : List (Nat × List (Nat × mOp)) := [(6, [(0, .aload_n 0, 0, 0, 0), (1, .iconst 0, 0, 0, 0), (2, .putfield 1, 12, 0, 6036), (5, .iload_n 1, 0, 0, 0), (6, .iconst 1, 0, 0, 0)]),
  (16, [(7, .bipush 100, 0, 0, 0), (9, .invokestatic 330, 175, 3, 7081), (12, .ifCond .ne 5, 17, 0, 0), (15, .iconst (-1), 0, 0, 0), (16, .ireturn, 0, 0, 0)]),
  (21, [(17, .iconst 0, 0, 0, 0), (18, .istore_n 2, 0, 0, 0), (19, .iload_n 2, 0, 0, 0), (20, .iload_n 1, 0, 0, 0), (21, .if_icmp .ge 13, 34, 0, 0)]),
  (34, [(24, .aload_n 0, 0, 0, 0), (25, .invokevirtual 370, 183, 1, 7112), (28, .iinc 2 1, 0, 0, 0), (31, .goto (-12), 19, 0, 0), (34, .aload_n 0, 0, 0, 0)]),
  (40, [(35, .getfield 95, 12, 10, 6046), (38, .iconst 3, 0, 0, 0), (39, .iaload, 0, 0, 0), (40, .ireturn, 0, 0, 0)])]
def mO183 : List (Nat × List (Nat × mOp)) := [(15, [(0, .aload_n 0, 0, 0, 0), (1, .invokevirtual 361, 184, 1, 7116), (4, .aload_n 0, 0, 0, 0), (5, .invokevirtual 364, 189, 1, 7134), (8, .aload_n 0, 0, 0, 0), (9, .iconst 0, 0, 0, 0), (10, .aload_n 0, 0, 0, 0), (11, .invokevirtual 279, 159, 1, 7019), (14, .iconst 1, 0, 0, 0), (15, .isub, 0, 0, 0)]),
  (29, [(16, .iconst 0, 0, 0, 0), (17, .iconst 0, 0, 0, 0), (18, .invokevirtual 367, 192, 5, 7146), (21, .pop, 0, 0, 0), (22, .iconst 0, 0, 0, 0), (23, .istore_n 1, 0, 0, 0), (24, .iload_n 1, 0, 0, 0), (25, .aload_n 0, 0, 0, 0), (26, .invokevirtual 279, 159, 1, 7019), (29, .if_icmp .ge 48, 77, 0, 0)]),
  (47, [(32, .aload_n 0, 0, 0, 0), (33, .getfield 95, 12, 10, 6046), (36, .sipush 202, 0, 0, 0), (39, .bipush 12, 0, 0, 0), (41, .iload_n 1, 0, 0, 0), (42, .imul, 0, 0, 0), (43, .iadd, 0, 0, 0), (44, .bipush 8, 0, 0, 0), (46, .iadd, 0, 0, 0), (47, .aload_n 0, 0, 0, 0)]),
  (64, [(48, .getfield 129, 12, 25, 6061), (51, .iload_n 1, 0, 0, 0), (52, .iaload, 0, 0, 0), (53, .iastore, 0, 0, 0), (54, .aload_n 0, 0, 0, 0), (55, .getfield 95, 12, 10, 6046), (58, .sipush 202, 0, 0, 0), (61, .bipush 12, 0, 0, 0), (63, .iload_n 1, 0, 0, 0), (64, .imul, 0, 0, 0)]),
  (79, [(65, .iadd, 0, 0, 0), (66, .bipush 10, 0, 0, 0), (68, .iadd, 0, 0, 0), (69, .iconst 0, 0, 0, 0), (70, .iastore, 0, 0, 0), (71, .iinc 1 1, 0, 0, 0), (74, .goto (-50), 24, 0, 0), (77, .iconst 0, 0, 0, 0), (78, .istore_n 1, 0, 0, 0), (79, .iload_n 1, 0, 0, 0)]),
  (93, [(80, .bipush 64, 0, 0, 0), (82, .if_icmp .ge 58, 140, 0, 0), (85, .bipush 10, 0, 0, 0), (87, .iconst 3, 0, 0, 0), (88, .iload_n 1, 0, 0, 0), (89, .imul, 0, 0, 0), (90, .iadd, 0, 0, 0), (91, .istore_n 2, 0, 0, 0), (92, .aload_n 0, 0, 0, 0), (93, .getfield 95, 12, 10, 6046)]),
  (109, [(96, .iload_n 2, 0, 0, 0), (97, .iconst 2, 0, 0, 0), (98, .iadd, 0, 0, 0), (99, .aload_n 0, 0, 0, 0), (100, .getfield 126, 12, 24, 6060), (103, .iload_n 1, 0, 0, 0), (104, .iaload, 0, 0, 0), (105, .aload_n 0, 0, 0, 0), (106, .getfield 95, 12, 10, 6046), (109, .iload_n 2, 0, 0, 0)]),
  (123, [(110, .iconst 1, 0, 0, 0), (111, .iadd, 0, 0, 0), (112, .iaload, 0, 0, 0), (113, .if_icmp .ge 14, 127, 0, 0), (116, .aload_n 0, 0, 0, 0), (117, .getfield 126, 12, 24, 6060), (120, .iload_n 1, 0, 0, 0), (121, .iaload, 0, 0, 0), (122, .iconst 1, 0, 0, 0), (123, .iadd, 0, 0, 0)]),
  (141, [(124, .goto 9, 133, 0, 0), (127, .aload_n 0, 0, 0, 0), (128, .getfield 126, 12, 24, 6060), (131, .iload_n 1, 0, 0, 0), (132, .iaload, 0, 0, 0), (133, .iastore, 0, 0, 0), (134, .iinc 1 1, 0, 0, 0), (137, .goto (-58), 79, 0, 0), (140, .aload_n 0, 0, 0, 0), (141, .getfield 95, 12, 10, 6046)]),
  (150, [(144, .iconst 3, 0, 0, 0), (145, .dup2, 0, 0, 0), (146, .iaload, 0, 0, 0), (147, .iconst 1, 0, 0, 0), (148, .iadd, 0, 0, 0), (149, .iastore, 0, 0, 0), (150, .return_, 0, 0, 0)])]
def mO184 : List (Nat × List (Nat × mOp)) := [(12, [(0, .iconst 0, 0, 0, 0), (1, .istore_n 1, 0, 0, 0), (2, .iload_n 1, 0, 0, 0), (3, .aload_n 0, 0, 0, 0), (4, .invokevirtual 279, 159, 1, 7019), (7, .if_icmp .ge 103, 110, 0, 0), (10, .aload_n 0, 0, 0, 0), (11, .iload_n 1, 0, 0, 0), (12, .invokevirtual 312, 177, 2, 7088)]),
  (26, [(15, .istore_n 2, 0, 0, 0), (16, .aload_n 0, 0, 0, 0), (17, .iload_n 1, 0, 0, 0), (18, .bipush 10, 0, 0, 0), (20, .invokevirtual 286, 161, 3, 7027), (23, .istore_n 3, 0, 0, 0), (24, .aload_n 0, 0, 0, 0), (25, .iload_n 1, 0, 0, 0), (26, .iload_n 2, 0, 0, 0)]),
  (39, [(27, .iconst 0, 0, 0, 0), (28, .iconst 0, 0, 0, 0), (29, .iload_n 3, 0, 0, 0), (30, .aload_n 0, 0, 0, 0), (31, .getfield 95, 12, 10, 6046), (34, .iconst 3, 0, 0, 0), (35, .iaload, 0, 0, 0), (36, .invokevirtual 347, 185, 7, 7120), (39, .ifCond .eq 64, 103, 0, 0)]),
  (58, [(42, .iload_n 1, 0, 0, 0), (43, .istore 4, 0, 0, 0), (45, .iload 4, 0, 0, 0), (47, .iload_n 2, 0, 0, 0), (48, .if_icmp .gt 55, 103, 0, 0), (51, .aload_n 0, 0, 0, 0), (52, .getfield 95, 12, 10, 6046), (55, .sipush 202, 0, 0, 0), (58, .bipush 12, 0, 0, 0)]),
  (69, [(60, .iload 4, 0, 0, 0), (62, .imul, 0, 0, 0), (63, .iadd, 0, 0, 0), (64, .iconst 1, 0, 0, 0), (65, .iadd, 0, 0, 0), (66, .dup2, 0, 0, 0), (67, .iaload, 0, 0, 0), (68, .iload_n 3, 0, 0, 0), (69, .invokestatic 338, 186, 1, 7124)]),
  (86, [(72, .iadd, 0, 0, 0), (73, .iastore, 0, 0, 0), (74, .aload_n 0, 0, 0, 0), (75, .getfield 95, 12, 10, 6046), (78, .sipush 202, 0, 0, 0), (81, .bipush 12, 0, 0, 0), (83, .iload 4, 0, 0, 0), (85, .imul, 0, 0, 0), (86, .iadd, 0, 0, 0)]),
  (97, [(87, .iconst 2, 0, 0, 0), (88, .iadd, 0, 0, 0), (89, .dup2, 0, 0, 0), (90, .iaload, 0, 0, 0), (91, .iload_n 3, 0, 0, 0), (92, .invokestatic 341, 187, 1, 7127), (95, .iadd, 0, 0, 0), (96, .iastore, 0, 0, 0), (97, .iinc 4 1, 0, 0, 0)]),
  (110, [(100, .goto (-55), 45, 0, 0), (103, .iload_n 2, 0, 0, 0), (104, .iconst 1, 0, 0, 0), (105, .iadd, 0, 0, 0), (106, .istore_n 1, 0, 0, 0), (107, .goto (-105), 2, 0, 0), (110, .return_, 0, 0, 0)])]
def mO185 : List (Nat × List (Nat × mOp)) := [(12, [(0, .iconst 1, 0, 0, 0), (1, .istore 7, 0, 0, 0), (3, .iload_n 1, 0, 0, 0), (4, .istore 8, 0, 0, 0), (6, .iload 8, 0, 0, 0), (8, .iload_n 2, 0, 0, 0), (9, .if_icmp .gt 82, 91, 0, 0), (12, .iload 5, 0, 0, 0)]),
  (27, [(14, .ifCond .le 77, 91, 0, 0), (17, .iload 7, 0, 0, 0), (19, .ifCond .eq 63, 82, 0, 0), (22, .aload_n 0, 0, 0, 0), (23, .aload_n 0, 0, 0, 0), (24, .iload 8, 0, 0, 0), (26, .iconst 1, 0, 0, 0), (27, .invokevirtual 286, 161, 3, 7027)]),
  (41, [(30, .iload_n 3, 0, 0, 0), (31, .iadd, 0, 0, 0), (32, .iload 5, 0, 0, 0), (34, .invokestatic 338, 186, 1, 7124), (37, .iadd, 0, 0, 0), (38, .aload_n 0, 0, 0, 0), (39, .iload 8, 0, 0, 0), (41, .iconst 2, 0, 0, 0)]),
  (57, [(42, .invokevirtual 286, 161, 3, 7027), (45, .iload 4, 0, 0, 0), (47, .iadd, 0, 0, 0), (48, .iload 5, 0, 0, 0), (50, .invokestatic 341, 187, 1, 7127), (53, .iadd, 0, 0, 0), (54, .invokevirtual 344, 188, 3, 7130), (57, .ifCond .eq 25, 82, 0, 0)]),
  (73, [(60, .aload_n 0, 0, 0, 0), (61, .iload 8, 0, 0, 0), (63, .iconst 0, 0, 0, 0), (64, .invokevirtual 286, 161, 3, 7027), (67, .iconst 1, 0, 0, 0), (68, .if_icmp .ne 10, 78, 0, 0), (71, .iload 6, 0, 0, 0), (73, .iconst 2, 0, 0, 0)]),
  (88, [(74, .irem, 0, 0, 0), (75, .ifCond .ne 7, 82, 0, 0), (78, .iconst 1, 0, 0, 0), (79, .goto 4, 83, 0, 0), (82, .iconst 0, 0, 0, 0), (83, .istore 7, 0, 0, 0), (85, .iinc 8 1, 0, 0, 0), (88, .goto (-82), 6, 0, 0)]),
  (93, [(91, .iload 7, 0, 0, 0), (93, .ireturn, 1, 0, 0)])]
def mO186 : List (Nat × List (Nat × mOp)) := [(5, [(0, .iload_n 0, 0, 0, 0), (1, .iconst 2, 0, 0, 0), (2, .if_icmp .ne 7, 9, 0, 0), (5, .iconst 1, 0, 0, 0)]),
  (11, [(6, .goto 13, 19, 0, 0), (9, .iload_n 0, 0, 0, 0), (10, .iconst 4, 0, 0, 0), (11, .if_icmp .ne 7, 18, 0, 0)]),
  (19, [(14, .iconst (-1), 0, 0, 0), (15, .goto 4, 19, 0, 0), (18, .iconst 0, 0, 0, 0), (19, .ireturn, 0, 0, 0)])]
def mO187 : List (Nat × List (Nat × mOp)) := [(5, [(0, .iload_n 0, 0, 0, 0), (1, .iconst 1, 0, 0, 0), (2, .if_icmp .ne 7, 9, 0, 0), (5, .iconst 1, 0, 0, 0)]),
  (11, [(6, .goto 13, 19, 0, 0), (9, .iload_n 0, 0, 0, 0), (10, .iconst 3, 0, 0, 0), (11, .if_icmp .ne 7, 18, 0, 0)]),
  (19, [(14, .iconst (-1), 0, 0, 0), (15, .goto 4, 19, 0, 0), (18, .iconst 0, 0, 0, 0), (19, .ireturn, 0, 0, 0)])]
def mO188 : List (Nat × List (Nat × mOp)) := [(6, [(0, .aload_n 0, 0, 0, 0), (1, .iload_n 1, 0, 0, 0), (2, .iload_n 2, 0, 0, 0), (3, .invokevirtual 282, 180, 3, 7100), (6, .ifCond .eq 26, 32, 0, 0)]),
  (16, [(9, .aload_n 0, 0, 0, 0), (10, .getfield 95, 12, 10, 6046), (13, .bipush 10, 0, 0, 0), (15, .iconst 3, 0, 0, 0), (16, .bipush 8, 0, 0, 0)]),
  (22, [(18, .iload_n 2, 0, 0, 0), (19, .imul, 0, 0, 0), (20, .iload_n 1, 0, 0, 0), (21, .iadd, 0, 0, 0), (22, .imul, 0, 0, 0)]),
  (29, [(23, .iadd, 0, 0, 0), (24, .iaload, 0, 0, 0), (25, .ifCond .ne 7, 32, 0, 0), (28, .iconst 1, 0, 0, 0), (29, .goto 4, 33, 0, 0)]),
  (33, [(32, .iconst 0, 0, 0, 0), (33, .ireturn, 1, 0, 0)])]
def mO189 : List (Nat × List (Nat × mOp)) := [(10, [(0, .aload_n 0, 0, 0, 0), (1, .iconst 0, 0, 0, 0), (2, .iconst 0, 0, 0, 0), (3, .aload_n 0, 0, 0, 0), (4, .getfield 95, 12, 10, 6046), (7, .iconst 3, 0, 0, 0), (8, .iaload, 0, 0, 0), (9, .iconst 0, 0, 0, 0), (10, .invokevirtual 334, 176, 5, 7084)]),
  (27, [(13, .iconst 0, 0, 0, 0), (14, .istore_n 1, 0, 0, 0), (15, .iload_n 1, 0, 0, 0), (16, .aload_n 0, 0, 0, 0), (17, .invokevirtual 221, 158, 1, 7015), (20, .if_icmp .ge 36, 56, 0, 0), (23, .aload_n 0, 0, 0, 0), (24, .getfield 123, 12, 23, 6059), (27, .iload_n 1, 0, 0, 0)]),
  (44, [(28, .aload_n 0, 0, 0, 0), (29, .iload_n 1, 0, 0, 0), (30, .invokevirtual 292, 172, 2, 7069), (33, .ifCond .ne 15, 48, 0, 0), (36, .aload_n 0, 0, 0, 0), (37, .iload_n 1, 0, 0, 0), (38, .invokevirtual 351, 190, 2, 7138), (41, .ifCond .eq 7, 48, 0, 0), (44, .iconst 1, 0, 0, 0)]),
  (59, [(45, .goto 4, 49, 0, 0), (48, .iconst 0, 0, 0, 0), (49, .bastore, 0, 0, 0), (50, .iinc 1 1, 0, 0, 0), (53, .goto (-38), 15, 0, 0), (56, .iconst 0, 0, 0, 0), (57, .istore_n 1, 0, 0, 0), (58, .iload_n 1, 0, 0, 0), (59, .aload_n 0, 0, 0, 0)]),
  (76, [(60, .invokevirtual 221, 158, 1, 7015), (63, .if_icmp .ge 50, 113, 0, 0), (66, .aload_n 0, 0, 0, 0), (67, .getfield 95, 12, 10, 6046), (70, .sipush 290, 0, 0, 0), (73, .iconst 3, 0, 0, 0), (74, .iload_n 1, 0, 0, 0), (75, .imul, 0, 0, 0), (76, .iadd, 0, 0, 0)]),
  (89, [(77, .iconst 2, 0, 0, 0), (78, .iadd, 0, 0, 0), (79, .aload_n 0, 0, 0, 0), (80, .getfield 123, 12, 23, 6059), (83, .iload_n 1, 0, 0, 0), (84, .baload, 0, 0, 0), (85, .ifCond .eq 7, 92, 0, 0), (88, .iconst 1, 0, 0, 0), (89, .goto 17, 106, 0, 0)]),
  (104, [(92, .aload_n 0, 0, 0, 0), (93, .getfield 95, 12, 10, 6046), (96, .sipush 290, 0, 0, 0), (99, .iconst 3, 0, 0, 0), (100, .iload_n 1, 0, 0, 0), (101, .imul, 0, 0, 0), (102, .iadd, 0, 0, 0), (103, .iconst 2, 0, 0, 0), (104, .iadd, 0, 0, 0)]),
  (113, [(105, .iaload, 0, 0, 0), (106, .iastore, 0, 0, 0), (107, .iinc 1 1, 0, 0, 0), (110, .goto (-52), 58, 0, 0), (113, .return_, 0, 0, 0)])]
def mO190 : List (Nat × List (Nat × mOp)) := [(7, [(0, .aload_n 0, 0, 0, 0), (1, .iload_n 1, 0, 0, 0), (2, .invokevirtual 309, 171, 2, 7065), (5, .istore_n 2, 0, 0, 0), (6, .aload_n 0, 0, 0, 0), (7, .iload_n 1, 0, 0, 0)]),
  (15, [(8, .invokevirtual 312, 177, 2, 7088), (11, .istore_n 3, 0, 0, 0), (12, .aload_n 0, 0, 0, 0), (13, .iload_n 2, 0, 0, 0), (14, .iload_n 3, 0, 0, 0), (15, .iload_n 1, 0, 0, 0)]),
  (23, [(16, .invokevirtual 315, 178, 4, 7092), (19, .iload_n 3, 0, 0, 0), (20, .iload_n 2, 0, 0, 0), (21, .isub, 0, 0, 0), (22, .iconst 1, 0, 0, 0), (23, .iadd, 0, 0, 0)]),
  (33, [(24, .aload_n 0, 0, 0, 0), (25, .iload_n 1, 0, 0, 0), (26, .invokevirtual 318, 191, 2, 7142), (29, .imul, 0, 0, 0), (30, .if_icmp .le 7, 37, 0, 0), (33, .iconst 1, 0, 0, 0)]),
  (38, [(34, .goto 4, 38, 0, 0), (37, .iconst 0, 0, 0, 0), (38, .ireturn, 1, 0, 0)])]
def mO191 : List (Nat × List (Nat × mOp)) := [(7, [(0, .aload_n 0, 0, 0, 0), (1, .getfield 95, 12, 10, 6046), (4, .sipush 290, 0, 0, 0), (7, .iconst 3, 0, 0, 0)]),
  (11, [(8, .iload_n 1, 0, 0, 0), (9, .imul, 0, 0, 0), (10, .iadd, 0, 0, 0), (11, .iconst 1, 0, 0, 0)]),
  (14, [(12, .iadd, 0, 0, 0), (13, .iaload, 0, 0, 0), (14, .ireturn, 0, 0, 0)])]
def mO192 : List (Nat × List (Nat × mOp)) := [(20, [(0, .iconst 0, 0, 0, 0), (1, .istore 5, 0, 0, 0), (3, .iload 5, 0, 0, 0), (5, .bipush 64, 0, 0, 0), (7, .if_icmp .ge 30, 37, 0, 0), (10, .aload_n 0, 0, 0, 0), (11, .getfield 126, 12, 24, 6060), (14, .iload 5, 0, 0, 0), (16, .aload_n 0, 0, 0, 0), (17, .getfield 95, 12, 10, 6046), (20, .bipush 10, 0, 0, 0)]),
  (37, [(22, .iconst 3, 0, 0, 0), (23, .iload 5, 0, 0, 0), (25, .imul, 0, 0, 0), (26, .iadd, 0, 0, 0), (27, .iconst 2, 0, 0, 0), (28, .iadd, 0, 0, 0), (29, .iaload, 0, 0, 0), (30, .iastore, 0, 0, 0), (31, .iinc 5 1, 0, 0, 0), (34, .goto (-31), 3, 0, 0), (37, .iconst 0, 0, 0, 0)]),
  (58, [(38, .istore 5, 0, 0, 0), (40, .iload 5, 0, 0, 0), (42, .aload_n 0, 0, 0, 0), (43, .invokevirtual 279, 159, 1, 7019), (46, .if_icmp .ge 24, 70, 0, 0), (49, .aload_n 0, 0, 0, 0), (50, .getfield 129, 12, 25, 6061), (53, .iload 5, 0, 0, 0), (55, .aload_n 0, 0, 0, 0), (56, .iload 5, 0, 0, 0), (58, .bipush 8, 0, 0, 0)]),
  (80, [(60, .invokevirtual 286, 161, 3, 7027), (63, .iastore, 0, 0, 0), (64, .iinc 5 1, 0, 0, 0), (67, .goto (-27), 40, 0, 0), (70, .iload_n 1, 0, 0, 0), (71, .istore 5, 0, 0, 0), (73, .iload 5, 0, 0, 0), (75, .iload_n 2, 0, 0, 0), (76, .if_icmp .gt 50, 126, 0, 0), (79, .aload_n 0, 0, 0, 0), (80, .iload 5, 0, 0, 0)]),
  (98, [(82, .aload_n 0, 0, 0, 0), (83, .iload 5, 0, 0, 0), (85, .iconst 1, 0, 0, 0), (86, .invokevirtual 286, 161, 3, 7027), (89, .iload_n 3, 0, 0, 0), (90, .iadd, 0, 0, 0), (91, .aload_n 0, 0, 0, 0), (92, .iload 5, 0, 0, 0), (94, .iconst 2, 0, 0, 0), (95, .invokevirtual 286, 161, 3, 7027), (98, .iload 4, 0, 0, 0)]),
  (117, [(100, .iadd, 0, 0, 0), (101, .aload_n 0, 0, 0, 0), (102, .iload 5, 0, 0, 0), (104, .iconst 0, 0, 0, 0), (105, .invokevirtual 286, 161, 3, 7027), (108, .iconst 4, 0, 0, 0), (109, .if_icmp .ne 7, 116, 0, 0), (112, .iconst 5, 0, 0, 0), (113, .goto 4, 117, 0, 0), (116, .iconst 3, 0, 0, 0), (117, .invokevirtual 354, 193, 5, 7150)]),
  (141, [(120, .iinc 5 1, 0, 0, 0), (123, .goto (-50), 73, 0, 0), (126, .iload_n 1, 0, 0, 0), (127, .istore 5, 0, 0, 0), (129, .iload 5, 0, 0, 0), (131, .iload_n 2, 0, 0, 0), (132, .if_icmp .ge 27, 159, 0, 0), (135, .aload_n 0, 0, 0, 0), (136, .iload 5, 0, 0, 0), (138, .invokevirtual 292, 172, 2, 7069), (141, .ifCond .ne 12, 153, 0, 0)]),
  (163, [(144, .aload_n 0, 0, 0, 0), (145, .iload 5, 0, 0, 0), (147, .iload_n 3, 0, 0, 0), (148, .iload 4, 0, 0, 0), (150, .invokevirtual 357, 194, 4, 7154), (153, .iinc 5 1, 0, 0, 0), (156, .goto (-27), 129, 0, 0), (159, .iconst 0, 0, 0, 0), (160, .istore 5, 0, 0, 0), (162, .iload_n 1, 0, 0, 0), (163, .istore 6, 0, 0, 0)]),
  (183, [(165, .iload 6, 0, 0, 0), (167, .iload_n 2, 0, 0, 0), (168, .if_icmp .gt 30, 198, 0, 0), (171, .iload 5, 0, 0, 0), (173, .aload_n 0, 0, 0, 0), (174, .getfield 129, 12, 25, 6061), (177, .iload 6, 0, 0, 0), (179, .iaload, 0, 0, 0), (180, .aload_n 0, 0, 0, 0), (181, .iload 6, 0, 0, 0), (183, .bipush 8, 0, 0, 0)]),
  (200, [(185, .invokevirtual 286, 161, 3, 7027), (188, .isub, 0, 0, 0), (189, .iadd, 0, 0, 0), (190, .istore 5, 0, 0, 0), (192, .iinc 6 1, 0, 0, 0), (195, .goto (-30), 165, 0, 0), (198, .iload 5, 0, 0, 0), (200, .ireturn, 0, 0, 0)])]
def mO193 : List (Nat × List (Nat × mOp)) := [(11, [(0, .aload_n 0, 0, 0, 0), (1, .iload_n 1, 0, 0, 0), (2, .invokevirtual 324, 165, 2, 7042), (5, .aload_n 0, 0, 0, 0), (6, .getfield 129, 12, 25, 6061), (9, .iload_n 1, 0, 0, 0), (10, .iaload, 0, 0, 0), (11, .isub, 0, 0, 0)]),
  (23, [(12, .istore 5, 0, 0, 0), (14, .aload_n 0, 0, 0, 0), (15, .getfield 126, 12, 24, 6060), (18, .bipush 8, 0, 0, 0), (20, .iload_n 3, 0, 0, 0), (21, .imul, 0, 0, 0), (22, .iload_n 2, 0, 0, 0), (23, .iadd, 0, 0, 0)]),
  (39, [(24, .iaload, 0, 0, 0), (25, .istore 6, 0, 0, 0), (27, .iload 4, 0, 0, 0), (29, .iload 5, 0, 0, 0), (31, .if_icmp .ge 8, 39, 0, 0), (34, .iload 4, 0, 0, 0), (36, .goto 5, 41, 0, 0), (39, .iload 5, 0, 0, 0)]),
  (57, [(41, .istore 7, 0, 0, 0), (43, .iload 6, 0, 0, 0), (45, .iload 7, 0, 0, 0), (47, .if_icmp .ge 8, 55, 0, 0), (50, .iload 6, 0, 0, 0), (52, .goto 5, 57, 0, 0), (55, .iload 7, 0, 0, 0), (57, .istore 7, 0, 0, 0)]),
  (73, [(59, .iload 7, 0, 0, 0), (61, .ifCond .ge 7, 68, 0, 0), (64, .iconst 0, 0, 0, 0), (65, .goto 5, 70, 0, 0), (68, .iload 7, 0, 0, 0), (70, .istore 7, 0, 0, 0), (72, .aload_n 0, 0, 0, 0), (73, .getfield 126, 12, 24, 6060)]),
  (84, [(76, .bipush 8, 0, 0, 0), (78, .iload_n 3, 0, 0, 0), (79, .imul, 0, 0, 0), (80, .iload_n 2, 0, 0, 0), (81, .iadd, 0, 0, 0), (82, .dup2, 0, 0, 0), (83, .iaload, 0, 0, 0), (84, .iload 7, 0, 0, 0)]),
  (95, [(86, .isub, 0, 0, 0), (87, .iastore, 0, 0, 0), (88, .aload_n 0, 0, 0, 0), (89, .getfield 129, 12, 25, 6061), (92, .iload_n 1, 0, 0, 0), (93, .dup2, 0, 0, 0), (94, .iaload, 0, 0, 0), (95, .iload 7, 0, 0, 0)]),
  (99, [(97, .iadd, 0, 0, 0), (98, .iastore, 0, 0, 0), (99, .return_, 0, 0, 0)])]
def mO194 : List (Nat × List (Nat × mOp)) := [(16, [(0, .aload_n 0, 0, 0, 0), (1, .iload_n 1, 0, 0, 0), (2, .iconst 1, 0, 0, 0), (3, .invokevirtual 286, 161, 3, 7027), (6, .istore 4, 0, 0, 0), (8, .aload_n 0, 0, 0, 0), (9, .iload_n 1, 0, 0, 0), (10, .iconst 2, 0, 0, 0), (11, .invokevirtual 286, 161, 3, 7027), (14, .istore 5, 0, 0, 0), (16, .aload_n 0, 0, 0, 0)]),
  (30, [(17, .iload_n 1, 0, 0, 0), (18, .iconst 1, 0, 0, 0), (19, .iadd, 0, 0, 0), (20, .iconst 1, 0, 0, 0), (21, .invokevirtual 286, 161, 3, 7027), (24, .istore 6, 0, 0, 0), (26, .aload_n 0, 0, 0, 0), (27, .iload_n 1, 0, 0, 0), (28, .iconst 1, 0, 0, 0), (29, .iadd, 0, 0, 0), (30, .iconst 2, 0, 0, 0)]),
  (53, [(31, .invokevirtual 286, 161, 3, 7027), (34, .istore 7, 0, 0, 0), (36, .iload 4, 0, 0, 0), (38, .iload 6, 0, 0, 0), (40, .if_icmp .eq 11, 51, 0, 0), (43, .iload 5, 0, 0, 0), (45, .iload 7, 0, 0, 0), (47, .if_icmp .eq 4, 51, 0, 0), (50, .return_, 0, 0, 0), (51, .iload 4, 0, 0, 0), (53, .iload 6, 0, 0, 0)]),
  (76, [(55, .if_icmp .ge 7, 62, 0, 0), (58, .iconst 1, 0, 0, 0), (59, .goto 15, 74, 0, 0), (62, .iload 4, 0, 0, 0), (64, .iload 6, 0, 0, 0), (66, .if_icmp .le 7, 73, 0, 0), (69, .iconst (-1), 0, 0, 0), (70, .goto 4, 74, 0, 0), (73, .iconst 0, 0, 0, 0), (74, .istore 8, 0, 0, 0), (76, .iload 5, 0, 0, 0)]),
  (99, [(78, .iload 7, 0, 0, 0), (80, .if_icmp .ge 7, 87, 0, 0), (83, .iconst 1, 0, 0, 0), (84, .goto 15, 99, 0, 0), (87, .iload 5, 0, 0, 0), (89, .iload 7, 0, 0, 0), (91, .if_icmp .le 7, 98, 0, 0), (94, .iconst (-1), 0, 0, 0), (95, .goto 4, 99, 0, 0), (98, .iconst 0, 0, 0, 0), (99, .istore 9, 0, 0, 0)]),
  (121, [(101, .iconst 1, 0, 0, 0), (102, .istore 10, 0, 0, 0), (104, .iload 10, 0, 0, 0), (106, .iload 4, 0, 0, 0), (108, .iload 6, 0, 0, 0), (110, .invokestatic 289, 162, 2, 7031), (113, .iload 5, 0, 0, 0), (115, .iload 7, 0, 0, 0), (117, .invokestatic 289, 162, 2, 7031), (120, .iadd, 0, 0, 0), (121, .if_icmp .ge 63, 184, 0, 0)]),
  (138, [(124, .aload_n 0, 0, 0, 0), (125, .iload_n 1, 0, 0, 0), (126, .iload 4, 0, 0, 0), (128, .iload 10, 0, 0, 0), (130, .iload 8, 0, 0, 0), (132, .imul, 0, 0, 0), (133, .iadd, 0, 0, 0), (134, .iload_n 2, 0, 0, 0), (135, .iadd, 0, 0, 0), (136, .iload 5, 0, 0, 0), (138, .iload 10, 0, 0, 0)]),
  (153, [(140, .iload 9, 0, 0, 0), (142, .imul, 0, 0, 0), (143, .iadd, 0, 0, 0), (144, .iload_n 3, 0, 0, 0), (145, .iadd, 0, 0, 0), (146, .iconst 2, 0, 0, 0), (147, .invokevirtual 354, 193, 5, 7150), (150, .aload_n 0, 0, 0, 0), (151, .iload_n 1, 0, 0, 0), (152, .iconst 1, 0, 0, 0), (153, .iadd, 0, 0, 0)]),
  (170, [(154, .iload 4, 0, 0, 0), (156, .iload 10, 0, 0, 0), (158, .iload 8, 0, 0, 0), (160, .imul, 0, 0, 0), (161, .iadd, 0, 0, 0), (162, .iload_n 2, 0, 0, 0), (163, .iadd, 0, 0, 0), (164, .iload 5, 0, 0, 0), (166, .iload 10, 0, 0, 0), (168, .iload 9, 0, 0, 0), (170, .imul, 0, 0, 0)]),
  (184, [(171, .iadd, 0, 0, 0), (172, .iload_n 3, 0, 0, 0), (173, .iadd, 0, 0, 0), (174, .iconst 2, 0, 0, 0), (175, .invokevirtual 354, 193, 5, 7150), (178, .iinc 10 1, 0, 0, 0), (181, .goto (-77), 104, 0, 0), (184, .return_, 0, 0, 0)])]
def mO195 : List (Nat × List (Nat × mOp)) := [(10, [(0, .aload_n 0, 0, 0, 0), (1, .iconst 0, 0, 0, 0), (2, .putfield 1, 12, 0, 6036), (5, .aload_n 0, 0, 0, 0), (6, .iload_n 1, 0, 0, 0), (7, .invokevirtual 327, 174, 2, 7077), (10, .ifCond .eq 31, 41, 0, 0)]),
  (23, [(13, .aload_n 0, 0, 0, 0), (14, .iload_n 1, 0, 0, 0), (15, .invokevirtual 292, 172, 2, 7069), (18, .ifCond .eq 23, 41, 0, 0), (21, .aload_n 0, 0, 0, 0), (22, .iload_n 1, 0, 0, 0), (23, .invokevirtual 225, 160, 2, 7023)]),
  (36, [(26, .aload_n 0, 0, 0, 0), (27, .getfield 95, 12, 10, 6046), (30, .sipush 290, 0, 0, 0), (33, .iconst 3, 0, 0, 0), (34, .iload_n 1, 0, 0, 0), (35, .imul, 0, 0, 0), (36, .iadd, 0, 0, 0)]),
  (47, [(37, .iaload, 0, 0, 0), (38, .if_icmp .le 5, 43, 0, 0), (41, .iconst 0, 0, 0, 0), (42, .ireturn, 1, 0, 0), (43, .aload_n 0, 0, 0, 0), (44, .getfield 95, 12, 10, 6046), (47, .sipush 290, 0, 0, 0)]),
  (56, [(50, .iconst 3, 0, 0, 0), (51, .iload_n 1, 0, 0, 0), (52, .imul, 0, 0, 0), (53, .iadd, 0, 0, 0), (54, .iconst 2, 0, 0, 0), (55, .iadd, 0, 0, 0), (56, .iconst 0, 0, 0, 0)]),
  (59, [(57, .iastore, 0, 0, 0), (58, .iconst 1, 0, 0, 0), (59, .ireturn, 1, 0, 0)])]
def mO196 : List (Nat × List (Nat × mOp)) := [(7, [(0, .aload_n 0, 0, 0, 0), (1, .iconst 0, 0, 0, 0), (2, .putfield 1, 12, 0, 6036), (5, .aload_n 0, 0, 0, 0), (6, .iload_n 1, 0, 0, 0), (7, .invokevirtual 321, 164, 2, 7038)]),
  (19, [(10, .ifCond .eq 22, 32, 0, 0), (13, .aload_n 0, 0, 0, 0), (14, .aload_n 0, 0, 0, 0), (15, .iload_n 1, 0, 0, 0), (16, .invokevirtual 309, 171, 2, 7065), (19, .aload_n 0, 0, 0, 0)]),
  (29, [(20, .iload_n 1, 0, 0, 0), (21, .invokevirtual 312, 177, 2, 7088), (24, .iload_n 2, 0, 0, 0), (25, .iload_n 3, 0, 0, 0), (26, .invokevirtual 373, 197, 5, 7166), (29, .ifCond .ne 5, 34, 0, 0)]),
  (37, [(32, .iconst (-1), 0, 0, 0), (33, .ireturn, 0, 0, 0), (34, .aload_n 0, 0, 0, 0), (35, .aload_n 0, 0, 0, 0), (36, .iload_n 1, 0, 0, 0), (37, .invokevirtual 309, 171, 2, 7065)]),
  (47, [(40, .aload_n 0, 0, 0, 0), (41, .iload_n 1, 0, 0, 0), (42, .invokevirtual 312, 177, 2, 7088), (45, .iload_n 2, 0, 0, 0), (46, .iload_n 3, 0, 0, 0), (47, .invokevirtual 367, 192, 5, 7146)]),
  (50, [(50, .ireturn, 0, 0, 0)])]
def mO197 : List (Nat × List (Nat × mOp)) := [(13, [(0, .iload_n 3, 0, 0, 0), (1, .bipush (-8), 0, 0, 0), (3, .bipush 8, 0, 0, 0), (5, .invokestatic 330, 175, 3, 7081), (8, .ifCond .eq 19, 27, 0, 0), (11, .iload 4, 0, 0, 0), (13, .bipush (-8), 0, 0, 0)]),
  (28, [(15, .bipush 8, 0, 0, 0), (17, .invokestatic 330, 175, 3, 7081), (20, .ifCond .eq 7, 27, 0, 0), (23, .iconst 1, 0, 0, 0), (24, .goto 4, 28, 0, 0), (27, .iconst 0, 0, 0, 0), (28, .istore 5, 0, 0, 0)]),
  (41, [(30, .iload_n 1, 0, 0, 0), (31, .istore 6, 0, 0, 0), (33, .iload 6, 0, 0, 0), (35, .iload_n 2, 0, 0, 0), (36, .if_icmp .gt 39, 75, 0, 0), (39, .iload 5, 0, 0, 0), (41, .ifCond .eq 34, 75, 0, 0)]),
  (53, [(44, .aload_n 0, 0, 0, 0), (45, .aload_n 0, 0, 0, 0), (46, .iload 6, 0, 0, 0), (48, .iconst 1, 0, 0, 0), (49, .invokevirtual 286, 161, 3, 7027), (52, .iload_n 3, 0, 0, 0), (53, .iadd, 0, 0, 0)]),
  (64, [(54, .aload_n 0, 0, 0, 0), (55, .iload 6, 0, 0, 0), (57, .iconst 2, 0, 0, 0), (58, .invokevirtual 286, 161, 3, 7027), (61, .iload 4, 0, 0, 0), (63, .iadd, 0, 0, 0), (64, .invokevirtual 344, 188, 3, 7130)]),
  (77, [(67, .istore 5, 0, 0, 0), (69, .iinc 6 1, 0, 0, 0), (72, .goto (-39), 33, 0, 0), (75, .iload 5, 0, 0, 0), (77, .ireturn, 1, 0, 0)])]
def mO198 : List (Nat × List (Nat × mOp)) := [(15, [(0, .aload_n 0, 0, 0, 0), (1, .iconst 0, 0, 0, 0), (2, .putfield 1, 12, 0, 6036), (5, .aload_n 0, 0, 0, 0), (6, .iload_n 1, 0, 0, 0), (7, .invokevirtual 321, 164, 2, 7038), (10, .ifCond .eq 19, 29, 0, 0), (13, .iload_n 2, 0, 0, 0), (14, .iconst 0, 0, 0, 0), (15, .sipush 999, 0, 0, 0)]),
  (33, [(18, .invokestatic 330, 175, 3, 7081), (21, .ifCond .eq 8, 29, 0, 0), (24, .iload_n 3, 0, 0, 0), (25, .iconst (-1), 0, 0, 0), (26, .if_icmp .ge 5, 31, 0, 0), (29, .iconst (-1), 0, 0, 0), (30, .ireturn, 0, 0, 0), (31, .aload_n 0, 0, 0, 0), (32, .iload_n 1, 0, 0, 0), (33, .invokevirtual 309, 171, 2, 7065)]),
  (51, [(36, .istore 4, 0, 0, 0), (38, .aload_n 0, 0, 0, 0), (39, .iload_n 1, 0, 0, 0), (40, .invokevirtual 312, 177, 2, 7088), (43, .istore 5, 0, 0, 0), (45, .aload_n 0, 0, 0, 0), (46, .iload 4, 0, 0, 0), (48, .iload 5, 0, 0, 0), (50, .iload_n 2, 0, 0, 0), (51, .invokevirtual 383, 199, 4, 7174)]),
  (72, [(54, .istore 6, 0, 0, 0), (56, .iload 6, 0, 0, 0), (58, .ifCond .lt 14, 72, 0, 0), (61, .iload_n 3, 0, 0, 0), (62, .iconst (-1), 0, 0, 0), (63, .if_icmp .eq 9, 72, 0, 0), (66, .iload_n 3, 0, 0, 0), (67, .iload 6, 0, 0, 0), (69, .if_icmp .lt 15, 84, 0, 0), (72, .iload_n 3, 0, 0, 0)]),
  (89, [(73, .iconst (-1), 0, 0, 0), (74, .if_icmp .ne 8, 82, 0, 0), (77, .iload 6, 0, 0, 0), (79, .goto 4, 83, 0, 0), (82, .iconst (-1), 0, 0, 0), (83, .ireturn, 0, 0, 0), (84, .aload_n 0, 0, 0, 0), (85, .iload 4, 0, 0, 0), (87, .iload 5, 0, 0, 0), (89, .iload 6, 0, 0, 0)]),
  (107, [(91, .iload_n 2, 0, 0, 0), (92, .invokevirtual 386, 202, 5, 7186), (95, .bipush 112, 0, 0, 0), (97, .istore 7, 0, 0, 0), (99, .iconst 0, 0, 0, 0), (100, .istore 8, 0, 0, 0), (102, .iconst 0, 0, 0, 0), (103, .istore 9, 0, 0, 0), (105, .iload 9, 0, 0, 0), (107, .iload_n 3, 0, 0, 0)]),
  (125, [(108, .if_icmp .gt 78, 186, 0, 0), (111, .iconst 0, 0, 0, 0), (112, .istore 8, 0, 0, 0), (114, .aload_n 0, 0, 0, 0), (115, .iload 4, 0, 0, 0), (117, .iload 5, 0, 0, 0), (119, .iload 9, 0, 0, 0), (121, .iload 7, 0, 0, 0), (123, .iload 8, 0, 0, 0), (125, .invokevirtual 380, 201, 6, 7182)]),
  (146, [(128, .istore 10, 0, 0, 0), (130, .iload 10, 0, 0, 0), (132, .ifCond .lt 22, 154, 0, 0), (135, .aload_n 0, 0, 0, 0), (136, .getfield 135, 12, 27, 6063), (139, .sipush 225, 0, 0, 0), (142, .iload 9, 0, 0, 0), (144, .iconst 1, 0, 0, 0), (145, .iadd, 0, 0, 0), (146, .imul, 0, 0, 0)]),
  (164, [(147, .iload 10, 0, 0, 0), (149, .iadd, 0, 0, 0), (150, .baload, 0, 0, 0), (151, .ifCond .ne 25, 176, 0, 0), (154, .iinc 8 1, 0, 0, 0), (157, .aload_n 0, 0, 0, 0), (158, .iload 4, 0, 0, 0), (160, .iload 5, 0, 0, 0), (162, .iload 9, 0, 0, 0), (164, .iload 7, 0, 0, 0)]),
  (188, [(166, .iload 8, 0, 0, 0), (168, .invokevirtual 380, 201, 6, 7182), (171, .istore 10, 0, 0, 0), (173, .goto (-43), 130, 0, 0), (176, .iload 10, 0, 0, 0), (178, .istore 7, 0, 0, 0), (180, .iinc 9 1, 0, 0, 0), (183, .goto (-78), 105, 0, 0), (186, .iload 8, 0, 0, 0), (188, .ireturn, 0, 0, 0)])]
def mO199 : List (Nat × List (Nat × mOp)) := [(19, [(0, .iconst 0, 0, 0, 0), (1, .istore 4, 0, 0, 0), (3, .iload 4, 0, 0, 0), (5, .sipush 5625, 0, 0, 0), (8, .if_icmp .ge 28, 36, 0, 0), (11, .aload_n 0, 0, 0, 0), (12, .getfield 132, 12, 26, 6062), (15, .iload 4, 0, 0, 0), (17, .iload 4, 0, 0, 0), (19, .bipush 112, 0, 0, 0)]),
  (39, [(21, .if_icmp .ne 7, 28, 0, 0), (24, .iconst 1, 0, 0, 0), (25, .goto 4, 29, 0, 0), (28, .iconst 0, 0, 0, 0), (29, .bastore, 0, 0, 0), (30, .iinc 4 1, 0, 0, 0), (33, .goto (-30), 3, 0, 0), (36, .iconst 0, 0, 0, 0), (37, .istore 4, 0, 0, 0), (39, .iload 4, 0, 0, 0)]),
  (61, [(41, .bipush 24, 0, 0, 0), (43, .if_icmp .gt 150, 193, 0, 0), (46, .iconst 0, 0, 0, 0), (47, .istore 5, 0, 0, 0), (49, .iload 5, 0, 0, 0), (51, .sipush 225, 0, 0, 0), (54, .if_icmp .ge 41, 95, 0, 0), (57, .aload_n 0, 0, 0, 0), (58, .getfield 132, 12, 26, 6062), (61, .sipush 225, 0, 0, 0)]),
  (77, [(64, .iload 4, 0, 0, 0), (66, .imul, 0, 0, 0), (67, .iload 5, 0, 0, 0), (69, .iadd, 0, 0, 0), (70, .baload, 0, 0, 0), (71, .ifCond .eq 18, 89, 0, 0), (74, .aload_n 0, 0, 0, 0), (75, .iload_n 1, 0, 0, 0), (76, .iload_n 2, 0, 0, 0), (77, .iload 5, 0, 0, 0)]),
  (98, [(79, .iload_n 3, 0, 0, 0), (80, .invokevirtual 377, 200, 5, 7178), (83, .ifCond .eq 6, 89, 0, 0), (86, .iload 4, 0, 0, 0), (88, .ireturn, 0, 0, 0), (89, .iinc 5 1, 0, 0, 0), (92, .goto (-43), 49, 0, 0), (95, .iconst 0, 0, 0, 0), (96, .istore 5, 0, 0, 0), (98, .iload 5, 0, 0, 0)]),
  (119, [(100, .sipush 225, 0, 0, 0), (103, .if_icmp .ge 84, 187, 0, 0), (106, .iload 4, 0, 0, 0), (108, .bipush 24, 0, 0, 0), (110, .if_icmp .ge 77, 187, 0, 0), (113, .iconst 0, 0, 0, 0), (114, .istore 6, 0, 0, 0), (116, .iload 6, 0, 0, 0), (118, .iconst 5, 0, 0, 0), (119, .if_icmp .ge 62, 181, 0, 0)]),
  (139, [(122, .aload_n 0, 0, 0, 0), (123, .getfield 132, 12, 26, 6062), (126, .sipush 225, 0, 0, 0), (129, .iload 4, 0, 0, 0), (131, .imul, 0, 0, 0), (132, .iload 5, 0, 0, 0), (134, .iadd, 0, 0, 0), (135, .baload, 0, 0, 0), (136, .ifCond .eq 45, 181, 0, 0), (139, .aload_n 0, 0, 0, 0)]),
  (158, [(140, .iload_n 1, 0, 0, 0), (141, .iload_n 2, 0, 0, 0), (142, .iload 4, 0, 0, 0), (144, .iload 5, 0, 0, 0), (146, .iload 6, 0, 0, 0), (148, .invokevirtual 380, 201, 6, 7182), (151, .istore 7, 0, 0, 0), (153, .iload 7, 0, 0, 0), (155, .ifCond .lt 20, 175, 0, 0), (158, .aload_n 0, 0, 0, 0)]),
  (174, [(159, .getfield 132, 12, 26, 6062), (162, .sipush 225, 0, 0, 0), (165, .iload 4, 0, 0, 0), (167, .iconst 1, 0, 0, 0), (168, .iadd, 0, 0, 0), (169, .imul, 0, 0, 0), (170, .iload 7, 0, 0, 0), (172, .iadd, 0, 0, 0), (173, .iconst 1, 0, 0, 0), (174, .bastore, 0, 0, 0)]),
  (194, [(175, .iinc 6 1, 0, 0, 0), (178, .goto (-62), 116, 0, 0), (181, .iinc 5 1, 0, 0, 0), (184, .goto (-86), 98, 0, 0), (187, .iinc 4 1, 0, 0, 0), (190, .goto (-151), 39, 0, 0), (193, .iconst (-1), 0, 0, 0), (194, .ireturn, 0, 0, 0)])]
def mO200 : List (Nat × List (Nat × mOp)) := [(4, [(0, .aload_n 0, 0, 0, 0), (1, .iload_n 1, 0, 0, 0), (2, .iload_n 2, 0, 0, 0), (3, .iload_n 3, 0, 0, 0), (4, .bipush 15, 0, 0, 0)]),
  (11, [(6, .irem, 0, 0, 0), (7, .bipush 7, 0, 0, 0), (9, .isub, 0, 0, 0), (10, .iload_n 3, 0, 0, 0), (11, .bipush 15, 0, 0, 0)]),
  (20, [(13, .idiv, 0, 0, 0), (14, .bipush 7, 0, 0, 0), (16, .isub, 0, 0, 0), (17, .invokevirtual 367, 192, 5, 7146), (20, .iload 4, 0, 0, 0)]),
  (30, [(22, .if_icmp .lt 7, 29, 0, 0), (25, .iconst 1, 0, 0, 0), (26, .goto 4, 30, 0, 0), (29, .iconst 0, 0, 0, 0), (30, .ireturn, 1, 0, 0)])]
def mO201 : List (Nat × List (Nat × mOp)) := [(14, [(0, .iload 4, 0, 0, 0), (2, .bipush 15, 0, 0, 0), (4, .irem, 0, 0, 0), (5, .bipush 7, 0, 0, 0), (7, .isub, 0, 0, 0), (8, .istore 6, 0, 0, 0), (10, .iload 4, 0, 0, 0), (12, .bipush 15, 0, 0, 0), (14, .idiv, 0, 0, 0)]),
  (27, [(15, .bipush 7, 0, 0, 0), (17, .isub, 0, 0, 0), (18, .istore 7, 0, 0, 0), (20, .aload_n 0, 0, 0, 0), (21, .getfield 95, 12, 10, 6046), (24, .iconst 3, 0, 0, 0), (25, .iaload, 0, 0, 0), (26, .iload_n 3, 0, 0, 0), (27, .iadd, 0, 0, 0)]),
  (41, [(28, .istore 8, 0, 0, 0), (30, .aload_n 0, 0, 0, 0), (31, .iload_n 1, 0, 0, 0), (32, .iload_n 2, 0, 0, 0), (33, .iload 6, 0, 0, 0), (35, .iload 7, 0, 0, 0), (37, .iload 5, 0, 0, 0), (39, .iload 8, 0, 0, 0), (41, .invokevirtual 347, 185, 7, 7120)]),
  (58, [(44, .ifCond .ne 5, 49, 0, 0), (47, .iconst (-1), 0, 0, 0), (48, .ireturn, 0, 0, 0), (49, .aload_n 0, 0, 0, 0), (50, .iload 6, 0, 0, 0), (52, .iload 5, 0, 0, 0), (54, .invokestatic 338, 186, 1, 7124), (57, .iadd, 0, 0, 0), (58, .iload 7, 0, 0, 0)]),
  (75, [(60, .iload 5, 0, 0, 0), (62, .invokestatic 341, 187, 1, 7127), (65, .iadd, 0, 0, 0), (66, .iload 8, 0, 0, 0), (68, .iconst 0, 0, 0, 0), (69, .invokevirtual 334, 176, 5, 7084), (72, .iload_n 1, 0, 0, 0), (73, .istore 9, 0, 0, 0), (75, .iload 9, 0, 0, 0)]),
  (90, [(77, .iload_n 2, 0, 0, 0), (78, .if_icmp .ge 34, 112, 0, 0), (81, .aload_n 0, 0, 0, 0), (82, .iload_n 1, 0, 0, 0), (83, .iload_n 2, 0, 0, 0), (84, .iload 9, 0, 0, 0), (86, .invokevirtual 315, 178, 4, 7092), (89, .iload_n 2, 0, 0, 0), (90, .iload_n 1, 0, 0, 0)]),
  (104, [(91, .isub, 0, 0, 0), (92, .iconst 1, 0, 0, 0), (93, .iadd, 0, 0, 0), (94, .aload_n 0, 0, 0, 0), (95, .iload 9, 0, 0, 0), (97, .invokevirtual 318, 191, 2, 7142), (100, .imul, 0, 0, 0), (101, .if_icmp .le 5, 106, 0, 0), (104, .iconst (-1), 0, 0, 0)]),
  (122, [(105, .ireturn, 0, 0, 0), (106, .iinc 9 1, 0, 0, 0), (109, .goto (-34), 75, 0, 0), (112, .iload 4, 0, 0, 0), (114, .iload 5, 0, 0, 0), (116, .invokestatic 338, 186, 1, 7124), (119, .iadd, 0, 0, 0), (120, .bipush 15, 0, 0, 0), (122, .iload 5, 0, 0, 0)]),
  (129, [(124, .invokestatic 341, 187, 1, 7127), (127, .imul, 0, 0, 0), (128, .iadd, 0, 0, 0), (129, .ireturn, 0, 0, 0)])]
def mO202 : List (Nat × List (Nat × mOp)) := [(19, [(0, .iload_n 3, 0, 0, 0), (1, .istore 5, 0, 0, 0), (3, .iload 5, 0, 0, 0), (5, .ifCond .lt 173, 178, 0, 0), (8, .iconst 0, 0, 0, 0), (9, .istore 6, 0, 0, 0), (11, .iload 6, 0, 0, 0), (13, .sipush 225, 0, 0, 0), (16, .if_icmp .ge 156, 172, 0, 0), (19, .iload 5, 0, 0, 0)]),
  (38, [(21, .iload_n 3, 0, 0, 0), (22, .if_icmp .ne 37, 59, 0, 0), (25, .aload_n 0, 0, 0, 0), (26, .getfield 132, 12, 26, 6062), (29, .sipush 225, 0, 0, 0), (32, .iload 5, 0, 0, 0), (34, .imul, 0, 0, 0), (35, .iload 6, 0, 0, 0), (37, .iadd, 0, 0, 0), (38, .baload, 0, 0, 0)]),
  (56, [(39, .ifCond .eq 20, 59, 0, 0), (42, .aload_n 0, 0, 0, 0), (43, .iload_n 1, 0, 0, 0), (44, .iload_n 2, 0, 0, 0), (45, .iload 6, 0, 0, 0), (47, .iload 4, 0, 0, 0), (49, .invokevirtual 377, 200, 5, 7178), (52, .ifCond .eq 7, 59, 0, 0), (55, .iconst 1, 0, 0, 0), (56, .goto 4, 60, 0, 0)]),
  (74, [(59, .iconst 0, 0, 0, 0), (60, .istore 7, 0, 0, 0), (62, .iconst 0, 0, 0, 0), (63, .istore 8, 0, 0, 0), (65, .iload 8, 0, 0, 0), (67, .iconst 5, 0, 0, 0), (68, .if_icmp .ge 82, 150, 0, 0), (71, .iload 5, 0, 0, 0), (73, .iload_n 3, 0, 0, 0), (74, .if_icmp .ge 76, 150, 0, 0)]),
  (94, [(77, .aload_n 0, 0, 0, 0), (78, .getfield 132, 12, 26, 6062), (81, .sipush 225, 0, 0, 0), (84, .iload 5, 0, 0, 0), (86, .imul, 0, 0, 0), (87, .iload 6, 0, 0, 0), (89, .iadd, 0, 0, 0), (90, .baload, 0, 0, 0), (91, .ifCond .eq 59, 150, 0, 0), (94, .aload_n 0, 0, 0, 0)]),
  (113, [(95, .iload_n 1, 0, 0, 0), (96, .iload_n 2, 0, 0, 0), (97, .iload 5, 0, 0, 0), (99, .iload 6, 0, 0, 0), (101, .iload 8, 0, 0, 0), (103, .invokevirtual 380, 201, 6, 7182), (106, .istore 9, 0, 0, 0), (108, .iload 7, 0, 0, 0), (110, .ifCond .ne 27, 137, 0, 0), (113, .iload 9, 0, 0, 0)]),
  (132, [(115, .ifCond .lt 26, 141, 0, 0), (118, .aload_n 0, 0, 0, 0), (119, .getfield 135, 12, 27, 6063), (122, .sipush 225, 0, 0, 0), (125, .iload 5, 0, 0, 0), (127, .iconst 1, 0, 0, 0), (128, .iadd, 0, 0, 0), (129, .imul, 0, 0, 0), (130, .iload 9, 0, 0, 0), (132, .iadd, 0, 0, 0)]),
  (151, [(133, .baload, 0, 0, 0), (134, .ifCond .eq 7, 141, 0, 0), (137, .iconst 1, 0, 0, 0), (138, .goto 4, 142, 0, 0), (141, .iconst 0, 0, 0, 0), (142, .istore 7, 0, 0, 0), (144, .iinc 8 1, 0, 0, 0), (147, .goto (-82), 65, 0, 0), (150, .aload_n 0, 0, 0, 0), (151, .getfield 135, 12, 27, 6063)]),
  (172, [(154, .sipush 225, 0, 0, 0), (157, .iload 5, 0, 0, 0), (159, .imul, 0, 0, 0), (160, .iload 6, 0, 0, 0), (162, .iadd, 0, 0, 0), (163, .iload 7, 0, 0, 0), (165, .bastore, 0, 0, 0), (166, .iinc 6 1, 0, 0, 0), (169, .goto (-158), 11, 0, 0), (172, .iinc 5 (-1), 0, 0, 0)]),
  (178, [(175, .goto (-172), 3, 0, 0), (178, .return_, 0, 0, 0)])]
def mO203 : List (Nat × List (Nat × mOp)) := [(6, [(0, .aload_n 0, 0, 0, 0), (1, .iconst 0, 0, 0, 0), (2, .putfield 1, 12, 0, 6036), (5, .aload_n 0, 0, 0, 0), (6, .iload_n 1, 0, 0, 0)]),
  (15, [(7, .invokevirtual 321, 164, 2, 7038), (10, .ifCond .eq 29, 39, 0, 0), (13, .iload_n 2, 0, 0, 0), (14, .iconst 0, 0, 0, 0), (15, .iconst 4, 0, 0, 0)]),
  (24, [(16, .invokestatic 330, 175, 3, 7081), (19, .ifCond .eq 20, 39, 0, 0), (22, .aload_n 0, 0, 0, 0), (23, .iload_n 2, 0, 0, 0), (24, .invokevirtual 389, 204, 2, 7194)]),
  (33, [(27, .ifCond .eq 12, 39, 0, 0), (30, .aload_n 0, 0, 0, 0), (31, .iload_n 1, 0, 0, 0), (32, .iload_n 2, 0, 0, 0), (33, .invokevirtual 392, 205, 3, 7198)]),
  (40, [(36, .goto 4, 40, 0, 0), (39, .iconst (-1), 0, 0, 0), (40, .ireturn, 0, 0, 0)])]
def mO204 : List (Nat × List (Nat × mOp)) := [(3, [(0, .aload_n 0, 0, 0, 0), (1, .iconst 0, 0, 0, 0), (2, .aload_n 0, 0, 0, 0), (3, .invokevirtual 279, 159, 1, 7019)]),
  (9, [(6, .iconst 1, 0, 0, 0), (7, .isub, 0, 0, 0), (8, .iload_n 1, 0, 0, 0), (9, .invokestatic 338, 186, 1, 7124)]),
  (19, [(12, .iload_n 1, 0, 0, 0), (13, .invokestatic 341, 187, 1, 7127), (16, .invokevirtual 373, 197, 5, 7166), (19, .ireturn, 1, 0, 0)])]
def mO205 : List (Nat × List (Nat × mOp)) := [(15, [(0, .aload_n 0, 0, 0, 0), (1, .iload_n 1, 0, 0, 0), (2, .iconst 1, 0, 0, 0), (3, .invokevirtual 286, 161, 3, 7027), (6, .iload_n 2, 0, 0, 0), (7, .invokestatic 338, 186, 1, 7124), (10, .iadd, 0, 0, 0), (11, .istore_n 3, 0, 0, 0), (12, .aload_n 0, 0, 0, 0), (13, .iload_n 1, 0, 0, 0), (14, .iconst 2, 0, 0, 0), (15, .invokevirtual 286, 161, 3, 7027)]),
  (37, [(18, .iload_n 2, 0, 0, 0), (19, .invokestatic 341, 187, 1, 7127), (22, .iadd, 0, 0, 0), (23, .istore 4, 0, 0, 0), (25, .aload_n 0, 0, 0, 0), (26, .getfield 95, 12, 10, 6046), (29, .bipush 10, 0, 0, 0), (31, .iconst 3, 0, 0, 0), (32, .bipush 8, 0, 0, 0), (34, .iload 4, 0, 0, 0), (36, .imul, 0, 0, 0), (37, .iload_n 3, 0, 0, 0)]),
  (54, [(38, .iadd, 0, 0, 0), (39, .imul, 0, 0, 0), (40, .iadd, 0, 0, 0), (41, .iconst 2, 0, 0, 0), (42, .iadd, 0, 0, 0), (43, .iaload, 0, 0, 0), (44, .istore 5, 0, 0, 0), (46, .iload 5, 0, 0, 0), (48, .istore 6, 0, 0, 0), (50, .aload_n 0, 0, 0, 0), (51, .getfield 95, 12, 10, 6046), (54, .bipush 7, 0, 0, 0)]),
  (74, [(56, .iaload, 0, 0, 0), (57, .ifCond .lt 126, 183, 0, 0), (60, .aload_n 0, 0, 0, 0), (61, .iload_n 3, 0, 0, 0), (62, .iload 4, 0, 0, 0), (64, .aload_n 0, 0, 0, 0), (65, .getfield 95, 12, 10, 6046), (68, .iconst 3, 0, 0, 0), (69, .iaload, 0, 0, 0), (70, .iconst 0, 0, 0, 0), (71, .invokevirtual 298, 167, 5, 7050), (74, .istore 7, 0, 0, 0)]),
  (92, [(76, .aload_n 0, 0, 0, 0), (77, .getfield 110, 12, 19, 6055), (80, .iconst 0, 0, 0, 0), (81, .iload_n 3, 0, 0, 0), (82, .iastore, 0, 0, 0), (83, .aload_n 0, 0, 0, 0), (84, .getfield 110, 12, 19, 6055), (87, .iconst 1, 0, 0, 0), (88, .iload 4, 0, 0, 0), (90, .iastore, 0, 0, 0), (91, .aload_n 0, 0, 0, 0), (92, .getfield 110, 12, 19, 6055)]),
  (111, [(95, .iconst 2, 0, 0, 0), (96, .aload_n 0, 0, 0, 0), (97, .getfield 95, 12, 10, 6046), (100, .iconst 3, 0, 0, 0), (101, .iaload, 0, 0, 0), (102, .bipush 24, 0, 0, 0), (104, .irem, 0, 0, 0), (105, .iastore, 0, 0, 0), (106, .aload_n 0, 0, 0, 0), (107, .getfield 110, 12, 19, 6055), (110, .iconst 3, 0, 0, 0), (111, .iload 5, 0, 0, 0)]),
  (129, [(113, .iastore, 0, 0, 0), (114, .aload_n 0, 0, 0, 0), (115, .getfield 110, 12, 19, 6055), (118, .iconst 4, 0, 0, 0), (119, .iload 7, 0, 0, 0), (121, .iastore, 0, 0, 0), (122, .aload_n 0, 0, 0, 0), (123, .getfield 110, 12, 19, 6055), (126, .iconst 5, 0, 0, 0), (127, .aload_n 0, 0, 0, 0), (128, .iload_n 1, 0, 0, 0), (129, .invokevirtual 324, 165, 2, 7042)]),
  (149, [(132, .aload_n 0, 0, 0, 0), (133, .iload_n 1, 0, 0, 0), (134, .bipush 8, 0, 0, 0), (136, .invokevirtual 286, 161, 3, 7027), (139, .isub, 0, 0, 0), (140, .iastore, 0, 0, 0), (141, .aload_n 0, 0, 0, 0), (142, .getfield 110, 12, 19, 6055), (145, .bipush 6, 0, 0, 0), (147, .iload_n 3, 0, 0, 0), (148, .aload_n 0, 0, 0, 0), (149, .iload_n 1, 0, 0, 0)]),
  (170, [(150, .iconst 3, 0, 0, 0), (151, .invokevirtual 286, 161, 3, 7027), (154, .invokestatic 289, 162, 2, 7031), (157, .iload 4, 0, 0, 0), (159, .aload_n 0, 0, 0, 0), (160, .iload_n 1, 0, 0, 0), (161, .iconst 4, 0, 0, 0), (162, .invokevirtual 286, 161, 3, 7027), (165, .invokestatic 289, 162, 2, 7031), (168, .iadd, 0, 0, 0), (169, .iastore, 0, 0, 0), (170, .aload_n 0, 0, 0, 0)]),
  (194, [(171, .aload_n 0, 0, 0, 0), (172, .getfield 95, 12, 10, 6046), (175, .bipush 7, 0, 0, 0), (177, .iaload, 0, 0, 0), (178, .invokevirtual 295, 168, 2, 7054), (181, .istore 6, 0, 0, 0), (183, .iload 6, 0, 0, 0), (185, .ifCond .ge 7, 192, 0, 0), (188, .iconst 0, 0, 0, 0), (189, .goto 17, 206, 0, 0), (192, .iload 6, 0, 0, 0), (194, .bipush 99, 0, 0, 0)]),
  (206, [(196, .if_icmp .le 8, 204, 0, 0), (199, .bipush 99, 0, 0, 0), (201, .goto 5, 206, 0, 0), (204, .iload 6, 0, 0, 0), (206, .ireturn, 0, 0, 0)])]
def mO206 : List (Nat × List (Nat × mOp)) := [(9, [(0, .aload_n 0, 0, 0, 0), (1, .iconst 0, 0, 0, 0), (2, .putfield 1, 12, 0, 6036), (5, .iconst (-1), 0, 0, 0), (6, .istore_n 2, 0, 0, 0), (7, .iconst 0, 0, 0, 0), (8, .istore_n 3, 0, 0, 0), (9, .iconst 0, 0, 0, 0)]),
  (25, [(10, .istore 4, 0, 0, 0), (12, .iload 4, 0, 0, 0), (14, .iconst 5, 0, 0, 0), (15, .if_icmp .ge 77, 92, 0, 0), (18, .aload_n 0, 0, 0, 0), (19, .invokevirtual 279, 159, 1, 7019), (22, .ifCond .le 70, 92, 0, 0), (25, .aload_n 0, 0, 0, 0)]),
  (41, [(26, .iload 4, 0, 0, 0), (28, .invokevirtual 389, 204, 2, 7194), (31, .ifCond .eq 55, 86, 0, 0), (34, .iload_n 1, 0, 0, 0), (35, .ifCond .eq 12, 47, 0, 0), (38, .aload_n 0, 0, 0, 0), (39, .iload 4, 0, 0, 0), (41, .invokevirtual 398, 207, 2, 7206)]),
  (57, [(44, .ifCond .ne 42, 86, 0, 0), (47, .aload_n 0, 0, 0, 0), (48, .iload 4, 0, 0, 0), (50, .iconst (-1), 0, 0, 0), (51, .invokevirtual 401, 209, 3, 7214), (54, .istore 5, 0, 0, 0), (56, .iload_n 2, 0, 0, 0), (57, .ifCond .lt 9, 66, 0, 0)]),
  (73, [(60, .iload 5, 0, 0, 0), (62, .iload_n 3, 0, 0, 0), (63, .if_icmp .le 8, 71, 0, 0), (66, .iload 4, 0, 0, 0), (68, .goto 4, 72, 0, 0), (71, .iload_n 2, 0, 0, 0), (72, .istore_n 2, 0, 0, 0), (73, .iload_n 2, 0, 0, 0)]),
  (89, [(74, .iload 4, 0, 0, 0), (76, .if_icmp .ne 8, 84, 0, 0), (79, .iload 5, 0, 0, 0), (81, .goto 4, 85, 0, 0), (84, .iload_n 3, 0, 0, 0), (85, .istore_n 3, 0, 0, 0), (86, .iinc 4 1, 0, 0, 0), (89, .goto (-77), 12, 0, 0)]),
  (93, [(92, .iload_n 2, 0, 0, 0), (93, .ireturn, 0, 0, 0)])]
def mO207 : List (Nat × List (Nat × mOp)) := [(4, [(0, .iconst 0, 0, 0, 0), (1, .istore_n 2, 0, 0, 0), (2, .iconst 0, 0, 0, 0), (3, .istore_n 3, 0, 0, 0), (4, .iload_n 3, 0, 0, 0)]),
  (13, [(5, .aload_n 0, 0, 0, 0), (6, .invokevirtual 279, 159, 1, 7019), (9, .if_icmp .ge 28, 37, 0, 0), (12, .iload_n 2, 0, 0, 0), (13, .ifCond .ne 12, 25, 0, 0)]),
  (22, [(16, .aload_n 0, 0, 0, 0), (17, .iload_n 3, 0, 0, 0), (18, .iload_n 1, 0, 0, 0), (19, .invokevirtual 395, 208, 3, 7210), (22, .ifCond .eq 7, 29, 0, 0)]),
  (31, [(25, .iconst 1, 0, 0, 0), (26, .goto 4, 30, 0, 0), (29, .iconst 0, 0, 0, 0), (30, .istore_n 2, 0, 0, 0), (31, .iinc 3 1, 0, 0, 0)]),
  (38, [(34, .goto (-30), 4, 0, 0), (37, .iload_n 2, 0, 0, 0), (38, .ireturn, 1, 0, 0)])]
def mO208 : List (Nat × List (Nat × mOp)) := [(10, [(0, .iconst (-1), 0, 0, 0), (1, .istore_n 3, 0, 0, 0), (2, .iconst 0, 0, 0, 0), (3, .istore 4, 0, 0, 0), (5, .iconst 0, 0, 0, 0), (6, .istore 5, 0, 0, 0), (8, .iload 5, 0, 0, 0), (10, .iconst 5, 0, 0, 0)]),
  (25, [(11, .if_icmp .ge 80, 91, 0, 0), (14, .aload_n 0, 0, 0, 0), (15, .iload 5, 0, 0, 0), (17, .invokevirtual 389, 204, 2, 7194), (20, .ifCond .eq 13, 33, 0, 0), (23, .aload_n 0, 0, 0, 0), (24, .iload_n 1, 0, 0, 0), (25, .iload 5, 0, 0, 0)]),
  (42, [(27, .invokevirtual 392, 205, 3, 7198), (30, .goto 4, 34, 0, 0), (33, .iconst (-1), 0, 0, 0), (34, .istore 6, 0, 0, 0), (36, .iload 6, 0, 0, 0), (38, .ifCond .lt 18, 56, 0, 0), (41, .iload_n 3, 0, 0, 0), (42, .ifCond .lt 10, 52, 0, 0)]),
  (59, [(45, .iload 6, 0, 0, 0), (47, .iload 4, 0, 0, 0), (49, .if_icmp .le 7, 56, 0, 0), (52, .iconst 1, 0, 0, 0), (53, .goto 4, 57, 0, 0), (56, .iconst 0, 0, 0, 0), (57, .istore 7, 0, 0, 0), (59, .iload 7, 0, 0, 0)]),
  (76, [(61, .ifCond .eq 8, 69, 0, 0), (64, .iload 5, 0, 0, 0), (66, .goto 4, 70, 0, 0), (69, .iload_n 3, 0, 0, 0), (70, .istore_n 3, 0, 0, 0), (71, .iload 7, 0, 0, 0), (73, .ifCond .eq 8, 81, 0, 0), (76, .iload 6, 0, 0, 0)]),
  (93, [(78, .goto 5, 83, 0, 0), (81, .iload 4, 0, 0, 0), (83, .istore 4, 0, 0, 0), (85, .iinc 5 1, 0, 0, 0), (88, .goto (-80), 8, 0, 0), (91, .iload_n 3, 0, 0, 0), (92, .iload_n 2, 0, 0, 0), (93, .if_icmp .ne 7, 100, 0, 0)]),
  (101, [(96, .iconst 1, 0, 0, 0), (97, .goto 4, 101, 0, 0), (100, .iconst 0, 0, 0, 0), (101, .ireturn, 1, 0, 0)])]
def mO209 : List (Nat × List (Nat × mOp)) := [(7, [(0, .iconst 0, 0, 0, 0), (1, .istore_n 3, 0, 0, 0), (2, .iconst 0, 0, 0, 0), (3, .istore 4, 0, 0, 0), (5, .iload 4, 0, 0, 0), (7, .aload_n 0, 0, 0, 0)]),
  (18, [(8, .invokevirtual 279, 159, 1, 7019), (11, .if_icmp .ge 38, 49, 0, 0), (14, .iload_n 3, 0, 0, 0), (15, .iload 4, 0, 0, 0), (17, .iload_n 2, 0, 0, 0), (18, .if_icmp .ne 7, 25, 0, 0)]),
  (30, [(21, .iconst 0, 0, 0, 0), (22, .goto 19, 41, 0, 0), (25, .aload_n 0, 0, 0, 0), (26, .iload 4, 0, 0, 0), (28, .bipush 7, 0, 0, 0), (30, .invokevirtual 286, 161, 3, 7027)]),
  (41, [(33, .aload_n 0, 0, 0, 0), (34, .iload 4, 0, 0, 0), (36, .iload_n 1, 0, 0, 0), (37, .invokevirtual 392, 205, 3, 7198), (40, .imul, 0, 0, 0), (41, .iadd, 0, 0, 0)]),
  (50, [(42, .istore_n 3, 0, 0, 0), (43, .iinc 4 1, 0, 0, 0), (46, .goto (-41), 5, 0, 0), (49, .iload_n 3, 0, 0, 0), (50, .ireturn, 0, 0, 0)])]
def mO210 : List (Nat × List (Nat × mOp)) := [(15, [(0, .aload_n 0, 0, 0, 0), (1, .iconst 0, 0, 0, 0), (2, .putfield 1, 12, 0, 6036), (5, .aload_n 0, 0, 0, 0), (6, .iload_n 1, 0, 0, 0), (7, .invokevirtual 321, 164, 2, 7038), (10, .ifCond .ne 5, 15, 0, 0), (13, .iconst (-1), 0, 0, 0), (14, .ireturn, 0, 0, 0), (15, .iconst 0, 0, 0, 0)]),
  (29, [(16, .istore_n 2, 0, 0, 0), (17, .iconst 0, 0, 0, 0), (18, .istore_n 3, 0, 0, 0), (19, .iload_n 3, 0, 0, 0), (20, .iconst 5, 0, 0, 0), (21, .if_icmp .ge 142, 163, 0, 0), (24, .aload_n 0, 0, 0, 0), (25, .iload_n 3, 0, 0, 0), (26, .invokevirtual 389, 204, 2, 7194), (29, .istore 4, 0, 0, 0)]),
  (46, [(31, .iload 4, 0, 0, 0), (33, .ifCond .eq 23, 56, 0, 0), (36, .aload_n 0, 0, 0, 0), (37, .iload_n 3, 0, 0, 0), (38, .iload_n 1, 0, 0, 0), (39, .invokevirtual 401, 209, 3, 7214), (42, .bipush 99, 0, 0, 0), (44, .aload_n 0, 0, 0, 0), (45, .iload_n 1, 0, 0, 0), (46, .bipush 7, 0, 0, 0)]),
  (64, [(48, .invokevirtual 286, 161, 3, 7027), (51, .imul, 0, 0, 0), (52, .iadd, 0, 0, 0), (53, .goto 4, 57, 0, 0), (56, .iconst 0, 0, 0, 0), (57, .istore 5, 0, 0, 0), (59, .iconst 0, 0, 0, 0), (60, .istore 6, 0, 0, 0), (62, .iload 6, 0, 0, 0), (64, .iconst 5, 0, 0, 0)]),
  (85, [(65, .if_icmp .ge 77, 142, 0, 0), (68, .iload 4, 0, 0, 0), (70, .ifCond .eq 72, 142, 0, 0), (73, .iload 6, 0, 0, 0), (75, .iload_n 3, 0, 0, 0), (76, .if_icmp .eq 22, 98, 0, 0), (79, .aload_n 0, 0, 0, 0), (80, .iload 6, 0, 0, 0), (82, .invokevirtual 389, 204, 2, 7194), (85, .ifCond .eq 13, 98, 0, 0)]),
  (104, [(88, .aload_n 0, 0, 0, 0), (89, .iload 6, 0, 0, 0), (91, .iload_n 1, 0, 0, 0), (92, .invokevirtual 401, 209, 3, 7214), (95, .goto 4, 99, 0, 0), (98, .iconst (-1), 0, 0, 0), (99, .istore 7, 0, 0, 0), (101, .iload 6, 0, 0, 0), (103, .iload_n 3, 0, 0, 0), (104, .if_icmp .ge 18, 122, 0, 0)]),
  (126, [(107, .iload 5, 0, 0, 0), (109, .iload 7, 0, 0, 0), (111, .if_icmp .le 7, 118, 0, 0), (114, .iconst 1, 0, 0, 0), (115, .goto 19, 134, 0, 0), (118, .iconst 0, 0, 0, 0), (119, .goto 15, 134, 0, 0), (122, .iload 5, 0, 0, 0), (124, .iload 7, 0, 0, 0), (126, .if_icmp .lt 7, 133, 0, 0)]),
  (148, [(129, .iconst 1, 0, 0, 0), (130, .goto 4, 134, 0, 0), (133, .iconst 0, 0, 0, 0), (134, .istore 4, 0, 0, 0), (136, .iinc 6 1, 0, 0, 0), (139, .goto (-77), 62, 0, 0), (142, .iload_n 2, 0, 0, 0), (143, .iload 4, 0, 0, 0), (145, .ifCond .eq 9, 154, 0, 0), (148, .iconst 1, 0, 0, 0)]),
  (164, [(149, .iload_n 3, 0, 0, 0), (150, .ishl, 0, 0, 0), (151, .goto 4, 155, 0, 0), (154, .iconst 0, 0, 0, 0), (155, .ior, 0, 0, 0), (156, .istore_n 2, 0, 0, 0), (157, .iinc 3 1, 0, 0, 0), (160, .goto (-141), 19, 0, 0), (163, .iload_n 2, 0, 0, 0), (164, .ireturn, 0, 0, 0)])]
def mO211 : List (Nat × List (Nat × mOp)) := [(6, [(0, .aload_n 0, 0, 0, 0), (1, .iconst 0, 0, 0, 0), (2, .putfield 1, 12, 0, 6036), (5, .aload_n 0, 0, 0, 0), (6, .iload_n 1, 0, 0, 0)]),
  (15, [(7, .iload_n 2, 0, 0, 0), (8, .invokevirtual 404, 212, 3, 7226), (11, .ifCond .eq 14, 25, 0, 0), (14, .aload_n 0, 0, 0, 0), (15, .iload_n 1, 0, 0, 0)]),
  (22, [(16, .iload_n 2, 0, 0, 0), (17, .iconst 0, 0, 0, 0), (18, .iconst 0, 0, 0, 0), (19, .invokevirtual 367, 192, 5, 7146), (22, .goto 4, 26, 0, 0)]),
  (26, [(25, .iconst (-1), 0, 0, 0), (26, .ireturn, 0, 0, 0)])]
def mO212 : List (Nat × List (Nat × mOp)) := [(5, [(0, .aload_n 0, 0, 0, 0), (1, .iload_n 1, 0, 0, 0), (2, .invokevirtual 321, 164, 2, 7038), (5, .ifCond .eq 20, 25, 0, 0)]),
  (13, [(8, .aload_n 0, 0, 0, 0), (9, .iload_n 2, 0, 0, 0), (10, .invokevirtual 321, 164, 2, 7038), (13, .ifCond .eq 12, 25, 0, 0)]),
  (21, [(16, .iload_n 1, 0, 0, 0), (17, .iload_n 2, 0, 0, 0), (18, .if_icmp .gt 7, 25, 0, 0), (21, .iconst 1, 0, 0, 0)]),
  (26, [(22, .goto 4, 26, 0, 0), (25, .iconst 0, 0, 0, 0), (26, .ireturn, 1, 0, 0)])]
def mO213 : List (Nat × List (Nat × mOp)) := [(7, [(0, .aload_n 0, 0, 0, 0), (1, .iconst 0, 0, 0, 0), (2, .putfield 1, 12, 0, 6036), (5, .aload_n 0, 0, 0, 0), (6, .iload_n 1, 0, 0, 0), (7, .invokevirtual 321, 164, 2, 7038)]),
  (21, [(10, .ifCond .eq 14, 24, 0, 0), (13, .iload_n 2, 0, 0, 0), (14, .iconst 0, 0, 0, 0), (15, .sipush 999, 0, 0, 0), (18, .invokestatic 330, 175, 3, 7081), (21, .ifCond .ne 5, 26, 0, 0)]),
  (33, [(24, .iconst 0, 0, 0, 0), (25, .ireturn, 1, 0, 0), (26, .aload_n 0, 0, 0, 0), (27, .getfield 95, 12, 10, 6046), (30, .sipush 202, 0, 0, 0), (33, .bipush 12, 0, 0, 0)]),
  (41, [(35, .iload_n 1, 0, 0, 0), (36, .imul, 0, 0, 0), (37, .iadd, 0, 0, 0), (38, .bipush 9, 0, 0, 0), (40, .iadd, 0, 0, 0), (41, .iload_n 2, 0, 0, 0)]),
  (44, [(42, .iastore, 0, 0, 0), (43, .iconst 1, 0, 0, 0), (44, .ireturn, 1, 0, 0)])]
def mO214 : List (Nat × List (Nat × mOp)) := [(8, [(0, .aload_n 0, 0, 0, 0), (1, .iconst 0, 0, 0, 0), (2, .putfield 1, 12, 0, 6036), (5, .iconst 0, 0, 0, 0), (6, .istore_n 1, 0, 0, 0), (7, .iload_n 1, 0, 0, 0), (8, .aload_n 0, 0, 0, 0)]),
  (19, [(9, .invokevirtual 279, 159, 1, 7019), (12, .if_icmp .ge 56, 68, 0, 0), (15, .iconst 0, 0, 0, 0), (16, .istore_n 2, 0, 0, 0), (17, .iload_n 1, 0, 0, 0), (18, .istore_n 3, 0, 0, 0), (19, .iload_n 3, 0, 0, 0)]),
  (30, [(20, .aload_n 0, 0, 0, 0), (21, .invokevirtual 279, 159, 1, 7019), (24, .if_icmp .ge 38, 62, 0, 0), (27, .iload_n 2, 0, 0, 0), (28, .aload_n 0, 0, 0, 0), (29, .iload_n 3, 0, 0, 0), (30, .bipush 9, 0, 0, 0)]),
  (40, [(32, .invokevirtual 286, 161, 3, 7027), (35, .iadd, 0, 0, 0), (36, .istore_n 2, 0, 0, 0), (37, .iload_n 2, 0, 0, 0), (38, .aload_n 0, 0, 0, 0), (39, .iload_n 1, 0, 0, 0), (40, .iload_n 3, 0, 0, 0)]),
  (52, [(41, .iconst 0, 0, 0, 0), (42, .iconst 0, 0, 0, 0), (43, .invokevirtual 367, 192, 5, 7146), (46, .if_icmp .ge 10, 56, 0, 0), (49, .bipush 10, 0, 0, 0), (51, .iload_n 1, 0, 0, 0), (52, .imul, 0, 0, 0)]),
  (65, [(53, .iload_n 3, 0, 0, 0), (54, .iadd, 0, 0, 0), (55, .ireturn, 0, 0, 0), (56, .iinc 3 1, 0, 0, 0), (59, .goto (-40), 19, 0, 0), (62, .iinc 1 1, 0, 0, 0), (65, .goto (-58), 7, 0, 0)]),
  (69, [(68, .iconst (-1), 0, 0, 0), (69, .ireturn, 0, 0, 0)])]
def mO215 : List (Nat × List (Nat × mOp)) := [(15, [(0, .aload_n 0, 0, 0, 0), (1, .iconst 0, 0, 0, 0), (2, .putfield 1, 12, 0, 6036), (5, .aload_n 0, 0, 0, 0), (6, .iload_n 1, 0, 0, 0), (7, .invokevirtual 321, 164, 2, 7038), (10, .ifCond .ne 5, 15, 0, 0), (13, .iconst (-1), 0, 0, 0), (14, .ireturn, 0, 0, 0), (15, .iconst 0, 0, 0, 0)]),
  (31, [(16, .istore_n 2, 0, 0, 0), (17, .iload_n 2, 0, 0, 0), (18, .aload_n 0, 0, 0, 0), (19, .invokevirtual 279, 159, 1, 7019), (22, .if_icmp .ge 87, 109, 0, 0), (25, .aload_n 0, 0, 0, 0), (26, .getfield 138, 12, 28, 6064), (29, .iload_n 2, 0, 0, 0), (30, .iconst 1, 0, 0, 0), (31, .iadd, 0, 0, 0)]),
  (43, [(32, .aload_n 0, 0, 0, 0), (33, .getfield 138, 12, 28, 6064), (36, .iload_n 2, 0, 0, 0), (37, .iaload, 0, 0, 0), (38, .iastore, 0, 0, 0), (39, .iconst 0, 0, 0, 0), (40, .istore_n 3, 0, 0, 0), (41, .iload_n 3, 0, 0, 0), (42, .iload_n 2, 0, 0, 0), (43, .if_icmp .gt 60, 103, 0, 0)]),
  (57, [(46, .aload_n 0, 0, 0, 0), (47, .getfield 138, 12, 28, 6064), (50, .iload_n 3, 0, 0, 0), (51, .iaload, 0, 0, 0), (52, .aload_n 0, 0, 0, 0), (53, .iload_n 3, 0, 0, 0), (54, .iload_n 2, 0, 0, 0), (55, .iconst 0, 0, 0, 0), (56, .iconst 0, 0, 0, 0), (57, .invokevirtual 367, 192, 5, 7146)]),
  (73, [(60, .iadd, 0, 0, 0), (61, .istore 4, 0, 0, 0), (63, .aload_n 0, 0, 0, 0), (64, .getfield 138, 12, 28, 6064), (67, .iload_n 2, 0, 0, 0), (68, .iconst 1, 0, 0, 0), (69, .iadd, 0, 0, 0), (70, .iload 4, 0, 0, 0), (72, .aload_n 0, 0, 0, 0), (73, .getfield 138, 12, 28, 6064)]),
  (92, [(76, .iload_n 2, 0, 0, 0), (77, .iconst 1, 0, 0, 0), (78, .iadd, 0, 0, 0), (79, .iaload, 0, 0, 0), (80, .if_icmp .le 8, 88, 0, 0), (83, .iload 4, 0, 0, 0), (85, .goto 11, 96, 0, 0), (88, .aload_n 0, 0, 0, 0), (89, .getfield 138, 12, 28, 6064), (92, .iload_n 2, 0, 0, 0)]),
  (110, [(93, .iconst 1, 0, 0, 0), (94, .iadd, 0, 0, 0), (95, .iaload, 0, 0, 0), (96, .iastore, 0, 0, 0), (97, .iinc 3 1, 0, 0, 0), (100, .goto (-59), 41, 0, 0), (103, .iinc 2 1, 0, 0, 0), (106, .goto (-89), 17, 0, 0), (109, .aload_n 0, 0, 0, 0), (110, .getfield 138, 12, 28, 6064)]),
  (126, [(113, .aload_n 0, 0, 0, 0), (114, .invokevirtual 279, 159, 1, 7019), (117, .iaload, 0, 0, 0), (118, .aload_n 0, 0, 0, 0), (119, .iconst 0, 0, 0, 0), (120, .aload_n 0, 0, 0, 0), (121, .invokevirtual 279, 159, 1, 7019), (124, .iconst 1, 0, 0, 0), (125, .isub, 0, 0, 0), (126, .iconst 0, 0, 0, 0)]),
  (142, [(127, .iconst 0, 0, 0, 0), (128, .invokevirtual 367, 192, 5, 7146), (131, .if_icmp .ne 21, 152, 0, 0), (134, .aload_n 0, 0, 0, 0), (135, .getfield 138, 12, 28, 6064), (138, .iload_n 1, 0, 0, 0), (139, .iconst 1, 0, 0, 0), (140, .iadd, 0, 0, 0), (141, .iaload, 0, 0, 0), (142, .aload_n 0, 0, 0, 0)]),
  (153, [(143, .getfield 138, 12, 28, 6064), (146, .iload_n 1, 0, 0, 0), (147, .iaload, 0, 0, 0), (148, .isub, 0, 0, 0), (149, .goto 4, 153, 0, 0), (152, .iconst (-1), 0, 0, 0), (153, .ireturn, 0, 0, 0)])]
def mO216 : List (Nat × List (Nat × mOp)) := [(10, [(0, .aload_n 0, 0, 0, 0), (1, .aload_n 0, 0, 0, 0), (2, .invokevirtual 279, 159, 1, 7019), (5, .iconst 2, 0, 0, 0), (6, .if_icmp .lt 20, 26, 0, 0), (9, .iload_n 1, 0, 0, 0), (10, .iconst (-1), 0, 0, 0)]),
  (23, [(11, .if_icmp .lt 15, 26, 0, 0), (14, .iload_n 1, 0, 0, 0), (15, .aload_n 0, 0, 0, 0), (16, .invokevirtual 279, 159, 1, 7019), (19, .if_icmp .ge 7, 26, 0, 0), (22, .iconst 0, 0, 0, 0), (23, .goto 4, 27, 0, 0)]),
  (38, [(26, .iconst 1, 0, 0, 0), (27, .putfield 1, 12, 0, 6036), (30, .aload_n 0, 0, 0, 0), (31, .getfield 1, 12, 0, 6036), (34, .ifCond .le 5, 39, 0, 0), (37, .iconst 0, 0, 0, 0), (38, .ireturn, 0, 0, 0)]),
  (47, [(39, .aload_n 0, 0, 0, 0), (40, .iconst 0, 0, 0, 0), (41, .putfield 411, 12, 32, 6068), (44, .aload_n 0, 0, 0, 0), (45, .iconst 0, 0, 0, 0), (46, .iconst 0, 0, 0, 0), (47, .invokevirtual 417, 217, 3, 8006)]),
  (62, [(50, .iload_n 1, 0, 0, 0), (51, .iconst (-1), 0, 0, 0), (52, .if_icmp .ne 10, 62, 0, 0), (55, .aload_n 0, 0, 0, 0), (56, .getfield 414, 12, 31, 6067), (59, .goto 9, 68, 0, 0), (62, .aload_n 0, 0, 0, 0)]),
  (68, [(63, .getfield 144, 12, 30, 6066), (66, .iload_n 1, 0, 0, 0), (67, .iaload, 0, 0, 0), (68, .ireturn, 0, 0, 0)])]
def mO217 : List (Nat × List (Nat × mOp)) := [(14, [(0, .iload_n 1, 0, 0, 0), (1, .aload_n 0, 0, 0, 0), (2, .invokevirtual 279, 159, 1, 7019), (5, .if_icmp .ne 63, 68, 0, 0), (8, .aload_n 0, 0, 0, 0), (9, .invokevirtual 408, 218, 1, 8010), (12, .istore_n 3, 0, 0, 0), (13, .aload_n 0, 0, 0, 0), (14, .getfield 411, 12, 32, 6068)]),
  (33, [(17, .ifCond .eq 11, 28, 0, 0), (20, .iload_n 3, 0, 0, 0), (21, .aload_n 0, 0, 0, 0), (22, .getfield 414, 12, 31, 6067), (25, .if_icmp .ge 42, 67, 0, 0), (28, .aload_n 0, 0, 0, 0), (29, .iconst 1, 0, 0, 0), (30, .putfield 411, 12, 32, 6068), (33, .aload_n 0, 0, 0, 0)]),
  (48, [(34, .iload_n 3, 0, 0, 0), (35, .putfield 414, 12, 31, 6067), (38, .iconst 0, 0, 0, 0), (39, .istore 4, 0, 0, 0), (41, .iload 4, 0, 0, 0), (43, .iload_n 1, 0, 0, 0), (44, .if_icmp .ge 23, 67, 0, 0), (47, .aload_n 0, 0, 0, 0), (48, .getfield 144, 12, 30, 6066)]),
  (67, [(51, .iload 4, 0, 0, 0), (53, .aload_n 0, 0, 0, 0), (54, .getfield 141, 12, 29, 6065), (57, .iload 4, 0, 0, 0), (59, .iaload, 0, 0, 0), (60, .iastore, 0, 0, 0), (61, .iinc 4 1, 0, 0, 0), (64, .goto (-23), 41, 0, 0), (67, .return_, 0, 0, 0)]),
  (80, [(68, .iconst 0, 0, 0, 0), (69, .istore_n 3, 0, 0, 0), (70, .iload_n 3, 0, 0, 0), (71, .aload_n 0, 0, 0, 0), (72, .invokevirtual 279, 159, 1, 7019), (75, .if_icmp .ge 36, 111, 0, 0), (78, .iload_n 2, 0, 0, 0), (79, .iload_n 3, 0, 0, 0), (80, .ishr, 0, 0, 0)]),
  (93, [(81, .iconst 1, 0, 0, 0), (82, .iand, 0, 0, 0), (83, .ifCond .ne 22, 105, 0, 0), (86, .aload_n 0, 0, 0, 0), (87, .getfield 141, 12, 29, 6065), (90, .iload_n 1, 0, 0, 0), (91, .iload_n 3, 0, 0, 0), (92, .iastore, 0, 0, 0), (93, .aload_n 0, 0, 0, 0)]),
  (102, [(94, .iload_n 1, 0, 0, 0), (95, .iconst 1, 0, 0, 0), (96, .iadd, 0, 0, 0), (97, .iload_n 2, 0, 0, 0), (98, .iconst 1, 0, 0, 0), (99, .iload_n 3, 0, 0, 0), (100, .ishl, 0, 0, 0), (101, .ior, 0, 0, 0), (102, .invokevirtual 417, 217, 3, 8006)]),
  (111, [(105, .iinc 3 1, 0, 0, 0), (108, .goto (-38), 70, 0, 0), (111, .return_, 0, 0, 0)])]
def mO218 : List (Nat × List (Nat × mOp)) := [(12, [(0, .aload_n 0, 0, 0, 0), (1, .invokevirtual 279, 159, 1, 7019), (4, .istore_n 1, 0, 0, 0), (5, .iconst 0, 0, 0, 0), (6, .istore_n 2, 0, 0, 0), (7, .iload_n 2, 0, 0, 0), (8, .iload_n 1, 0, 0, 0), (9, .if_icmp .ge 44, 53, 0, 0), (12, .aload_n 0, 0, 0, 0)]),
  (25, [(13, .getfield 120, 12, 22, 6058), (16, .iload_n 2, 0, 0, 0), (17, .aload_n 0, 0, 0, 0), (18, .aload_n 0, 0, 0, 0), (19, .getfield 141, 12, 29, 6065), (22, .iload_n 2, 0, 0, 0), (23, .iaload, 0, 0, 0), (24, .aload_n 0, 0, 0, 0), (25, .iload_n 2, 0, 0, 0)]),
  (40, [(26, .iconst 1, 0, 0, 0), (27, .invokevirtual 286, 161, 3, 7027), (30, .aload_n 0, 0, 0, 0), (31, .iload_n 2, 0, 0, 0), (32, .iconst 2, 0, 0, 0), (33, .invokevirtual 286, 161, 3, 7027), (36, .aload_n 0, 0, 0, 0), (37, .getfield 95, 12, 10, 6046), (40, .iconst 3, 0, 0, 0)]),
  (57, [(41, .iaload, 0, 0, 0), (42, .iconst 0, 0, 0, 0), (43, .invokevirtual 305, 166, 6, 7046), (46, .iastore, 0, 0, 0), (47, .iinc 2 1, 0, 0, 0), (50, .goto (-43), 7, 0, 0), (53, .ldc_w 407, 0, 8014, (-100000000)), (56, .istore_n 2, 0, 0, 0), (57, .iconst 0, 0, 0, 0)]),
  (68, [(58, .istore_n 3, 0, 0, 0), (59, .iload_n 3, 0, 0, 0), (60, .iload_n 1, 0, 0, 0), (61, .iconst 1, 0, 0, 0), (62, .isub, 0, 0, 0), (63, .if_icmp .ge 41, 104, 0, 0), (66, .aload_n 0, 0, 0, 0), (67, .iconst 0, 0, 0, 0), (68, .iload_n 1, 0, 0, 0)]),
  (81, [(69, .iconst 1, 0, 0, 0), (70, .isub, 0, 0, 0), (71, .iload_n 3, 0, 0, 0), (72, .invokevirtual 315, 178, 4, 7092), (75, .iload_n 1, 0, 0, 0), (76, .aload_n 0, 0, 0, 0), (77, .iload_n 3, 0, 0, 0), (78, .invokevirtual 318, 191, 2, 7142), (81, .imul, 0, 0, 0)]),
  (97, [(82, .isub, 0, 0, 0), (83, .istore 4, 0, 0, 0), (85, .iload 4, 0, 0, 0), (87, .iload_n 2, 0, 0, 0), (88, .if_icmp .le 8, 96, 0, 0), (91, .iload 4, 0, 0, 0), (93, .goto 4, 97, 0, 0), (96, .iload_n 2, 0, 0, 0), (97, .istore_n 2, 0, 0, 0)]),
  (105, [(98, .iinc 3 1, 0, 0, 0), (101, .goto (-42), 59, 0, 0), (104, .iload_n 2, 0, 0, 0), (105, .ireturn, 0, 0, 0)])]
def mO219 : List (Nat × List (Nat × mOp)) := [(17, [(0, .aload_n 0, 0, 0, 0), (1, .iconst 0, 0, 0, 0), (2, .putfield 1, 12, 0, 6036), (5, .aload_n 0, 0, 0, 0), (6, .invokevirtual 279, 159, 1, 7019), (9, .istore 4, 0, 0, 0), (11, .aload_n 0, 0, 0, 0), (12, .iload_n 1, 0, 0, 0), (13, .iload_n 2, 0, 0, 0), (14, .invokevirtual 344, 188, 3, 7130), (17, .ifCond .eq 25, 42, 0, 0)]),
  (42, [(20, .iload_n 3, 0, 0, 0), (21, .iconst 0, 0, 0, 0), (22, .bipush 99, 0, 0, 0), (24, .invokestatic 330, 175, 3, 7081), (27, .ifCond .eq 15, 42, 0, 0), (30, .iload 4, 0, 0, 0), (32, .ifCond .eq 10, 42, 0, 0), (35, .iload 4, 0, 0, 0), (37, .bipush 7, 0, 0, 0), (39, .if_icmp .ne 5, 44, 0, 0), (42, .iconst (-1), 0, 0, 0)]),
  (57, [(43, .ireturn, 0, 0, 0), (44, .aload_n 0, 0, 0, 0), (45, .iconst 0, 0, 0, 0), (46, .iconst 0, 0, 0, 0), (47, .aload_n 0, 0, 0, 0), (48, .getfield 95, 12, 10, 6046), (51, .iconst 3, 0, 0, 0), (52, .iaload, 0, 0, 0), (53, .iconst 0, 0, 0, 0), (54, .invokevirtual 334, 176, 5, 7084), (57, .aload_n 0, 0, 0, 0)]),
  (72, [(58, .iload_n 1, 0, 0, 0), (59, .iload_n 2, 0, 0, 0), (60, .aload_n 0, 0, 0, 0), (61, .getfield 95, 12, 10, 6046), (64, .iconst 3, 0, 0, 0), (65, .iaload, 0, 0, 0), (66, .iconst 0, 0, 0, 0), (67, .invokevirtual 298, 167, 5, 7050), (70, .iload_n 3, 0, 0, 0), (71, .isub, 0, 0, 0), (72, .istore 5, 0, 0, 0)]),
  (93, [(74, .aload_n 0, 0, 0, 0), (75, .getfield 120, 12, 22, 6058), (78, .iload 4, 0, 0, 0), (80, .iload 5, 0, 0, 0), (82, .ifCond .ge 7, 89, 0, 0), (85, .iconst 0, 0, 0, 0), (86, .goto 5, 91, 0, 0), (89, .iload 5, 0, 0, 0), (91, .iastore, 0, 0, 0), (92, .aload_n 0, 0, 0, 0), (93, .iload 4, 0, 0, 0)]),
  (111, [(95, .iconst 1, 0, 0, 0), (96, .isub, 0, 0, 0), (97, .invokevirtual 309, 171, 2, 7065), (100, .istore 6, 0, 0, 0), (102, .iload 4, 0, 0, 0), (104, .iload 6, 0, 0, 0), (106, .isub, 0, 0, 0), (107, .iconst 1, 0, 0, 0), (108, .iadd, 0, 0, 0), (109, .istore 7, 0, 0, 0), (111, .iload 6, 0, 0, 0)]),
  (131, [(113, .istore 8, 0, 0, 0), (115, .iload 8, 0, 0, 0), (117, .iload 4, 0, 0, 0), (119, .iconst 1, 0, 0, 0), (120, .isub, 0, 0, 0), (121, .if_icmp .ge 33, 154, 0, 0), (124, .aload_n 0, 0, 0, 0), (125, .iload 6, 0, 0, 0), (127, .iload 4, 0, 0, 0), (129, .iload 8, 0, 0, 0), (131, .invokevirtual 315, 178, 4, 7092)]),
  (154, [(134, .iload 7, 0, 0, 0), (136, .aload_n 0, 0, 0, 0), (137, .iload 8, 0, 0, 0), (139, .invokevirtual 318, 191, 2, 7142), (142, .imul, 0, 0, 0), (143, .if_icmp .le 5, 148, 0, 0), (146, .iconst (-1), 0, 0, 0), (147, .ireturn, 0, 0, 0), (148, .iinc 8 1, 0, 0, 0), (151, .goto (-36), 115, 0, 0), (154, .aload_n 0, 0, 0, 0)]),
  (171, [(155, .iload 6, 0, 0, 0), (157, .iload 4, 0, 0, 0), (159, .iload 4, 0, 0, 0), (161, .iconst 1, 0, 0, 0), (162, .isub, 0, 0, 0), (163, .invokevirtual 315, 178, 4, 7092), (166, .iload 7, 0, 0, 0), (168, .iadd, 0, 0, 0), (169, .iconst 1, 0, 0, 0), (170, .isub, 0, 0, 0), (171, .iload 7, 0, 0, 0)]),
  (174, [(173, .idiv, 0, 0, 0), (174, .ireturn, 0, 0, 0)])]
def mO220 : List (Nat × List (Nat × mOp)) := [(20, [(0, .aload_n 0, 0, 0, 0), (1, .iconst 0, 0, 0, 0), (2, .putfield 1, 12, 0, 6036), (5, .iload_n 1, 0, 0, 0), (6, .iconst 0, 0, 0, 0), (7, .sipush 9999, 0, 0, 0), (10, .invokestatic 330, 175, 3, 7081), (13, .ifCond .eq 22, 35, 0, 0), (16, .iload_n 2, 0, 0, 0), (17, .iconst 1, 0, 0, 0), (18, .bipush 99, 0, 0, 0), (20, .invokestatic 330, 175, 3, 7081)]),
  (40, [(23, .ifCond .eq 12, 35, 0, 0), (26, .iload_n 3, 0, 0, 0), (27, .iconst 0, 0, 0, 0), (28, .iconst 1, 0, 0, 0), (29, .invokestatic 330, 175, 3, 7081), (32, .ifCond .ne 5, 37, 0, 0), (35, .iconst (-1), 0, 0, 0), (36, .ireturn, 0, 0, 0), (37, .aload_n 0, 0, 0, 0), (38, .iload_n 1, 0, 0, 0), (39, .i2l, 0, 0, 0), (40, .putfield 420, 12, 33, 6069)]),
  (60, [(43, .iconst 0, 0, 0, 0), (44, .istore 4, 0, 0, 0), (46, .iconst 0, 0, 0, 0), (47, .istore 5, 0, 0, 0), (49, .iconst 0, 0, 0, 0), (50, .istore 6, 0, 0, 0), (52, .iload 6, 0, 0, 0), (54, .iload_n 2, 0, 0, 0), (55, .if_icmp .ge 195, 250, 0, 0), (58, .aload_n 0, 0, 0, 0), (59, .aload_n 0, 0, 0, 0), (60, .getfield 95, 12, 10, 6046)]),
  (79, [(63, .iconst 4, 0, 0, 0), (64, .iaload, 0, 0, 0), (65, .iconst 1, 0, 0, 0), (66, .iadd, 0, 0, 0), (67, .invokevirtual 432, 221, 2, 8023), (70, .istore 7, 0, 0, 0), (72, .iconst 0, 0, 0, 0), (73, .istore 8, 0, 0, 0), (75, .iconst 0, 0, 0, 0), (76, .istore 9, 0, 0, 0), (78, .iconst 0, 0, 0, 0), (79, .istore 10, 0, 0, 0)]),
  (101, [(81, .iload 10, 0, 0, 0), (83, .bipush 24, 0, 0, 0), (85, .if_icmp .ge 114, 199, 0, 0), (88, .aload_n 0, 0, 0, 0), (89, .iconst 0, 0, 0, 0), (90, .iconst 0, 0, 0, 0), (91, .iload 10, 0, 0, 0), (93, .iload 7, 0, 0, 0), (95, .invokevirtual 334, 176, 5, 7084), (98, .iconst 0, 0, 0, 0), (99, .istore 11, 0, 0, 0), (101, .iload 11, 0, 0, 0)]),
  (127, [(103, .aload_n 0, 0, 0, 0), (104, .invokevirtual 221, 158, 1, 7015), (107, .if_icmp .ge 39, 146, 0, 0), (110, .iload 8, 0, 0, 0), (112, .ifCond .ne 21, 133, 0, 0), (115, .aload_n 0, 0, 0, 0), (116, .iload 11, 0, 0, 0), (118, .invokevirtual 292, 172, 2, 7069), (121, .ifCond .ne 16, 137, 0, 0), (124, .aload_n 0, 0, 0, 0), (125, .iload 11, 0, 0, 0), (127, .invokevirtual 351, 190, 2, 7138)]),
  (152, [(130, .ifCond .eq 7, 137, 0, 0), (133, .iconst 1, 0, 0, 0), (134, .goto 4, 138, 0, 0), (137, .iconst 0, 0, 0, 0), (138, .istore 8, 0, 0, 0), (140, .iinc 11 1, 0, 0, 0), (143, .goto (-42), 101, 0, 0), (146, .iconst 0, 0, 0, 0), (147, .istore 11, 0, 0, 0), (149, .iload 11, 0, 0, 0), (151, .aload_n 0, 0, 0, 0), (152, .invokevirtual 279, 159, 1, 7019)]),
  (176, [(155, .if_icmp .ge 38, 193, 0, 0), (158, .iload 9, 0, 0, 0), (160, .aload_n 0, 0, 0, 0), (161, .getfield 120, 12, 22, 6058), (164, .iload 11, 0, 0, 0), (166, .iaload, 0, 0, 0), (167, .aload_n 0, 0, 0, 0), (168, .getfield 95, 12, 10, 6046), (171, .iconst 5, 0, 0, 0), (172, .iaload, 0, 0, 0), (173, .if_icmp .le 10, 183, 0, 0), (176, .iconst 1, 0, 0, 0)]),
  (201, [(177, .iload 11, 0, 0, 0), (179, .ishl, 0, 0, 0), (180, .goto 4, 184, 0, 0), (183, .iconst 0, 0, 0, 0), (184, .ior, 0, 0, 0), (185, .istore 9, 0, 0, 0), (187, .iinc 11 1, 0, 0, 0), (190, .goto (-41), 149, 0, 0), (193, .iinc 10 1, 0, 0, 0), (196, .goto (-115), 81, 0, 0), (199, .iload 4, 0, 0, 0), (201, .iload 8, 0, 0, 0)]),
  (223, [(203, .ifCond .eq 7, 210, 0, 0), (206, .iconst 1, 0, 0, 0), (207, .goto 4, 211, 0, 0), (210, .iconst 0, 0, 0, 0), (211, .iadd, 0, 0, 0), (212, .istore 4, 0, 0, 0), (214, .iconst 0, 0, 0, 0), (215, .istore 10, 0, 0, 0), (217, .iload 10, 0, 0, 0), (219, .aload_n 0, 0, 0, 0), (220, .invokevirtual 279, 159, 1, 7019), (223, .if_icmp .ge 21, 244, 0, 0)]),
  (247, [(226, .iload 5, 0, 0, 0), (228, .iload 9, 0, 0, 0), (230, .iload 10, 0, 0, 0), (232, .ishr, 0, 0, 0), (233, .iconst 1, 0, 0, 0), (234, .iand, 0, 0, 0), (235, .iadd, 0, 0, 0), (236, .istore 5, 0, 0, 0), (238, .iinc 10 1, 0, 0, 0), (241, .goto (-24), 217, 0, 0), (244, .iinc 6 1, 0, 0, 0), (247, .goto (-195), 52, 0, 0)]),
  (261, [(250, .iload_n 3, 0, 0, 0), (251, .ifCond .ne 8, 259, 0, 0), (254, .iload 4, 0, 0, 0), (256, .goto 5, 261, 0, 0), (259, .iload 5, 0, 0, 0), (261, .ireturn, 0, 0, 0)])]
def mO221 : List (Nat × List (Nat × mOp)) := [(8, [(0, .aload_n 0, 0, 0, 0), (1, .aload_n 0, 0, 0, 0), (2, .getfield 420, 12, 33, 6069), (5, .ldc2_w 424, 0, 8027, 1103515245), (8, .lmul, 0, 0, 0)]),
  (17, [(9, .ldc2_w 426, 0, 8028, 12345), (12, .ladd, 0, 0, 0), (13, .ldc2_w 428, 0, 8029, 2147483648), (16, .lrem, 0, 0, 0), (17, .putfield 420, 12, 33, 6069)]),
  (28, [(20, .aload_n 0, 0, 0, 0), (21, .getfield 420, 12, 33, 6069), (24, .ldc2_w 430, 0, 8030, 65536), (27, .ldiv, 0, 0, 0), (28, .iload_n 1, 0, 0, 0)]),
  (32, [(29, .i2l, 0, 0, 0), (30, .lrem, 0, 0, 0), (31, .l2i, 0, 0, 0), (32, .ireturn, 0, 0, 0)])]
def mO222 : List (Nat × List (Nat × mOp)) := [(8, [(0, .aload_n 0, 0, 0, 0), (1, .iconst 0, 0, 0, 0), (2, .putfield 1, 12, 0, 6036), (5, .iload_n 1, 0, 0, 0), (6, .iconst 0, 0, 0, 0), (7, .iconst 3, 0, 0, 0), (8, .invokestatic 330, 175, 3, 7081)]),
  (23, [(11, .ifCond .eq 16, 27, 0, 0), (14, .iload_n 2, 0, 0, 0), (15, .ifCond .eq 14, 29, 0, 0), (18, .aload_n 0, 0, 0, 0), (19, .getfield 116, 12, 21, 6057), (22, .iload_n 1, 0, 0, 0), (23, .baload, 0, 0, 0)]),
  (34, [(24, .ifCond .ne 5, 29, 0, 0), (27, .iconst 0, 0, 0, 0), (28, .ireturn, 1, 0, 0), (29, .aload_n 0, 0, 0, 0), (30, .getfield 116, 12, 21, 6057), (33, .iload_n 1, 0, 0, 0), (34, .iconst 1, 0, 0, 0)]),
  (43, [(35, .bastore, 0, 0, 0), (36, .aload_n 0, 0, 0, 0), (37, .iload_n 2, 0, 0, 0), (38, .ifCond .eq 9, 47, 0, 0), (41, .iconst 2, 0, 0, 0), (42, .iload_n 1, 0, 0, 0), (43, .iadd, 0, 0, 0)]),
  (56, [(44, .goto 4, 48, 0, 0), (47, .iconst 0, 0, 0, 0), (48, .iload_n 2, 0, 0, 0), (49, .ifCond .eq 7, 56, 0, 0), (52, .iconst 0, 0, 0, 0), (53, .goto 6, 59, 0, 0), (56, .iconst 2, 0, 0, 0)]),
  (63, [(57, .iload_n 1, 0, 0, 0), (58, .iadd, 0, 0, 0), (59, .invokevirtual 217, 157, 3, 7011), (62, .iconst 1, 0, 0, 0), (63, .ireturn, 1, 0, 0)])]
def mO223 : List (Nat × List (Nat × mOp)) := [(68, [(0, .aload_n 0, 0, 0, 0), (1, .iconst 0, 0, 0, 0), (2, .putfield 1, 12, 0, 6036), (5, .iconst 0, 0, 0, 0), (6, .istore_n 2, 0, 0, 0), (7, .iload_n 1, 0, 0, 0), (8, .tableswitch 196 0 9 #[56, 63, 70, 75, 82, 117, 149, 177, 184, 191], 0, 0, 0), (64, .aload_n 0, 0, 0, 0), (65, .getfield 95, 12, 10, 6046), (68, .iconst 0, 0, 0, 0)]),
  (82, [(69, .iaload, 0, 0, 0), (70, .ireturn, 0, 0, 0), (71, .aload_n 0, 0, 0, 0), (72, .getfield 95, 12, 10, 6046), (75, .iconst 1, 0, 0, 0), (76, .iaload, 0, 0, 0), (77, .ireturn, 0, 0, 0), (78, .aload_n 0, 0, 0, 0), (79, .invokevirtual 279, 159, 1, 7019), (82, .ireturn, 0, 0, 0)]),
  (94, [(83, .aload_n 0, 0, 0, 0), (84, .getfield 95, 12, 10, 6046), (87, .iconst 3, 0, 0, 0), (88, .iaload, 0, 0, 0), (89, .ireturn, 0, 0, 0), (90, .iconst 0, 0, 0, 0), (91, .istore_n 3, 0, 0, 0), (92, .iload_n 3, 0, 0, 0), (93, .aload_n 0, 0, 0, 0), (94, .invokevirtual 279, 159, 1, 7019)]),
  (114, [(97, .if_icmp .ge 26, 123, 0, 0), (100, .iload_n 2, 0, 0, 0), (101, .aload_n 0, 0, 0, 0), (102, .iload_n 3, 0, 0, 0), (103, .invokevirtual 309, 171, 2, 7065), (106, .iload_n 3, 0, 0, 0), (107, .if_icmp .ne 7, 114, 0, 0), (110, .iconst 1, 0, 0, 0), (111, .goto 4, 115, 0, 0), (114, .iconst 0, 0, 0, 0)]),
  (128, [(115, .iadd, 0, 0, 0), (116, .istore_n 2, 0, 0, 0), (117, .iinc 3 1, 0, 0, 0), (120, .goto (-28), 92, 0, 0), (123, .iload_n 2, 0, 0, 0), (124, .ireturn, 0, 0, 0), (125, .iconst 0, 0, 0, 0), (126, .istore_n 3, 0, 0, 0), (127, .iload_n 3, 0, 0, 0), (128, .bipush 64, 0, 0, 0)]),
  (144, [(130, .if_icmp .ge 25, 155, 0, 0), (133, .iload_n 2, 0, 0, 0), (134, .aload_n 0, 0, 0, 0), (135, .getfield 95, 12, 10, 6046), (138, .bipush 10, 0, 0, 0), (140, .iconst 3, 0, 0, 0), (141, .iload_n 3, 0, 0, 0), (142, .imul, 0, 0, 0), (143, .iadd, 0, 0, 0), (144, .iconst 2, 0, 0, 0)]),
  (158, [(145, .iadd, 0, 0, 0), (146, .iaload, 0, 0, 0), (147, .iadd, 0, 0, 0), (148, .istore_n 2, 0, 0, 0), (149, .iinc 3 1, 0, 0, 0), (152, .goto (-25), 127, 0, 0), (155, .iload_n 2, 0, 0, 0), (156, .ireturn, 0, 0, 0), (157, .iconst 0, 0, 0, 0), (158, .istore_n 3, 0, 0, 0)]),
  (175, [(159, .iload_n 3, 0, 0, 0), (160, .aload_n 0, 0, 0, 0), (161, .invokevirtual 279, 159, 1, 7019), (164, .if_icmp .ge 19, 183, 0, 0), (167, .iload_n 2, 0, 0, 0), (168, .aload_n 0, 0, 0, 0), (169, .iload_n 3, 0, 0, 0), (170, .bipush 8, 0, 0, 0), (172, .invokevirtual 286, 161, 3, 7027), (175, .iadd, 0, 0, 0)]),
  (191, [(176, .istore_n 2, 0, 0, 0), (177, .iinc 3 1, 0, 0, 0), (180, .goto (-21), 159, 0, 0), (183, .iload_n 2, 0, 0, 0), (184, .ireturn, 0, 0, 0), (185, .aload_n 0, 0, 0, 0), (186, .getfield 95, 12, 10, 6046), (189, .iconst 4, 0, 0, 0), (190, .iaload, 0, 0, 0), (191, .ireturn, 0, 0, 0)]),
  (205, [(192, .aload_n 0, 0, 0, 0), (193, .getfield 95, 12, 10, 6046), (196, .iconst 5, 0, 0, 0), (197, .iaload, 0, 0, 0), (198, .ireturn, 0, 0, 0), (199, .aload_n 0, 0, 0, 0), (200, .getfield 11, 12, 2, 6038), (203, .ireturn, 0, 0, 0), (204, .iconst (-1), 0, 0, 0), (205, .ireturn, 0, 0, 0)])]
def mO224 : List (Nat × List (Nat × mOp)) := [(3, [(0, .iconst 0, 0, 0, 0), (1, .istore_n 2, 0, 0, 0), (2, .aload_n 0, 0, 0, 0), (3, .arraylength, 0, 0, 0)]),
  (7, [(4, .istore_n 3, 0, 0, 0), (5, .iload_n 2, 0, 0, 0), (6, .iload_n 3, 0, 0, 0), (7, .if_icmp .ge 13, 20, 0, 0)]),
  (13, [(10, .aload_n 0, 0, 0, 0), (11, .iload_n 2, 0, 0, 0), (12, .iload_n 1, 0, 0, 0), (13, .iastore, 0, 0, 0)]),
  (20, [(14, .iinc 2 1, 0, 0, 0), (17, .goto (-12), 5, 0, 0), (20, .return_, 0, 0, 0)])]
def mO225 : List (Nat × List (Nat × mOp)) := [(7, [(0, .aload_n 0, 0, 0, 0), (1, .invokevirtual 492, 226, 1, 3070), (4, .ifCond .eq 12, 16, 0, 0), (7, .aload_n 0, 0, 0, 0)]),
  (15, [(8, .getfield 9, 20, 0, 8058), (11, .iload_n 1, 0, 0, 0), (12, .invokestatic 495, 227, 2, 3076), (15, .ireturn, 2, 0, 0)]),
  (24, [(16, .aload_n 0, 0, 0, 0), (17, .getfield 9, 20, 0, 8058), (20, .iload_n 1, 0, 0, 0), (24, .ireturn, 2, 0, 0)])]
def mO226 : List (Nat × List (Nat × mOp)) := [(6, [(0, .getstatic 38, 1, 1, 3074), (3, .ifCond .eq 14, 17, 0, 0), (6, .aload_n 0, 0, 0, 0)]),
  (13, [(7, .getfield 15, 20, 1, 8057), (10, .ifCond .ne 7, 17, 0, 0), (13, .iconst 1, 0, 0, 0)]),
  (18, [(14, .goto 4, 18, 0, 0), (17, .iconst 0, 0, 0, 0), (18, .ireturn, 1, 0, 0)])]
def mO227 : List (Nat × List (Nat × mOp)) := [(3, [(0, .iload_n 1, 0, 0, 0), (1, .aload_n 0, 0, 0, 0), (2, .arraylength, 0, 0, 0), (3, .invokestatic 9, 228, 2, 3079)]),
  (9, [(6, .aload_n 0, 0, 0, 0), (7, .iload_n 1, 0, 0, 0), (8, .baload, 0, 0, 0), (9, .sipush 255, 0, 0, 0)]),
  (14, [(12, .iand, 0, 0, 0), (13, .i2c, 0, 0, 0), (14, .ireturn, 2, 0, 0)])]
def mO228 : List (Nat × List (Nat × mOp)) := [(2, [(0, .iload_n 0, 0, 0, 0), (1, .iload_n 1, 0, 0, 0), (2, .getstatic 1053, 9, 0, 3082)]),
  (9, [(5, .invokestatic 1059, 229, 3, 3084), (8, .pop, 0, 0, 0), (9, .return_, 0, 0, 0)])]
def mO229 : List (Nat × List (Nat × mOp)) := [(5, [(0, .iload_n 0, 0, 0, 0), (1, .ifCond .lt 8, 9, 0, 0), (4, .iload_n 0, 0, 0, 0), (5, .iload_n 1, 0, 0, 0)]),
  (11, [(6, .if_icmp .lt 10, 16, 0, 0), (9, .aload_n 2, 0, 0, 0), (10, .iload_n 0, 0, 0, 0), (11, .iload_n 1, 0, 0, 0)]),
  (17, [(16, .iload_n 0, 0, 0, 0), (17, .ireturn, 0, 0, 0)])]
def mO230 : List (Nat × List (Nat × mOp)) := [(2, [(0, .aload_n 0, 0, 0, 0), (1, .iload_n 1, 0, 0, 0), (2, .iconst 0, 0, 0, 0)]),
  (6, [(3, .invokevirtual 633, 231, 3, 3115), (6, .ireturn, 0, 0, 0)])]
def mO231 : List (Nat × List (Nat × mOp)) := [(8, [(0, .aload_n 0, 0, 0, 0), (1, .invokevirtual 492, 226, 1, 3070), (4, .ifCond .eq 19, 23, 0, 0), (7, .aload_n 0, 0, 0, 0), (8, .getfield 9, 20, 0, 8058)]),
  (17, [(11, .iload_n 1, 0, 0, 0), (12, .iload_n 2, 0, 0, 0), (13, .aload_n 0, 0, 0, 0), (14, .invokevirtual 505, 232, 1, 3119), (17, .invokestatic 637, 234, 4, 3127)]),
  (28, [(20, .goto 16, 36, 0, 0), (23, .aload_n 0, 0, 0, 0), (24, .getfield 9, 20, 0, 8058), (27, .iload_n 1, 0, 0, 0), (28, .iload_n 2, 0, 0, 0)]),
  (36, [(29, .aload_n 0, 0, 0, 0), (30, .invokevirtual 505, 232, 1, 3119), (36, .ireturn, 0, 0, 0)])]
def mO232 : List (Nat × List (Nat × mOp)) := [(4, [(0, .aload_n 0, 0, 0, 0), (1, .getfield 9, 20, 0, 8058), (4, .arraylength, 0, 0, 0)]),
  (9, [(5, .aload_n 0, 0, 0, 0), (6, .invokevirtual 335, 233, 1, 3123), (9, .ishr, 0, 0, 0)]),
  (10, [(10, .ireturn, 0, 0, 0)])]
def mO233 : List (Nat × List (Nat × mOp)) := [(6, [(0, .getstatic 38, 1, 1, 3074), (3, .ifCond .eq 10, 13, 0, 0), (6, .aload_n 0, 0, 0, 0)]),
  (13, [(7, .getfield 15, 20, 1, 8057), (10, .goto 4, 14, 0, 0), (13, .iconst 1, 0, 0, 0)]),
  (14, [(14, .ireturn, 3, 0, 0)])]
def mO234 : List (Nat × List (Nat × mOp)) := [(8, [(0, .iload_n 1, 0, 0, 0), (1, .invokestatic 88, 235, 1, 3130), (4, .ifCond .ne 5, 9, 0, 0), (7, .iconst (-1), 0, 0, 0), (8, .ireturn, 0, 0, 0)]),
  (15, [(9, .iload_n 2, 0, 0, 0), (10, .iconst 0, 0, 0, 0), (11, .invokestatic 92, 1000, 2, 3133), (14, .istore_n 2, 0, 0, 0), (15, .iload_n 3, 0, 0, 0)]),
  (22, [(16, .aload_n 0, 0, 0, 0), (17, .arraylength, 0, 0, 0), (18, .invokestatic 38, 1001, 2, 3136), (21, .istore_n 3, 0, 0, 0), (22, .iload_n 2, 0, 0, 0)]),
  (29, [(23, .iload_n 3, 0, 0, 0), (24, .if_icmp .lt 5, 29, 0, 0), (27, .iconst (-1), 0, 0, 0), (28, .ireturn, 0, 0, 0), (29, .aload_n 0, 0, 0, 0)]),
  (36, [(30, .iload_n 1, 0, 0, 0), (31, .iload_n 2, 0, 0, 0), (32, .iload_n 3, 0, 0, 0), (33, .invokestatic 95, 236, 4, 3139), (36, .ireturn, 0, 0, 0)])]
def mO235 : List (Nat × List (Nat × mOp)) := [(4, [(0, .iload_n 0, 0, 0, 0), (1, .ifCond .lt 14, 15, 0, 0), (4, .iload_n 0, 0, 0, 0)]),
  (11, [(5, .sipush 255, 0, 0, 0), (8, .if_icmp .gt 7, 15, 0, 0), (11, .iconst 1, 0, 0, 0)]),
  (16, [(12, .goto 4, 16, 0, 0), (15, .iconst 0, 0, 0, 0), (16, .ireturn, 1, 0, 0)])]
def mO236 : List (Nat × List (Nat × mOp)) := [(5, [(0, .iload_n 1, 0, 0, 0), (1, .i2b, 0, 0, 0), (2, .istore 4, 0, 0, 0), (4, .iload_n 2, 0, 0, 0), (5, .istore 5, 0, 0, 0)]),
  (14, [(7, .iload 5, 0, 0, 0), (9, .iload_n 3, 0, 0, 0), (10, .if_icmp .ge 21, 31, 0, 0), (13, .aload_n 0, 0, 0, 0), (14, .iload 5, 0, 0, 0)]),
  (24, [(16, .baload, 0, 0, 0), (17, .iload 4, 0, 0, 0), (19, .if_icmp .ne 6, 25, 0, 0), (22, .iload 5, 0, 0, 0), (24, .ireturn, 0, 0, 0)]),
  (32, [(25, .iinc 5 1, 0, 0, 0), (28, .goto (-21), 7, 0, 0), (31, .iconst (-1), 0, 0, 0), (32, .ireturn, 0, 0, 0)])]
def mO237 : List (Nat × List (Nat × mOp)) := [(145, [(0, .new 8, 11, 0, 1026), (3, .dup, 0, 0, 0), (4, .invokespecial 15, 98, 1, 1028), (7, .astore_n 1, 0, 0, 0), (8, .new 16, 12, 0, 5238), (11, .dup, 0, 0, 0), (12, .invokespecial 18, 127, 1, 5239), (15, .astore_n 2, 0, 0, 0), (16, .iconst 1, 0, 0, 0), (17, .newarray .long, 0, 0, 0), (19, .astore_n 3, 0, 0, 0), (20, .iconst 0, 0, 0, 0), (21, .istore 4, 0, 0, 0), (23, .iload 4, 0, 0, 0), (25, .aload_n 0, 0, 0, 0), (26, .arraylength, 0, 0, 0), (27, .bipush 7, 0, 0, 0), (29, .isub, 0, 0, 0), (30, .if_icmp .gt 1035, 1065, 0, 0), (33, .aload_n 0, 0, 0, 0), (34, .iload 4, 0, 0, 0), (36, .iaload, 0, 0, 0), (37, .bipush 31, 0, 0, 0), (39, .iand, 0, 0, 0), (40, .tableswitch 1019 0 21 #[104, 251, 264, 301, 338, 387, 424, 449, 474, 523, 572, 609, 650, 675, 712, 749, 762, 787, 843, 892, 941, 994], 0, 0, 0), (144, .aload_n 1, 0, 0, 0), (145, .aload_n 0, 0, 0, 0)]),
  (180, [(146, .iload 4, 0, 0, 0), (148, .iconst 1, 0, 0, 0), (149, .iadd, 0, 0, 0), (150, .iaload, 0, 0, 0), (151, .i2l, 0, 0, 0), (152, .bipush 32, 0, 0, 0), (154, .lshl, 0, 0, 0), (155, .aload_n 0, 0, 0, 0), (156, .iload 4, 0, 0, 0), (158, .iconst 2, 0, 0, 0), (159, .iadd, 0, 0, 0), (160, .iaload, 0, 0, 0), (161, .i2l, 0, 0, 0), (162, .ldc2_w 19, 0, 8039, 4294967295), (165, .land, 0, 0, 0), (166, .lor, 0, 0, 0), (167, .aload_n 0, 0, 0, 0), (168, .iload 4, 0, 0, 0), (170, .iconst 3, 0, 0, 0), (171, .iadd, 0, 0, 0), (172, .iaload, 0, 0, 0), (173, .i2l, 0, 0, 0), (174, .bipush 32, 0, 0, 0), (176, .lshl, 0, 0, 0), (177, .aload_n 0, 0, 0, 0), (178, .iload 4, 0, 0, 0), (180, .iconst 4, 0, 0, 0)]),
  (217, [(181, .iadd, 0, 0, 0), (182, .iaload, 0, 0, 0), (183, .i2l, 0, 0, 0), (184, .ldc2_w 19, 0, 8039, 4294967295), (187, .land, 0, 0, 0), (188, .lor, 0, 0, 0), (189, .aload_n 0, 0, 0, 0), (190, .iload 4, 0, 0, 0), (192, .iconst 5, 0, 0, 0), (193, .iadd, 0, 0, 0), (194, .iaload, 0, 0, 0), (195, .i2l, 0, 0, 0), (196, .bipush 32, 0, 0, 0), (198, .lshl, 0, 0, 0), (199, .aload_n 0, 0, 0, 0), (200, .iload 4, 0, 0, 0), (202, .bipush 6, 0, 0, 0), (204, .iadd, 0, 0, 0), (205, .iaload, 0, 0, 0), (206, .i2l, 0, 0, 0), (207, .ldc2_w 19, 0, 8039, 4294967295), (210, .land, 0, 0, 0), (211, .lor, 0, 0, 0), (212, .invokevirtual 21, 99, 4, 3032), (215, .aload_n 2, 0, 0, 0), (216, .aload_n 0, 0, 0, 0), (217, .iload 4, 0, 0, 0)]),
  (252, [(219, .iconst 1, 0, 0, 0), (220, .iadd, 0, 0, 0), (221, .iaload, 0, 0, 0), (222, .i2l, 0, 0, 0), (223, .bipush 32, 0, 0, 0), (225, .lshl, 0, 0, 0), (226, .aload_n 0, 0, 0, 0), (227, .iload 4, 0, 0, 0), (229, .iconst 2, 0, 0, 0), (230, .iadd, 0, 0, 0), (231, .iaload, 0, 0, 0), (232, .i2l, 0, 0, 0), (233, .ldc2_w 19, 0, 8039, 4294967295), (236, .land, 0, 0, 0), (237, .lor, 0, 0, 0), (238, .aload_n 0, 0, 0, 0), (239, .iload 4, 0, 0, 0), (241, .iconst 3, 0, 0, 0), (242, .iadd, 0, 0, 0), (243, .iaload, 0, 0, 0), (244, .i2l, 0, 0, 0), (245, .bipush 32, 0, 0, 0), (247, .lshl, 0, 0, 0), (248, .aload_n 0, 0, 0, 0), (249, .iload 4, 0, 0, 0), (251, .iconst 4, 0, 0, 0), (252, .iadd, 0, 0, 0)]),
  (291, [(253, .iaload, 0, 0, 0), (254, .i2l, 0, 0, 0), (255, .ldc2_w 19, 0, 8039, 4294967295), (258, .land, 0, 0, 0), (259, .lor, 0, 0, 0), (260, .aload_n 0, 0, 0, 0), (261, .iload 4, 0, 0, 0), (263, .iconst 5, 0, 0, 0), (264, .iadd, 0, 0, 0), (265, .iaload, 0, 0, 0), (266, .i2l, 0, 0, 0), (267, .bipush 32, 0, 0, 0), (269, .lshl, 0, 0, 0), (270, .aload_n 0, 0, 0, 0), (271, .iload 4, 0, 0, 0), (273, .bipush 6, 0, 0, 0), (275, .iadd, 0, 0, 0), (276, .iaload, 0, 0, 0), (277, .i2l, 0, 0, 0), (278, .ldc2_w 19, 0, 8039, 4294967295), (281, .land, 0, 0, 0), (282, .lor, 0, 0, 0), (283, .invokevirtual 25, 125, 4, 5229), (286, .if_icmp .eq 773, 1059, 0, 0), (289, .iconst 0, 0, 0, 0), (290, .ireturn, 1, 0, 0), (291, .aload_n 1, 0, 0, 0)]),
  (330, [(292, .invokevirtual 26, 100, 1, 3040), (295, .aload_n 2, 0, 0, 0), (296, .invokevirtual 30, 129, 1, 6140), (299, .if_icmp .eq 760, 1059, 0, 0), (302, .iconst 0, 0, 0, 0), (303, .ireturn, 1, 0, 0), (304, .aload_n 1, 0, 0, 0), (305, .aload_n 0, 0, 0, 0), (306, .iload 4, 0, 0, 0), (308, .iconst 1, 0, 0, 0), (309, .iadd, 0, 0, 0), (310, .iaload, 0, 0, 0), (311, .aload_n 0, 0, 0, 0), (312, .iload 4, 0, 0, 0), (314, .iconst 2, 0, 0, 0), (315, .iadd, 0, 0, 0), (316, .iaload, 0, 0, 0), (317, .invokevirtual 31, 101, 3, 4069), (320, .aload_n 2, 0, 0, 0), (321, .aload_n 0, 0, 0, 0), (322, .iload 4, 0, 0, 0), (324, .iconst 1, 0, 0, 0), (325, .iadd, 0, 0, 0), (326, .iaload, 0, 0, 0), (327, .aload_n 0, 0, 0, 0), (328, .iload 4, 0, 0, 0), (330, .iconst 2, 0, 0, 0)]),
  (367, [(331, .iadd, 0, 0, 0), (332, .iaload, 0, 0, 0), (333, .invokevirtual 35, 163, 3, 7034), (336, .if_icmp .eq 723, 1059, 0, 0), (339, .iconst 0, 0, 0, 0), (340, .ireturn, 1, 0, 0), (341, .aload_n 1, 0, 0, 0), (342, .aload_n 0, 0, 0, 0), (343, .iload 4, 0, 0, 0), (345, .iconst 1, 0, 0, 0), (346, .iadd, 0, 0, 0), (347, .iaload, 0, 0, 0), (348, .aload_n 0, 0, 0, 0), (349, .iload 4, 0, 0, 0), (351, .iconst 2, 0, 0, 0), (352, .iadd, 0, 0, 0), (353, .iaload, 0, 0, 0), (354, .invokevirtual 36, 103, 3, 4107), (357, .aload_n 2, 0, 0, 0), (358, .aload_n 0, 0, 0, 0), (359, .iload 4, 0, 0, 0), (361, .iconst 1, 0, 0, 0), (362, .iadd, 0, 0, 0), (363, .iaload, 0, 0, 0), (364, .aload_n 0, 0, 0, 0), (365, .iload 4, 0, 0, 0), (367, .iconst 2, 0, 0, 0)]),
  (404, [(368, .iadd, 0, 0, 0), (369, .iaload, 0, 0, 0), (370, .invokevirtual 39, 173, 3, 7073), (373, .if_icmp .eq 686, 1059, 0, 0), (376, .iconst 0, 0, 0, 0), (377, .ireturn, 1, 0, 0), (378, .aload_n 1, 0, 0, 0), (379, .aload_n 0, 0, 0, 0), (380, .iload 4, 0, 0, 0), (382, .iconst 1, 0, 0, 0), (383, .iadd, 0, 0, 0), (384, .iaload, 0, 0, 0), (385, .aload_n 0, 0, 0, 0), (386, .iload 4, 0, 0, 0), (388, .iconst 2, 0, 0, 0), (389, .iadd, 0, 0, 0), (390, .iaload, 0, 0, 0), (391, .aload_n 0, 0, 0, 0), (392, .iload 4, 0, 0, 0), (394, .iconst 3, 0, 0, 0), (395, .iadd, 0, 0, 0), (396, .iaload, 0, 0, 0), (397, .invokevirtual 40, 104, 4, 4135), (400, .aload_n 2, 0, 0, 0), (401, .aload_n 0, 0, 0, 0), (402, .iload 4, 0, 0, 0), (404, .iconst 1, 0, 0, 0)]),
  (439, [(405, .iadd, 0, 0, 0), (406, .iaload, 0, 0, 0), (407, .aload_n 0, 0, 0, 0), (408, .iload 4, 0, 0, 0), (410, .iconst 2, 0, 0, 0), (411, .iadd, 0, 0, 0), (412, .iaload, 0, 0, 0), (413, .aload_n 0, 0, 0, 0), (414, .iload 4, 0, 0, 0), (416, .iconst 3, 0, 0, 0), (417, .iadd, 0, 0, 0), (418, .iaload, 0, 0, 0), (419, .invokevirtual 44, 179, 4, 7096), (422, .if_icmp .eq 637, 1059, 0, 0), (425, .iconst 0, 0, 0, 0), (426, .ireturn, 1, 0, 0), (427, .aload_n 1, 0, 0, 0), (428, .aload_n 0, 0, 0, 0), (429, .iload 4, 0, 0, 0), (431, .iconst 1, 0, 0, 0), (432, .iadd, 0, 0, 0), (433, .iaload, 0, 0, 0), (434, .aload_n 0, 0, 0, 0), (435, .iload 4, 0, 0, 0), (437, .iconst 2, 0, 0, 0), (438, .iadd, 0, 0, 0), (439, .iaload, 0, 0, 0)]),
  (478, [(440, .invokevirtual 45, 106, 3, 4148), (443, .aload_n 2, 0, 0, 0), (444, .aload_n 0, 0, 0, 0), (445, .iload 4, 0, 0, 0), (447, .iconst 1, 0, 0, 0), (448, .iadd, 0, 0, 0), (449, .iaload, 0, 0, 0), (450, .aload_n 0, 0, 0, 0), (451, .iload 4, 0, 0, 0), (453, .iconst 2, 0, 0, 0), (454, .iadd, 0, 0, 0), (455, .iaload, 0, 0, 0), (456, .invokevirtual 49, 181, 3, 7104), (459, .if_icmp .eq 600, 1059, 0, 0), (462, .iconst 0, 0, 0, 0), (463, .ireturn, 1, 0, 0), (464, .aload_n 1, 0, 0, 0), (465, .aload_n 0, 0, 0, 0), (466, .iload 4, 0, 0, 0), (468, .iconst 1, 0, 0, 0), (469, .iadd, 0, 0, 0), (470, .iaload, 0, 0, 0), (471, .invokevirtual 50, 107, 2, 4152), (474, .aload_n 2, 0, 0, 0), (475, .aload_n 0, 0, 0, 0), (476, .iload 4, 0, 0, 0), (478, .iconst 1, 0, 0, 0)]),
  (518, [(479, .iadd, 0, 0, 0), (480, .iaload, 0, 0, 0), (481, .invokevirtual 53, 182, 2, 7108), (484, .if_icmp .eq 575, 1059, 0, 0), (487, .iconst 0, 0, 0, 0), (488, .ireturn, 1, 0, 0), (489, .aload_n 1, 0, 0, 0), (490, .aload_n 0, 0, 0, 0), (491, .iload 4, 0, 0, 0), (493, .iconst 1, 0, 0, 0), (494, .iadd, 0, 0, 0), (495, .iaload, 0, 0, 0), (496, .invokevirtual 54, 108, 2, 4217), (499, .aload_n 2, 0, 0, 0), (500, .aload_n 0, 0, 0, 0), (501, .iload 4, 0, 0, 0), (503, .iconst 1, 0, 0, 0), (504, .iadd, 0, 0, 0), (505, .iaload, 0, 0, 0), (506, .invokevirtual 58, 195, 2, 7158), (509, .if_icmp .eq 550, 1059, 0, 0), (512, .iconst 0, 0, 0, 0), (513, .ireturn, 1, 0, 0), (514, .aload_n 1, 0, 0, 0), (515, .aload_n 0, 0, 0, 0), (516, .iload 4, 0, 0, 0), (518, .iconst 1, 0, 0, 0)]),
  (552, [(519, .iadd, 0, 0, 0), (520, .iaload, 0, 0, 0), (521, .aload_n 0, 0, 0, 0), (522, .iload 4, 0, 0, 0), (524, .iconst 2, 0, 0, 0), (525, .iadd, 0, 0, 0), (526, .iaload, 0, 0, 0), (527, .aload_n 0, 0, 0, 0), (528, .iload 4, 0, 0, 0), (530, .iconst 3, 0, 0, 0), (531, .iadd, 0, 0, 0), (532, .iaload, 0, 0, 0), (533, .invokevirtual 59, 109, 4, 4222), (536, .aload_n 2, 0, 0, 0), (537, .aload_n 0, 0, 0, 0), (538, .iload 4, 0, 0, 0), (540, .iconst 1, 0, 0, 0), (541, .iadd, 0, 0, 0), (542, .iaload, 0, 0, 0), (543, .aload_n 0, 0, 0, 0), (544, .iload 4, 0, 0, 0), (546, .iconst 2, 0, 0, 0), (547, .iadd, 0, 0, 0), (548, .iaload, 0, 0, 0), (549, .aload_n 0, 0, 0, 0), (550, .iload 4, 0, 0, 0), (552, .iconst 3, 0, 0, 0)]),
  (589, [(553, .iadd, 0, 0, 0), (554, .iaload, 0, 0, 0), (555, .invokevirtual 62, 196, 4, 7162), (558, .if_icmp .eq 501, 1059, 0, 0), (561, .iconst 0, 0, 0, 0), (562, .ireturn, 1, 0, 0), (563, .aload_n 1, 0, 0, 0), (564, .aload_n 0, 0, 0, 0), (565, .iload 4, 0, 0, 0), (567, .iconst 1, 0, 0, 0), (568, .iadd, 0, 0, 0), (569, .iaload, 0, 0, 0), (570, .aload_n 0, 0, 0, 0), (571, .iload 4, 0, 0, 0), (573, .iconst 2, 0, 0, 0), (574, .iadd, 0, 0, 0), (575, .iaload, 0, 0, 0), (576, .aload_n 0, 0, 0, 0), (577, .iload 4, 0, 0, 0), (579, .iconst 3, 0, 0, 0), (580, .iadd, 0, 0, 0), (581, .iaload, 0, 0, 0), (582, .invokevirtual 63, 110, 4, 4228), (585, .aload_n 2, 0, 0, 0), (586, .aload_n 0, 0, 0, 0), (587, .iload 4, 0, 0, 0), (589, .iconst 1, 0, 0, 0)]),
  (624, [(590, .iadd, 0, 0, 0), (591, .iaload, 0, 0, 0), (592, .aload_n 0, 0, 0, 0), (593, .iload 4, 0, 0, 0), (595, .iconst 2, 0, 0, 0), (596, .iadd, 0, 0, 0), (597, .iaload, 0, 0, 0), (598, .aload_n 0, 0, 0, 0), (599, .iload 4, 0, 0, 0), (601, .iconst 3, 0, 0, 0), (602, .iadd, 0, 0, 0), (603, .iaload, 0, 0, 0), (604, .invokevirtual 66, 198, 4, 7170), (607, .if_icmp .eq 452, 1059, 0, 0), (610, .iconst 0, 0, 0, 0), (611, .ireturn, 1, 0, 0), (612, .aload_n 1, 0, 0, 0), (613, .aload_n 0, 0, 0, 0), (614, .iload 4, 0, 0, 0), (616, .iconst 1, 0, 0, 0), (617, .iadd, 0, 0, 0), (618, .iaload, 0, 0, 0), (619, .aload_n 0, 0, 0, 0), (620, .iload 4, 0, 0, 0), (622, .iconst 2, 0, 0, 0), (623, .iadd, 0, 0, 0), (624, .iaload, 0, 0, 0)]),
  (664, [(625, .invokevirtual 67, 111, 3, 5026), (628, .aload_n 2, 0, 0, 0), (629, .aload_n 0, 0, 0, 0), (630, .iload 4, 0, 0, 0), (632, .iconst 1, 0, 0, 0), (633, .iadd, 0, 0, 0), (634, .iaload, 0, 0, 0), (635, .aload_n 0, 0, 0, 0), (636, .iload 4, 0, 0, 0), (638, .iconst 2, 0, 0, 0), (639, .iadd, 0, 0, 0), (640, .iaload, 0, 0, 0), (641, .invokevirtual 70, 203, 3, 7190), (644, .if_icmp .eq 415, 1059, 0, 0), (647, .iconst 0, 0, 0, 0), (648, .ireturn, 1, 0, 0), (649, .aload_n 1, 0, 0, 0), (650, .aload_n 0, 0, 0, 0), (651, .iload 4, 0, 0, 0), (653, .iconst 1, 0, 0, 0), (654, .iadd, 0, 0, 0), (655, .iaload, 0, 0, 0), (656, .ifCond .eq 7, 663, 0, 0), (659, .iconst 1, 0, 0, 0), (660, .goto 4, 664, 0, 0), (663, .iconst 0, 0, 0, 0), (664, .invokevirtual 71, 112, 2, 5046)]),
  (706, [(667, .aload_n 2, 0, 0, 0), (668, .aload_n 0, 0, 0, 0), (669, .iload 4, 0, 0, 0), (671, .iconst 1, 0, 0, 0), (672, .iadd, 0, 0, 0), (673, .iaload, 0, 0, 0), (674, .ifCond .eq 7, 681, 0, 0), (677, .iconst 1, 0, 0, 0), (678, .goto 4, 682, 0, 0), (681, .iconst 0, 0, 0, 0), (682, .invokevirtual 75, 206, 2, 7202), (685, .if_icmp .eq 374, 1059, 0, 0), (688, .iconst 0, 0, 0, 0), (689, .ireturn, 1, 0, 0), (690, .aload_n 1, 0, 0, 0), (691, .aload_n 0, 0, 0, 0), (692, .iload 4, 0, 0, 0), (694, .iconst 1, 0, 0, 0), (695, .iadd, 0, 0, 0), (696, .iaload, 0, 0, 0), (697, .invokevirtual 76, 113, 2, 5058), (700, .aload_n 2, 0, 0, 0), (701, .aload_n 0, 0, 0, 0), (702, .iload 4, 0, 0, 0), (704, .iconst 1, 0, 0, 0), (705, .iadd, 0, 0, 0), (706, .iaload, 0, 0, 0)]),
  (743, [(707, .invokevirtual 79, 210, 2, 7218), (710, .if_icmp .eq 349, 1059, 0, 0), (713, .iconst 0, 0, 0, 0), (714, .ireturn, 1, 0, 0), (715, .aload_n 1, 0, 0, 0), (716, .aload_n 0, 0, 0, 0), (717, .iload 4, 0, 0, 0), (719, .iconst 1, 0, 0, 0), (720, .iadd, 0, 0, 0), (721, .iaload, 0, 0, 0), (722, .aload_n 0, 0, 0, 0), (723, .iload 4, 0, 0, 0), (725, .iconst 2, 0, 0, 0), (726, .iadd, 0, 0, 0), (727, .iaload, 0, 0, 0), (728, .invokevirtual 80, 114, 3, 5067), (731, .aload_n 2, 0, 0, 0), (732, .aload_n 0, 0, 0, 0), (733, .iload 4, 0, 0, 0), (735, .iconst 1, 0, 0, 0), (736, .iadd, 0, 0, 0), (737, .iaload, 0, 0, 0), (738, .aload_n 0, 0, 0, 0), (739, .iload 4, 0, 0, 0), (741, .iconst 2, 0, 0, 0), (742, .iadd, 0, 0, 0), (743, .iaload, 0, 0, 0)]),
  (780, [(744, .invokevirtual 83, 211, 3, 7222), (747, .if_icmp .eq 312, 1059, 0, 0), (750, .iconst 0, 0, 0, 0), (751, .ireturn, 1, 0, 0), (752, .aload_n 1, 0, 0, 0), (753, .aload_n 0, 0, 0, 0), (754, .iload 4, 0, 0, 0), (756, .iconst 1, 0, 0, 0), (757, .iadd, 0, 0, 0), (758, .iaload, 0, 0, 0), (759, .aload_n 0, 0, 0, 0), (760, .iload 4, 0, 0, 0), (762, .iconst 2, 0, 0, 0), (763, .iadd, 0, 0, 0), (764, .iaload, 0, 0, 0), (765, .invokevirtual 84, 115, 3, 5071), (768, .aload_n 2, 0, 0, 0), (769, .aload_n 0, 0, 0, 0), (770, .iload 4, 0, 0, 0), (772, .iconst 1, 0, 0, 0), (773, .iadd, 0, 0, 0), (774, .iaload, 0, 0, 0), (775, .aload_n 0, 0, 0, 0), (776, .iload 4, 0, 0, 0), (778, .iconst 2, 0, 0, 0), (779, .iadd, 0, 0, 0), (780, .iaload, 0, 0, 0)]),
  (825, [(781, .invokevirtual 87, 213, 3, 7230), (784, .if_icmp .eq 275, 1059, 0, 0), (787, .iconst 0, 0, 0, 0), (788, .ireturn, 1, 0, 0), (789, .aload_n 1, 0, 0, 0), (790, .invokevirtual 88, 116, 1, 5075), (793, .aload_n 2, 0, 0, 0), (794, .invokevirtual 91, 214, 1, 7234), (797, .if_icmp .eq 262, 1059, 0, 0), (800, .iconst 0, 0, 0, 0), (801, .ireturn, 1, 0, 0), (802, .aload_n 1, 0, 0, 0), (803, .aload_n 0, 0, 0, 0), (804, .iload 4, 0, 0, 0), (806, .iconst 1, 0, 0, 0), (807, .iadd, 0, 0, 0), (808, .iaload, 0, 0, 0), (809, .invokevirtual 92, 117, 2, 5079), (812, .aload_n 2, 0, 0, 0), (813, .aload_n 0, 0, 0, 0), (814, .iload 4, 0, 0, 0), (816, .iconst 1, 0, 0, 0), (817, .iadd, 0, 0, 0), (818, .iaload, 0, 0, 0), (819, .invokevirtual 95, 215, 2, 7238), (822, .if_icmp .eq 237, 1059, 0, 0), (825, .iconst 0, 0, 0, 0)]),
  (868, [(826, .ireturn, 1, 0, 0), (827, .aload_n 1, 0, 0, 0), (828, .aload_n 0, 0, 0, 0), (829, .iload 4, 0, 0, 0), (831, .iconst 1, 0, 0, 0), (832, .iadd, 0, 0, 0), (833, .iaload, 0, 0, 0), (834, .aload_n 3, 0, 0, 0), (835, .invokestatic 96, 1005, 3, 5137), (838, .istore 5, 0, 0, 0), (840, .aload_n 2, 0, 0, 0), (841, .aload_n 0, 0, 0, 0), (842, .iload 4, 0, 0, 0), (844, .iconst 1, 0, 0, 0), (845, .iadd, 0, 0, 0), (846, .iaload, 0, 0, 0), (847, .invokevirtual 101, 216, 2, 8002), (850, .istore 6, 0, 0, 0), (852, .aload_n 2, 0, 0, 0), (853, .invokevirtual 102, 124, 1, 5225), (856, .iload 5, 0, 0, 0), (858, .if_icmp .eq 5, 863, 0, 0), (861, .iconst 0, 0, 0, 0), (862, .ireturn, 1, 0, 0), (863, .iload 5, 0, 0, 0), (865, .ifCond .ne 15, 880, 0, 0), (868, .aload_n 3, 0, 0, 0)]),
  (905, [(869, .iconst 0, 0, 0, 0), (870, .laload, 0, 0, 0), (871, .iload 6, 0, 0, 0), (873, .i2l, 0, 0, 0), (874, .lcmp, 0, 0, 0), (875, .ifCond .eq 5, 880, 0, 0), (878, .iconst 0, 0, 0, 0), (879, .ireturn, 1, 0, 0), (880, .goto 179, 1059, 0, 0), (883, .aload_n 1, 0, 0, 0), (884, .aload_n 0, 0, 0, 0), (885, .iload 4, 0, 0, 0), (887, .iconst 1, 0, 0, 0), (888, .iadd, 0, 0, 0), (889, .iaload, 0, 0, 0), (890, .aload_n 0, 0, 0, 0), (891, .iload 4, 0, 0, 0), (893, .iconst 2, 0, 0, 0), (894, .iadd, 0, 0, 0), (895, .iaload, 0, 0, 0), (896, .aload_n 0, 0, 0, 0), (897, .iload 4, 0, 0, 0), (899, .iconst 3, 0, 0, 0), (900, .iadd, 0, 0, 0), (901, .iaload, 0, 0, 0), (902, .invokevirtual 105, 118, 4, 5089), (905, .aload_n 2, 0, 0, 0)]),
  (940, [(906, .aload_n 0, 0, 0, 0), (907, .iload 4, 0, 0, 0), (909, .iconst 1, 0, 0, 0), (910, .iadd, 0, 0, 0), (911, .iaload, 0, 0, 0), (912, .aload_n 0, 0, 0, 0), (913, .iload 4, 0, 0, 0), (915, .iconst 2, 0, 0, 0), (916, .iadd, 0, 0, 0), (917, .iaload, 0, 0, 0), (918, .aload_n 0, 0, 0, 0), (919, .iload 4, 0, 0, 0), (921, .iconst 3, 0, 0, 0), (922, .iadd, 0, 0, 0), (923, .iaload, 0, 0, 0), (924, .invokevirtual 108, 219, 4, 8015), (927, .if_icmp .eq 132, 1059, 0, 0), (930, .iconst 0, 0, 0, 0), (931, .ireturn, 1, 0, 0), (932, .aload_n 1, 0, 0, 0), (933, .aload_n 0, 0, 0, 0), (934, .iload 4, 0, 0, 0), (936, .iconst 1, 0, 0, 0), (937, .iadd, 0, 0, 0), (938, .iaload, 0, 0, 0), (939, .aload_n 0, 0, 0, 0), (940, .iload 4, 0, 0, 0)]),
  (976, [(942, .iconst 2, 0, 0, 0), (943, .iadd, 0, 0, 0), (944, .iaload, 0, 0, 0), (945, .aload_n 0, 0, 0, 0), (946, .iload 4, 0, 0, 0), (948, .iconst 3, 0, 0, 0), (949, .iadd, 0, 0, 0), (950, .iaload, 0, 0, 0), (951, .invokevirtual 109, 119, 4, 5100), (954, .aload_n 2, 0, 0, 0), (955, .aload_n 0, 0, 0, 0), (956, .iload 4, 0, 0, 0), (958, .iconst 1, 0, 0, 0), (959, .iadd, 0, 0, 0), (960, .iaload, 0, 0, 0), (961, .aload_n 0, 0, 0, 0), (962, .iload 4, 0, 0, 0), (964, .iconst 2, 0, 0, 0), (965, .iadd, 0, 0, 0), (966, .iaload, 0, 0, 0), (967, .aload_n 0, 0, 0, 0), (968, .iload 4, 0, 0, 0), (970, .iconst 3, 0, 0, 0), (971, .iadd, 0, 0, 0), (972, .iaload, 0, 0, 0), (973, .invokevirtual 112, 220, 4, 8019), (976, .if_icmp .eq 83, 1059, 0, 0)]),
  (1015, [(979, .iconst 0, 0, 0, 0), (980, .ireturn, 1, 0, 0), (981, .aload_n 1, 0, 0, 0), (982, .aload_n 0, 0, 0, 0), (983, .iload 4, 0, 0, 0), (985, .iconst 1, 0, 0, 0), (986, .iadd, 0, 0, 0), (987, .iaload, 0, 0, 0), (988, .aload_n 0, 0, 0, 0), (989, .iload 4, 0, 0, 0), (991, .iconst 2, 0, 0, 0), (992, .iadd, 0, 0, 0), (993, .iaload, 0, 0, 0), (994, .ifCond .eq 7, 1001, 0, 0), (997, .iconst 1, 0, 0, 0), (998, .goto 4, 1002, 0, 0), (1001, .iconst 0, 0, 0, 0), (1002, .invokevirtual 113, 120, 3, 5118), (1005, .aload_n 2, 0, 0, 0), (1006, .aload_n 0, 0, 0, 0), (1007, .iload 4, 0, 0, 0), (1009, .iconst 1, 0, 0, 0), (1010, .iadd, 0, 0, 0), (1011, .iaload, 0, 0, 0), (1012, .aload_n 0, 0, 0, 0), (1013, .iload 4, 0, 0, 0), (1015, .iconst 2, 0, 0, 0)]),
  (1058, [(1016, .iadd, 0, 0, 0), (1017, .iaload, 0, 0, 0), (1018, .ifCond .eq 7, 1025, 0, 0), (1021, .iconst 1, 0, 0, 0), (1022, .goto 4, 1026, 0, 0), (1025, .iconst 0, 0, 0, 0), (1026, .invokevirtual 117, 222, 3, 8031), (1029, .if_icmp .eq 30, 1059, 0, 0), (1032, .iconst 0, 0, 0, 0), (1033, .ireturn, 1, 0, 0), (1034, .aload_n 1, 0, 0, 0), (1035, .aload_n 0, 0, 0, 0), (1036, .iload 4, 0, 0, 0), (1038, .iconst 1, 0, 0, 0), (1039, .iadd, 0, 0, 0), (1040, .iaload, 0, 0, 0), (1041, .invokevirtual 118, 121, 2, 5126), (1044, .aload_n 2, 0, 0, 0), (1045, .aload_n 0, 0, 0, 0), (1046, .iload 4, 0, 0, 0), (1048, .iconst 1, 0, 0, 0), (1049, .iadd, 0, 0, 0), (1050, .iaload, 0, 0, 0), (1051, .invokevirtual 121, 223, 2, 8035), (1054, .if_icmp .eq 5, 1059, 0, 0), (1057, .iconst 0, 0, 0, 0), (1058, .ireturn, 1, 0, 0)]),
  (1066, [(1059, .iinc 4 7, 0, 0, 0), (1062, .goto (-1039), 23, 0, 0), (1065, .iconst 1, 0, 0, 0), (1066, .ireturn, 1, 0, 0)])]
/-- a method's instructions -/
def mOps : Nat → List (Nat × List (Nat × mOp)) := fun i => bif Nat.ble i 118 then (bif Nat.ble i 58 then (bif Nat.ble i 28 then (bif Nat.ble i 13 then (bif Nat.ble i 6 then (bif Nat.ble i 2 then (bif Nat.ble i 0 then (mO0) else (bif Nat.ble i 1 then (mO1) else (mO2))) else (bif Nat.ble i 4 then (bif Nat.ble i 3 then (mO3) else (mO4)) else (bif Nat.ble i 5 then (mO5) else (mO6)))) else (bif Nat.ble i 9 then (bif Nat.ble i 7 then (mO7) else (bif Nat.ble i 8 then (mO8) else (mO9))) else (bif Nat.ble i 11 then (bif Nat.ble i 10 then (mO10) else (mO11)) else (bif Nat.ble i 12 then (mO12) else (mO13))))) else (bif Nat.ble i 20 then (bif Nat.ble i 16 then (bif Nat.ble i 14 then (mO14) else (bif Nat.ble i 15 then (mO15) else (mO16))) else (bif Nat.ble i 18 then (bif Nat.ble i 17 then (mO17) else (mO18)) else (bif Nat.ble i 19 then (mO19) else (mO20)))) else (bif Nat.ble i 24 then (bif Nat.ble i 22 then (bif Nat.ble i 21 then (mO21) else (mO22)) else (bif Nat.ble i 23 then (mO23) else (mO24))) else (bif Nat.ble i 26 then (bif Nat.ble i 25 then (mO25) else (mO26)) else (bif Nat.ble i 27 then (mO27) else (mO28)))))) else (bif Nat.ble i 43 then (bif Nat.ble i 35 then (bif Nat.ble i 31 then (bif Nat.ble i 29 then (mO29) else (bif Nat.ble i 30 then (mO30) else (mO31))) else (bif Nat.ble i 33 then (bif Nat.ble i 32 then (mO32) else (mO33)) else (bif Nat.ble i 34 then (mO34) else (mO35)))) else (bif Nat.ble i 39 then (bif Nat.ble i 37 then (bif Nat.ble i 36 then (mO36) else (mO37)) else (bif Nat.ble i 38 then (mO38) else (mO39))) else (bif Nat.ble i 41 then (bif Nat.ble i 40 then (mO40) else (mO41)) else (bif Nat.ble i 42 then (mO42) else (mO43))))) else (bif Nat.ble i 50 then (bif Nat.ble i 46 then (bif Nat.ble i 44 then (mO44) else (bif Nat.ble i 45 then (mO45) else (mO46))) else (bif Nat.ble i 48 then (bif Nat.ble i 47 then (mO47) else (mO48)) else (bif Nat.ble i 49 then (mO49) else (mO50)))) else (bif Nat.ble i 54 then (bif Nat.ble i 52 then (bif Nat.ble i 51 then (mO51) else (mO52)) else (bif Nat.ble i 53 then (mO53) else (mO54))) else (bif Nat.ble i 56 then (bif Nat.ble i 55 then (mO55) else (mO56)) else (bif Nat.ble i 57 then (mO57) else (mO58))))))) else (bif Nat.ble i 88 then (bif Nat.ble i 73 then (bif Nat.ble i 65 then (bif Nat.ble i 61 then (bif Nat.ble i 59 then (mO59) else (bif Nat.ble i 60 then (mO60) else (mO61))) else (bif Nat.ble i 63 then (bif Nat.ble i 62 then (mO62) else (mO63)) else (bif Nat.ble i 64 then (mO64) else (mO65)))) else (bif Nat.ble i 69 then (bif Nat.ble i 67 then (bif Nat.ble i 66 then (mO66) else (mO67)) else (bif Nat.ble i 68 then (mO68) else (mO69))) else (bif Nat.ble i 71 then (bif Nat.ble i 70 then (mO70) else (mO71)) else (bif Nat.ble i 72 then (mO72) else (mO73))))) else (bif Nat.ble i 80 then (bif Nat.ble i 76 then (bif Nat.ble i 74 then (mO74) else (bif Nat.ble i 75 then (mO75) else (mO76))) else (bif Nat.ble i 78 then (bif Nat.ble i 77 then (mO77) else (mO78)) else (bif Nat.ble i 79 then (mO79) else (mO80)))) else (bif Nat.ble i 84 then (bif Nat.ble i 82 then (bif Nat.ble i 81 then (mO81) else (mO82)) else (bif Nat.ble i 83 then (mO83) else (mO84))) else (bif Nat.ble i 86 then (bif Nat.ble i 85 then (mO85) else (mO86)) else (bif Nat.ble i 87 then (mO87) else (mO88)))))) else (bif Nat.ble i 103 then (bif Nat.ble i 95 then (bif Nat.ble i 91 then (bif Nat.ble i 89 then (mO89) else (bif Nat.ble i 90 then (mO90) else (mO91))) else (bif Nat.ble i 93 then (bif Nat.ble i 92 then (mO92) else (mO93)) else (bif Nat.ble i 94 then (mO94) else (mO95)))) else (bif Nat.ble i 99 then (bif Nat.ble i 97 then (bif Nat.ble i 96 then (mO96) else (mO97)) else (bif Nat.ble i 98 then (mO98) else (mO99))) else (bif Nat.ble i 101 then (bif Nat.ble i 100 then (mO100) else (mO101)) else (bif Nat.ble i 102 then (mO102) else (mO103))))) else (bif Nat.ble i 110 then (bif Nat.ble i 106 then (bif Nat.ble i 104 then (mO104) else (bif Nat.ble i 105 then (mO105) else (mO106))) else (bif Nat.ble i 108 then (bif Nat.ble i 107 then (mO107) else (mO108)) else (bif Nat.ble i 109 then (mO109) else (mO110)))) else (bif Nat.ble i 114 then (bif Nat.ble i 112 then (bif Nat.ble i 111 then (mO111) else (mO112)) else (bif Nat.ble i 113 then (mO113) else (mO114))) else (bif Nat.ble i 116 then (bif Nat.ble i 115 then (mO115) else (mO116)) else (bif Nat.ble i 117 then (mO117) else (mO118)))))))) else (bif Nat.ble i 177 then (bif Nat.ble i 147 then (bif Nat.ble i 132 then (bif Nat.ble i 125 then (bif Nat.ble i 121 then (bif Nat.ble i 119 then (mO119) else (bif Nat.ble i 120 then (mO120) else (mO121))) else (bif Nat.ble i 123 then (bif Nat.ble i 122 then (mO122) else (mO123)) else (bif Nat.ble i 124 then (mO124) else (mO125)))) else (bif Nat.ble i 128 then (bif Nat.ble i 126 then (mO126) else (bif Nat.ble i 127 then (mO127) else (mO128))) else (bif Nat.ble i 130 then (bif Nat.ble i 129 then (mO129) else (mO130)) else (bif Nat.ble i 131 then (mO131) else (mO132))))) else (bif Nat.ble i 139 then (bif Nat.ble i 135 then (bif Nat.ble i 133 then (mO133) else (bif Nat.ble i 134 then (mO134) else (mO135))) else (bif Nat.ble i 137 then (bif Nat.ble i 136 then (mO136) else (mO137)) else (bif Nat.ble i 138 then (mO138) else (mO139)))) else (bif Nat.ble i 143 then (bif Nat.ble i 141 then (bif Nat.ble i 140 then (mO140) else (mO141)) else (bif Nat.ble i 142 then (mO142) else (mO143))) else (bif Nat.ble i 145 then (bif Nat.ble i 144 then (mO144) else (mO145)) else (bif Nat.ble i 146 then (mO146) else (mO147)))))) else (bif Nat.ble i 162 then (bif Nat.ble i 154 then (bif Nat.ble i 150 then (bif Nat.ble i 148 then (mO148) else (bif Nat.ble i 149 then (mO149) else (mO150))) else (bif Nat.ble i 152 then (bif Nat.ble i 151 then (mO151) else (mO152)) else (bif Nat.ble i 153 then (mO153) else (mO154)))) else (bif Nat.ble i 158 then (bif Nat.ble i 156 then (bif Nat.ble i 155 then (mO155) else (mO156)) else (bif Nat.ble i 157 then (mO157) else (mO158))) else (bif Nat.ble i 160 then (bif Nat.ble i 159 then (mO159) else (mO160)) else (bif Nat.ble i 161 then (mO161) else (mO162))))) else (bif Nat.ble i 169 then (bif Nat.ble i 165 then (bif Nat.ble i 163 then (mO163) else (bif Nat.ble i 164 then (mO164) else (mO165))) else (bif Nat.ble i 167 then (bif Nat.ble i 166 then (mO166) else (mO167)) else (bif Nat.ble i 168 then (mO168) else (mO169)))) else (bif Nat.ble i 173 then (bif Nat.ble i 171 then (bif Nat.ble i 170 then (mO170) else (mO171)) else (bif Nat.ble i 172 then (mO172) else (mO173))) else (bif Nat.ble i 175 then (bif Nat.ble i 174 then (mO174) else (mO175)) else (bif Nat.ble i 176 then (mO176) else (mO177))))))) else (bif Nat.ble i 207 then (bif Nat.ble i 192 then (bif Nat.ble i 184 then (bif Nat.ble i 180 then (bif Nat.ble i 178 then (mO178) else (bif Nat.ble i 179 then (mO179) else (mO180))) else (bif Nat.ble i 182 then (bif Nat.ble i 181 then (mO181) else (mO182)) else (bif Nat.ble i 183 then (mO183) else (mO184)))) else (bif Nat.ble i 188 then (bif Nat.ble i 186 then (bif Nat.ble i 185 then (mO185) else (mO186)) else (bif Nat.ble i 187 then (mO187) else (mO188))) else (bif Nat.ble i 190 then (bif Nat.ble i 189 then (mO189) else (mO190)) else (bif Nat.ble i 191 then (mO191) else (mO192))))) else (bif Nat.ble i 199 then (bif Nat.ble i 195 then (bif Nat.ble i 193 then (mO193) else (bif Nat.ble i 194 then (mO194) else (mO195))) else (bif Nat.ble i 197 then (bif Nat.ble i 196 then (mO196) else (mO197)) else (bif Nat.ble i 198 then (mO198) else (mO199)))) else (bif Nat.ble i 203 then (bif Nat.ble i 201 then (bif Nat.ble i 200 then (mO200) else (mO201)) else (bif Nat.ble i 202 then (mO202) else (mO203))) else (bif Nat.ble i 205 then (bif Nat.ble i 204 then (mO204) else (mO205)) else (bif Nat.ble i 206 then (mO206) else (mO207)))))) else (bif Nat.ble i 222 then (bif Nat.ble i 214 then (bif Nat.ble i 210 then (bif Nat.ble i 208 then (mO208) else (bif Nat.ble i 209 then (mO209) else (mO210))) else (bif Nat.ble i 212 then (bif Nat.ble i 211 then (mO211) else (mO212)) else (bif Nat.ble i 213 then (mO213) else (mO214)))) else (bif Nat.ble i 218 then (bif Nat.ble i 216 then (bif Nat.ble i 215 then (mO215) else (mO216)) else (bif Nat.ble i 217 then (mO217) else (mO218))) else (bif Nat.ble i 220 then (bif Nat.ble i 219 then (mO219) else (mO220)) else (bif Nat.ble i 221 then (mO221) else (mO222))))) else (bif Nat.ble i 229 then (bif Nat.ble i 225 then (bif Nat.ble i 223 then (mO223) else (bif Nat.ble i 224 then (mO224) else (mO225))) else (bif Nat.ble i 227 then (bif Nat.ble i 226 then (mO226) else (mO227)) else (bif Nat.ble i 228 then (mO228) else (mO229)))) else (bif Nat.ble i 233 then (bif Nat.ble i 231 then (bif Nat.ble i 230 then (mO230) else (mO231)) else (bif Nat.ble i 232 then (mO232) else (mO233))) else (bif Nat.ble i 235 then (bif Nat.ble i 234 then (mO234) else (mO235)) else (bif Nat.ble i 236 then (mO236) else (mO237))))))))
/-- locals, kind of answer (0 nothing, 1 int, 2 long), class -/
def mInf : Nat → Nat × (Nat × Nat) := fun i => bif Nat.ble i 237 then (bif Nat.ble i 118 then (bif Nat.ble i 58 then (bif Nat.ble i 28 then (bif Nat.ble i 13 then (bif Nat.ble i 6 then (bif Nat.ble i 2 then (bif Nat.ble i 0 then ((1, 0, 0)) else (bif Nat.ble i 1 then ((1, 0, 0)) else ((5, 1, 0)))) else (bif Nat.ble i 4 then (bif Nat.ble i 3 then ((2, 1, 0)) else ((2, 0, 0))) else (bif Nat.ble i 5 then ((2, 1, 0)) else ((2, 1, 0))))) else (bif Nat.ble i 9 then (bif Nat.ble i 7 then ((3, 1, 0)) else (bif Nat.ble i 8 then ((3, 1, 0)) else ((4, 0, 1)))) else (bif Nat.ble i 11 then (bif Nat.ble i 10 then ((3, 1, 1)) else ((4, 1, 1))) else (bif Nat.ble i 12 then ((3, 1, 1)) else ((8, 0, 1)))))) else (bif Nat.ble i 20 then (bif Nat.ble i 16 then (bif Nat.ble i 14 then ((3, 0, 1)) else (bif Nat.ble i 15 then ((6, 1, 1)) else ((2, 0, 1)))) else (bif Nat.ble i 18 then (bif Nat.ble i 17 then ((5, 0, 1)) else ((6, 1, 1))) else (bif Nat.ble i 19 then ((6, 1, 1)) else ((4, 0, 1))))) else (bif Nat.ble i 24 then (bif Nat.ble i 22 then (bif Nat.ble i 21 then ((4, 1, 1)) else ((4, 1, 1))) else (bif Nat.ble i 23 then ((4, 1, 1)) else ((5, 1, 1)))) else (bif Nat.ble i 26 then (bif Nat.ble i 25 then ((6, 1, 1)) else ((3, 1, 1))) else (bif Nat.ble i 27 then ((5, 0, 2)) else ((3, 0, 2))))))) else (bif Nat.ble i 43 then (bif Nat.ble i 35 then (bif Nat.ble i 31 then (bif Nat.ble i 29 then ((4, 1, 2)) else (bif Nat.ble i 30 then ((5, 1, 2)) else ((7, 1, 2)))) else (bif Nat.ble i 33 then (bif Nat.ble i 32 then ((5, 1, 2)) else ((5, 0, 3))) else (bif Nat.ble i 34 then ((7, 1, 3)) else ((5, 0, 3))))) else (bif Nat.ble i 39 then (bif Nat.ble i 37 then (bif Nat.ble i 36 then ((6, 0, 3)) else ((7, 0, 3))) else (bif Nat.ble i 38 then ((6, 1, 3)) else ((1, 0, 4)))) else (bif Nat.ble i 41 then (bif Nat.ble i 40 then ((2, 0, 4)) else ((2, 0, 4))) else (bif Nat.ble i 42 then ((2, 0, 4)) else ((5, 1, 4)))))) else (bif Nat.ble i 50 then (bif Nat.ble i 46 then (bif Nat.ble i 44 then ((3, 1, 4)) else (bif Nat.ble i 45 then ((3, 0, 5)) else ((8, 1, 5)))) else (bif Nat.ble i 48 then (bif Nat.ble i 47 then ((7, 1, 5)) else ((11, 1, 5))) else (bif Nat.ble i 49 then ((1, 1, 5)) else ((2, 0, 5))))) else (bif Nat.ble i 54 then (bif Nat.ble i 52 then (bif Nat.ble i 51 then ((4, 1, 5)) else ((2, 0, 6))) else (bif Nat.ble i 53 then ((1, 0, 6)) else ((8, 1, 6)))) else (bif Nat.ble i 56 then (bif Nat.ble i 55 then ((5, 1, 6)) else ((1, 0, 7))) else (bif Nat.ble i 57 then ((3, 0, 7)) else ((2, 1, 7)))))))) else (bif Nat.ble i 88 then (bif Nat.ble i 73 then (bif Nat.ble i 65 then (bif Nat.ble i 61 then (bif Nat.ble i 59 then ((3, 0, 7)) else (bif Nat.ble i 60 then ((2, 0, 7)) else ((5, 0, 8)))) else (bif Nat.ble i 63 then (bif Nat.ble i 62 then ((3, 0, 8)) else ((4, 0, 8))) else (bif Nat.ble i 64 then ((3, 0, 8)) else ((1, 0, 9))))) else (bif Nat.ble i 69 then (bif Nat.ble i 67 then (bif Nat.ble i 66 then ((6, 0, 9)) else ((1, 0, 9))) else (bif Nat.ble i 68 then ((1, 0, 9)) else ((3, 0, 9)))) else (bif Nat.ble i 71 then (bif Nat.ble i 70 then ((5, 1, 9)) else ((3, 1, 9))) else (bif Nat.ble i 72 then ((2, 1, 9)) else ((2, 1, 9)))))) else (bif Nat.ble i 80 then (bif Nat.ble i 76 then (bif Nat.ble i 74 then ((4, 1, 9)) else (bif Nat.ble i 75 then ((2, 0, 10)) else ((3, 1, 10)))) else (bif Nat.ble i 78 then (bif Nat.ble i 77 then ((1, 1, 10)) else ((2, 1, 10))) else (bif Nat.ble i 79 then ((2, 1, 10)) else ((3, 1, 10))))) else (bif Nat.ble i 84 then (bif Nat.ble i 82 then (bif Nat.ble i 81 then ((3, 1, 10)) else ((2, 1, 10))) else (bif Nat.ble i 83 then ((1, 1, 10)) else ((1, 1, 10)))) else (bif Nat.ble i 86 then (bif Nat.ble i 85 then ((2, 1, 10)) else ((1, 1, 10))) else (bif Nat.ble i 87 then ((2, 1, 10)) else ((4, 1, 10))))))) else (bif Nat.ble i 103 then (bif Nat.ble i 95 then (bif Nat.ble i 91 then (bif Nat.ble i 89 then ((3, 1, 10)) else (bif Nat.ble i 90 then ((2, 1, 10)) else ((3, 1, 10)))) else (bif Nat.ble i 93 then (bif Nat.ble i 92 then ((2, 1, 10)) else ((8, 1, 10))) else (bif Nat.ble i 94 then ((9, 1, 10)) else ((2, 1, 10))))) else (bif Nat.ble i 99 then (bif Nat.ble i 97 then (bif Nat.ble i 96 then ((1, 1, 10)) else ((1, 1, 10))) else (bif Nat.ble i 98 then ((2, 0, 11)) else ((7, 1, 11)))) else (bif Nat.ble i 101 then (bif Nat.ble i 100 then ((3, 1, 11)) else ((3, 1, 11))) else (bif Nat.ble i 102 then ((1, 1, 11)) else ((3, 1, 11)))))) else (bif Nat.ble i 110 then (bif Nat.ble i 106 then (bif Nat.ble i 104 then ((4, 1, 11)) else (bif Nat.ble i 105 then ((5, 1, 11)) else ((3, 1, 11)))) else (bif Nat.ble i 108 then (bif Nat.ble i 107 then ((3, 1, 11)) else ((2, 1, 11))) else (bif Nat.ble i 109 then ((6, 1, 11)) else ((5, 1, 11))))) else (bif Nat.ble i 114 then (bif Nat.ble i 112 then (bif Nat.ble i 111 then ((3, 1, 11)) else ((2, 1, 11))) else (bif Nat.ble i 113 then ((2, 1, 11)) else ((3, 1, 11)))) else (bif Nat.ble i 116 then (bif Nat.ble i 115 then ((3, 1, 11)) else ((4, 1, 11))) else (bif Nat.ble i 117 then ((2, 1, 11)) else ((6, 1, 11))))))))) else (bif Nat.ble i 177 then (bif Nat.ble i 147 then (bif Nat.ble i 132 then (bif Nat.ble i 125 then (bif Nat.ble i 121 then (bif Nat.ble i 119 then ((9, 1, 11)) else (bif Nat.ble i 120 then ((3, 1, 11)) else ((2, 1, 11)))) else (bif Nat.ble i 123 then (bif Nat.ble i 122 then ((4, 1, 11)) else ((2, 1, 11))) else (bif Nat.ble i 124 then ((1, 1, 12)) else ((7, 1, 12))))) else (bif Nat.ble i 128 then (bif Nat.ble i 126 then ((5, 0, 12)) else (bif Nat.ble i 127 then ((1, 0, 12)) else ((3, 0, 12)))) else (bif Nat.ble i 130 then (bif Nat.ble i 129 then ((2, 1, 12)) else ((7, 0, 12))) else (bif Nat.ble i 131 then ((1, 1, 12)) else ((1, 1, 12)))))) else (bif Nat.ble i 139 then (bif Nat.ble i 135 then (bif Nat.ble i 133 then ((1, 1, 12)) else (bif Nat.ble i 134 then ((1, 1, 12)) else ((2, 0, 12)))) else (bif Nat.ble i 137 then (bif Nat.ble i 136 then ((3, 1, 12)) else ((2, 1, 12))) else (bif Nat.ble i 138 then ((2, 0, 12)) else ((3, 1, 12))))) else (bif Nat.ble i 143 then (bif Nat.ble i 141 then (bif Nat.ble i 140 then ((2, 0, 12)) else ((2, 1, 12))) else (bif Nat.ble i 142 then ((1, 0, 12)) else ((5, 0, 12)))) else (bif Nat.ble i 145 then (bif Nat.ble i 144 then ((8, 1, 12)) else ((4, 1, 12))) else (bif Nat.ble i 146 then ((5, 0, 12)) else ((3, 1, 12))))))) else (bif Nat.ble i 162 then (bif Nat.ble i 154 then (bif Nat.ble i 150 then (bif Nat.ble i 148 then ((1, 0, 12)) else (bif Nat.ble i 149 then ((2, 0, 12)) else ((3, 0, 12)))) else (bif Nat.ble i 152 then (bif Nat.ble i 151 then ((3, 0, 12)) else ((3, 0, 12))) else (bif Nat.ble i 153 then ((2, 0, 12)) else ((5, 0, 12))))) else (bif Nat.ble i 158 then (bif Nat.ble i 156 then (bif Nat.ble i 155 then ((3, 0, 12)) else ((3, 1, 12))) else (bif Nat.ble i 157 then ((4, 0, 12)) else ((1, 1, 12)))) else (bif Nat.ble i 160 then (bif Nat.ble i 159 then ((1, 1, 12)) else ((2, 1, 12))) else (bif Nat.ble i 161 then ((3, 1, 12)) else ((2, 1, 12)))))) else (bif Nat.ble i 169 then (bif Nat.ble i 165 then (bif Nat.ble i 163 then ((3, 1, 12)) else (bif Nat.ble i 164 then ((2, 1, 12)) else ((2, 1, 12)))) else (bif Nat.ble i 167 then (bif Nat.ble i 166 then ((7, 1, 12)) else ((6, 1, 12))) else (bif Nat.ble i 168 then ((5, 1, 12)) else ((3, 1, 12))))) else (bif Nat.ble i 173 then (bif Nat.ble i 171 then (bif Nat.ble i 170 then ((2, 1, 12)) else ((3, 1, 12))) else (bif Nat.ble i 172 then ((2, 1, 12)) else ((3, 1, 12)))) else (bif Nat.ble i 175 then (bif Nat.ble i 174 then ((2, 1, 12)) else ((3, 1, 12))) else (bif Nat.ble i 176 then ((6, 0, 12)) else ((3, 1, 12)))))))) else (bif Nat.ble i 207 then (bif Nat.ble i 192 then (bif Nat.ble i 184 then (bif Nat.ble i 180 then (bif Nat.ble i 178 then ((7, 1, 12)) else (bif Nat.ble i 179 then ((6, 1, 12)) else ((3, 1, 12)))) else (bif Nat.ble i 182 then (bif Nat.ble i 181 then ((3, 1, 12)) else ((3, 1, 12))) else (bif Nat.ble i 183 then ((3, 0, 12)) else ((5, 0, 12))))) else (bif Nat.ble i 188 then (bif Nat.ble i 186 then (bif Nat.ble i 185 then ((9, 1, 12)) else ((1, 1, 12))) else (bif Nat.ble i 187 then ((1, 1, 12)) else ((3, 1, 12)))) else (bif Nat.ble i 190 then (bif Nat.ble i 189 then ((2, 0, 12)) else ((4, 1, 12))) else (bif Nat.ble i 191 then ((2, 1, 12)) else ((7, 1, 12)))))) else (bif Nat.ble i 199 then (bif Nat.ble i 195 then (bif Nat.ble i 193 then ((8, 0, 12)) else (bif Nat.ble i 194 then ((11, 0, 12)) else ((2, 1, 12)))) else (bif Nat.ble i 197 then (bif Nat.ble i 196 then ((4, 1, 12)) else ((7, 1, 12))) else (bif Nat.ble i 198 then ((11, 1, 12)) else ((8, 1, 12))))) else (bif Nat.ble i 203 then (bif Nat.ble i 201 then (bif Nat.ble i 200 then ((5, 1, 12)) else ((10, 1, 12))) else (bif Nat.ble i 202 then ((10, 0, 12)) else ((3, 1, 12)))) else (bif Nat.ble i 205 then (bif Nat.ble i 204 then ((2, 1, 12)) else ((8, 1, 12))) else (bif Nat.ble i 206 then ((6, 1, 12)) else ((4, 1, 12))))))) else (bif Nat.ble i 222 then (bif Nat.ble i 214 then (bif Nat.ble i 210 then (bif Nat.ble i 208 then ((8, 1, 12)) else (bif Nat.ble i 209 then ((5, 1, 12)) else ((8, 1, 12)))) else (bif Nat.ble i 212 then (bif Nat.ble i 211 then ((3, 1, 12)) else ((3, 1, 12))) else (bif Nat.ble i 213 then ((3, 1, 12)) else ((4, 1, 12))))) else (bif Nat.ble i 218 then (bif Nat.ble i 216 then (bif Nat.ble i 215 then ((5, 1, 12)) else ((2, 1, 12))) else (bif Nat.ble i 217 then ((5, 0, 12)) else ((5, 1, 12)))) else (bif Nat.ble i 220 then (bif Nat.ble i 219 then ((9, 1, 12)) else ((12, 1, 12))) else (bif Nat.ble i 221 then ((2, 1, 12)) else ((3, 1, 12)))))) else (bif Nat.ble i 229 then (bif Nat.ble i 225 then (bif Nat.ble i 223 then ((4, 1, 12)) else (bif Nat.ble i 224 then ((4, 0, 30)) else ((2, 1, 20)))) else (bif Nat.ble i 227 then (bif Nat.ble i 226 then ((1, 1, 20)) else ((2, 1, 30))) else (bif Nat.ble i 228 then ((2, 0, 20)) else ((3, 1, 30))))) else (bif Nat.ble i 233 then (bif Nat.ble i 231 then (bif Nat.ble i 230 then ((2, 1, 20)) else ((3, 1, 20))) else (bif Nat.ble i 232 then ((1, 1, 20)) else ((1, 1, 20)))) else (bif Nat.ble i 235 then (bif Nat.ble i 234 then ((4, 1, 30)) else ((1, 1, 30))) else (bif Nat.ble i 236 then ((6, 1, 30)) else ((7, 1, 30)))))))))) else (0, 1, 99)
end
section
/-! One step of the small machine as a condition before it; runs as the least set closed under steps -/
def mLook1 : List (Nat × mOp) → Nat → mOp
  | [], _ => (.nop, 0, 0, 0)
  | (q, o) :: t, pc => bif Nat.beq q pc then o else mLook1 t pc
def mLook : List (Nat × List (Nat × mOp)) → Nat → mOp
  | [], _ => (.nop, 0, 0, 0)
  | (q, c) :: t, pc => bif Nat.ble pc q then mLook1 c pc else mLook t pc
/-- rows that stand before the run: the script (3), two rows of steps (1, 2), the bytes of two texts (6, 7) -/
abbrev mKA : Type := Nat → Nat × (Nat × (Nat → Int))
def mKF : Nat → Nat → mV
  | 4, 0 => vK 6
  | 5, 0 => vK 7
  | 4, 1 => vI 0
  | 5, 1 => vI 0
  | _, _ => vK 0
def mRcv (S : List mSh) (ci : Nat) : mV → Bool
  | .inr (.inr (.inl a)) => (match mNth S a with | some (.inl (c, _)) => Nat.beq c ci | _ => false)
  | .inr (.inr (.inr k)) => Nat.beq ci 20 && (Nat.beq k 4 || Nat.beq k 5)
  | _ => false
def mAty : ArrayType → Option Nat
  | .int => some 0
  | .long => some 1
  | .byte => some 2
  | .boolean => some 3
  | _ => none
def mInA (i : Int) (n : Nat) : Prop := 0 ≤ i ∧ i < (n : Int)
/-- call transformers: what is asked for before a call of a method with arguments in a world -/
abbrev mCl : Type := Nat → List mV → mS → mB → (Option mV → mS → mB → Prop) → Prop
abbrev mX : Type := Nat → mL → List mV → mS → mB → Prop
def mInvoke (cl : mCl) (X : mX) (mi : Nat) (args : List mV) (rest : List mV) (pc : Nat) (L : mL) (s : mS) (b : mB) : Prop :=
  bif Nat.ble (mCats rest) 8 && (Nat.ble (mCats args) (mInf mi).1 || Nat.beq mi 1005) then cl mi args s b (fun r s' b' => mAns (mInf mi).2.1 r (fun v => X (pc + 3) L (v ++ rest) s' b')) else False
def stp (kA : mKA) (cl : mCl) (X : mX) (Q : Option mV → mS → Prop) (op : mOp) (pc : Nat) (L : mL) (st : List mV) (s : mS) (b : mB) : Prop :=
  match op.1 with
  | .iconst i => X (pc + 1) L (vI i :: st) s b
  | .bipush i => X (pc + 2) L (vI i :: st) s b
  | .sipush i => X (pc + 3) L (vI i :: st) s b
  | .lconst i => X (pc + 1) L (vL (i.val : Int) :: st) s b
  | .ldc _ => (match op.2.1 with | 0 => X (pc + 2) L (vI op.2.2.2 :: st) s b | k => X (pc + 2) L (vK k :: st) s b)
  | .ldc_w _ => (match op.2.1 with | 0 => X (pc + 3) L (vI op.2.2.2 :: st) s b | _ => False)
  | .ldc2_w _ => X (pc + 3) L (vL op.2.2.2 :: st) s b
  | .iload i => (match mGet L i with | some (.inl n) => X (pc + 2) L (vI n :: st) s b | _ => False)
  | .iload_n i => (match mGet L i.val with | some (.inl n) => X (pc + 1) L (vI n :: st) s b | _ => False)
  | .lload i => (match mGet L i with | some (.inr (.inl n)) => X (pc + 2) L (vL n :: st) s b | _ => False)
  | .lload_n i => (match mGet L i.val with | some (.inr (.inl n)) => X (pc + 1) L (vL n :: st) s b | _ => False)
  | .aload i => (match mGet L i with | some (.inr (.inr r)) => X (pc + 2) L (.inr (.inr r) :: st) s b | _ => False)
  | .aload_n i => (match mGet L i.val with | some (.inr (.inr r)) => X (pc + 1) L (.inr (.inr r) :: st) s b | _ => False)
  | .istore i => (match st with | .inl n :: r => X (pc + 2) (mSet L i (vI n)) r s b | _ => False)
  | .istore_n i => (match st with | .inl n :: r => X (pc + 1) (mSet L i.val (vI n)) r s b | _ => False)
  | .lstore i => (match st with | .inr (.inl n) :: r => X (pc + 2) (mSet2 L i (vL n)) r s b | _ => False)
  | .lstore_n i => (match st with | .inr (.inl n) :: r => X (pc + 1) (mSet2 L i.val (vL n)) r s b | _ => False)
  | .astore i => (match st with | .inr (.inr n) :: r => X (pc + 2) (mSet L i (.inr (.inr n))) r s b | _ => False)
  | .astore_n i => (match st with | .inr (.inr n) :: r => X (pc + 1) (mSet L i.val (.inr (.inr n))) r s b | _ => False)
  | .iinc i c => (match mGet L i with | some (.inl n) => X (pc + 3) (mSet L i (vI (wr (n + c)))) st s b | _ => False)
  | .pop => (match st with | .inr (.inl _) :: _ => False | _ :: r => X (pc + 1) L r s b | _ => False)
  | .dup => (match st with | .inr (.inl _) :: _ => False | v :: r => X (pc + 1) L (v :: v :: r) s b | _ => False)
  | .dup2 => (match st with | .inl n :: v :: r => (match v with | .inr (.inl _) => False | v => X (pc + 1) L (.inl n :: v :: .inl n :: v :: r) s b) | _ => False)
  | .iadd => (match st with | .inl y :: .inl x :: r => X (pc + 1) L (vI (wr (x + y)) :: r) s b | _ => False)
  | .isub => (match st with | .inl y :: .inl x :: r => X (pc + 1) L (vI (wr (x - y)) :: r) s b | _ => False)
  | .imul => (match st with | .inl y :: .inl x :: r => X (pc + 1) L (vI (wr (x * y)) :: r) s b | _ => False)
  | .idiv => (match st with | .inl y :: .inl x :: r => y ≠ 0 ∧ X (pc + 1) L (vI (wr (x.tdiv y)) :: r) s b | _ => False)
  | .irem => (match st with | .inl y :: .inl x :: r => y ≠ 0 ∧ X (pc + 1) L (vI (x.tmod y) :: r) s b | _ => False)
  | .ineg => (match st with | .inl x :: r => X (pc + 1) L (vI (wr (-x)) :: r) s b | _ => False)
  | .iand => (match st with | .inl y :: .inl x :: r => X (pc + 1) L (vI (iAnd x y) :: r) s b | _ => False)
  | .ior => (match st with | .inl y :: .inl x :: r => X (pc + 1) L (vI (iOr x y) :: r) s b | _ => False)
  | .ishl => (match st with | .inl y :: .inl x :: r => X (pc + 1) L (vI (iShl x y) :: r) s b | _ => False)
  | .ishr => (match st with | .inl y :: .inl x :: r => X (pc + 1) L (vI (iShr x y) :: r) s b | _ => False)
  | .ladd => (match st with | .inr (.inl y) :: .inr (.inl x) :: r => X (pc + 1) L (vL (wl (x + y)) :: r) s b | _ => False)
  | .lsub => (match st with | .inr (.inl y) :: .inr (.inl x) :: r => X (pc + 1) L (vL (wl (x - y)) :: r) s b | _ => False)
  | .lmul => (match st with | .inr (.inl y) :: .inr (.inl x) :: r => X (pc + 1) L (vL (wl (x * y)) :: r) s b | _ => False)
  | .ldiv => (match st with | .inr (.inl y) :: .inr (.inl x) :: r => y ≠ 0 ∧ X (pc + 1) L (vL (wl (x.tdiv y)) :: r) s b | _ => False)
  | .lrem => (match st with | .inr (.inl y) :: .inr (.inl x) :: r => y ≠ 0 ∧ X (pc + 1) L (vL (x.tmod y) :: r) s b | _ => False)
  | .land => (match st with | .inr (.inl y) :: .inr (.inl x) :: r => X (pc + 1) L (vL (lAnd x y) :: r) s b | _ => False)
  | .lor => (match st with | .inr (.inl y) :: .inr (.inl x) :: r => X (pc + 1) L (vL (lOr x y) :: r) s b | _ => False)
  | .lshl => (match st with | .inl y :: .inr (.inl x) :: r => X (pc + 1) L (vL (lShl x y) :: r) s b | _ => False)
  | .lshr => (match st with | .inl y :: .inr (.inl x) :: r => X (pc + 1) L (vL (lShr x y) :: r) s b | _ => False)
  | .lushr => (match st with | .inl y :: .inr (.inl x) :: r => X (pc + 1) L (vL (lUshr x y) :: r) s b | _ => False)
  | .lcmp => (match st with | .inr (.inl y) :: .inr (.inl x) :: r => X (pc + 1) L (vI (lCmp x y) :: r) s b | _ => False)
  | .i2l => (match st with | .inl x :: r => X (pc + 1) L (vL x :: r) s b | _ => False)
  | .l2i => (match st with | .inr (.inl x) :: r => X (pc + 1) L (vI (wr x) :: r) s b | _ => False)
  | .i2b => (match st with | .inl x :: r => X (pc + 1) L (vI (iB x) :: r) s b | _ => False)
  | .i2c => (match st with | .inl x :: r => X (pc + 1) L (vI (iC x) :: r) s b | _ => False)
  | .ifCond c _ => (match st with
    | .inl x :: r => (match c with
      | .eq => (x = 0 → X op.2.1 L r s b) ∧ (¬ x = 0 → X (pc + 3) L r s b)
      | .ne => (¬ x = 0 → X op.2.1 L r s b) ∧ (x = 0 → X (pc + 3) L r s b)
      | .lt => (x < 0 → X op.2.1 L r s b) ∧ (¬ x < 0 → X (pc + 3) L r s b)
      | .ge => (¬ x < 0 → X op.2.1 L r s b) ∧ (x < 0 → X (pc + 3) L r s b)
      | .gt => (0 < x → X op.2.1 L r s b) ∧ (¬ 0 < x → X (pc + 3) L r s b)
      | .le => (¬ 0 < x → X op.2.1 L r s b) ∧ (0 < x → X (pc + 3) L r s b))
    | _ => False)
  | .if_icmp c _ => (match st with
    | .inl y :: .inl x :: r => (match c with
      | .eq => (x = y → X op.2.1 L r s b) ∧ (¬ x = y → X (pc + 3) L r s b)
      | .ne => (¬ x = y → X op.2.1 L r s b) ∧ (x = y → X (pc + 3) L r s b)
      | .lt => (x < y → X op.2.1 L r s b) ∧ (¬ x < y → X (pc + 3) L r s b)
      | .ge => (¬ x < y → X op.2.1 L r s b) ∧ (x < y → X (pc + 3) L r s b)
      | .gt => (y < x → X op.2.1 L r s b) ∧ (¬ y < x → X (pc + 3) L r s b)
      | .le => (¬ y < x → X op.2.1 L r s b) ∧ (y < x → X (pc + 3) L r s b))
    | _ => False)
  | .goto _ => X op.2.1 L st s b
  | .tableswitch d lo hi offs => (match st with
    | .inl x :: r => ((x < lo ∨ hi < x) → X (mTgt pc d) L r s b) ∧ mSw (fun q => X q L r s b) pc x lo offs.toList
    | _ => False)
  | .getstatic _ => (match op.2.2.1 with | 1 => X (pc + 3) L (vI 1 :: st) s b | _ => X (pc + 3) L (vK op.2.1 :: st) s b)
  | .getfield _ => (match st with
    | .inr (.inr (.inl a)) :: r => (match mNth s.1 a with
      | some (.inl (c, fs)) => bif Nat.beq c op.2.1 then (match mFld fs op.2.2.1 with | some f => X (pc + 3) L (mFldOf f (s.2.1 a op.2.2.1) :: r) s b | none => False) else False
      | _ => False)
    | .inr (.inr (.inr k)) :: r => bif Nat.beq op.2.1 20 && (Nat.beq k 4 || Nat.beq k 5) then X (pc + 3) L (mKF k op.2.2.1 :: r) s b else False
    | _ => False)
  | .putfield _ => (match st with
    | v :: .inr (.inr (.inl a)) :: r => (match mNth s.1 a with
      | some (.inl (c, fs)) => bif Nat.beq c op.2.1 then (match mFld fs op.2.2.1 with
        | some f => (match v with
          | .inl n => (match f with
            | 0 => X (pc + 3) L r (s.1, mUp s.2.1 a op.2.2.1 n, s.2.2) b
            | 2 => (n = 0 ∨ n = 1) ∧ X (pc + 3) L r (s.1, mUp s.2.1 a op.2.2.1 n, s.2.2) b
            | _ => False)
          | .inr (.inl n) => (match f with | 1 => X (pc + 3) L r (s.1, mUp s.2.1 a op.2.2.1 n, s.2.2) b | _ => False)
          | .inr (.inr (.inl q)) => (match f with | _ + 3 => X (pc + 3) L r (s.1.set a (.inl (c, fs.set op.2.2.1 (q + 4))), s.2.1, s.2.2) b | _ => False)
          | _ => False)
        | none => False) else False
      | _ => False)
    | _ => False)
  | .iaload => (match st with
    | .inl i :: .inr (.inr (.inl a)) :: r => (match mNth s.1 a with
      | some (.inr (0, n, _)) => mInA i n ∧ X (pc + 1) L (vI (s.2.2 a i.toNat) :: r) s b
      | _ => False)
    | .inl i :: .inr (.inr (.inr k)) :: r => (match kA k with
      | (0, n, f) => mInA i n ∧ X (pc + 1) L (vI (f i.toNat) :: r) s b
      | _ => False)
    | _ => False)
  | .baload => (match st with
    | .inl i :: .inr (.inr (.inl a)) :: r => (match mNth s.1 a with
      | some (.inr (2, n, _)) => mInA i n ∧ X (pc + 1) L (vI (s.2.2 a i.toNat) :: r) s b
      | some (.inr (3, n, _)) => mInA i n ∧ X (pc + 1) L (vI (s.2.2 a i.toNat) :: r) s b
      | _ => False)
    | .inl i :: .inr (.inr (.inr k)) :: r => (match kA k with
      | (2, n, f) => mInA i n ∧ X (pc + 1) L (vI (f i.toNat) :: r) s b
      | _ => False)
    | _ => False)
  | .laload => (match st with
    | .inl i :: .inr (.inr (.inl a)) :: r => (match mNth s.1 a with
      | some (.inr (1, n, _)) => mInA i n ∧ X (pc + 1) L (vL (s.2.2 a i.toNat) :: r) s b
      | _ => False)
    | _ => False)
  | .aaload => (match st with
    | .inl i :: .inr (.inr (.inl a)) :: r => (match mNth s.1 a with
      | some (.inr (4, n, rs)) => mInA i n ∧ (match mFld rs i.toNat with | some f => X (pc + 1) L (mFldOf f 0 :: r) s b | none => False)
      | _ => False)
    | _ => False)
  | .iastore => (match st with
    | .inl v :: .inl i :: .inr (.inr (.inl a)) :: r => (match mNth s.1 a with
      | some (.inr (0, n, _)) => mInA i n ∧ X (pc + 1) L r (s.1, s.2.1, mUp s.2.2 a i.toNat v) b
      | _ => False)
    | _ => False)
  | .bastore => (match st with
    | .inl v :: .inl i :: .inr (.inr (.inl a)) :: r => (match mNth s.1 a with
      | some (.inr (2, n, _)) => mInA i n ∧ X (pc + 1) L r (s.1, s.2.1, mUp s.2.2 a i.toNat (iB v)) b
      | some (.inr (3, n, _)) => mInA i n ∧ ((v = 0 ∨ v = 1) ∧ X (pc + 1) L r (s.1, s.2.1, mUp s.2.2 a i.toNat v) b)
      | _ => False)
    | _ => False)
  | .lastore => (match st with
    | .inr (.inl v) :: .inl i :: .inr (.inr (.inl a)) :: r => (match mNth s.1 a with
      | some (.inr (1, n, _)) => mInA i n ∧ X (pc + 1) L r (s.1, s.2.1, mUp s.2.2 a i.toNat v) b
      | _ => False)
    | _ => False)
  | .aastore => (match st with
    | .inr (.inr (.inl v)) :: .inl i :: .inr (.inr (.inl a)) :: r => (match mNth s.1 a with
      | some (.inr (4, n, rs)) => mInA i n ∧ (match mNth s.1 v with | some (.inl (7, _)) => X (pc + 1) L r (s.1.set a (.inr (4, n, rs.set i.toNat (v + 4))), s.2.1, s.2.2) b | _ => False)
      | _ => False)
    | _ => False)
  | .arraylength => (match st with
    | .inr (.inr (.inl a)) :: r => (match mNth s.1 a with
      | some (.inr (_, n, _)) => X (pc + 1) L (vI (n : Int) :: r) s b
      | _ => False)
    | .inr (.inr (.inr k)) :: r => (match kA k with
      | (0, n, _) => X (pc + 1) L (vI (n : Int) :: r) s b
      | (2, n, _) => X (pc + 1) L (vI (n : Int) :: r) s b
      | _ => False)
    | _ => False)
  | .newarray t => (match st, mAty t with
    | .inl n :: r, some ty => (0 ≤ n ∧ n ≤ 65536 ∧ 1 ≤ b.1 ∧ n.toNat ≤ b.2) ∧ X (pc + 2) L (vR s.1.length :: r) (s.1 ++ [.inr (ty, n.toNat, [])], s.2.1, fun x y => if x = s.1.length then 0 else s.2.2 x y) (b.1 - 1, b.2 - n.toNat)
    | _, _ => False)
  | .anewarray _ => (match st with
    | .inl n :: r => (0 ≤ n ∧ n ≤ 65536 ∧ 1 ≤ b.1 ∧ n.toNat ≤ b.2) ∧ X (pc + 3) L (vR s.1.length :: r) (s.1 ++ [.inr (4, n.toNat, List.replicate n.toNat 3)], s.2.1, s.2.2) (b.1 - 1, b.2 - n.toNat)
    | _ => False)
  | .new _ => (1 ≤ b.1 ∧ (mNew op.2.1).length ≤ b.2) ∧ X (pc + 3) L (vR s.1.length :: st) (s.1 ++ [.inl (op.2.1, mNew op.2.1)], (fun x y => if x = s.1.length then 0 else s.2.1 x y), s.2.2) (b.1 - 1, b.2 - (mNew op.2.1).length)
  | .invokespecial _ => (match op.2.1 with
    | 1004 => (match st with | .inr (.inr (.inl _)) :: r => bif Nat.ble (mCats r) 8 then X (pc + 3) L r s b else False | _ => False)
    | mi => (match mTake (op.2.2.1 % 100) st [] with | some (.inr (.inr (.inl q)) :: args, rest) => mInvoke cl X mi (vR q :: args) rest pc L s b | _ => False))
  | .invokevirtual _ => (match mTake op.2.2.1 st [] with
    | some (rv :: args, rest) => bif mRcv s.1 (mInf op.2.1).2.2 rv then mInvoke cl X op.2.1 (rv :: args) rest pc L s b else False
    | _ => False)
  | .invokestatic _ => (match op.2.1 with
    | 1000 => (match st with | .inl y :: .inl x :: r => bif Nat.ble (mCats r) 8 then X (pc + 3) L (vI (max x y) :: r) s b else False | _ => False)
    | 1001 => (match st with | .inl y :: .inl x :: r => bif Nat.ble (mCats r) 8 then X (pc + 3) L (vI (min x y) :: r) s b else False | _ => False)
    | 1002 => (match st with | .inl x :: r => bif Nat.ble (mCats r) 8 then X (pc + 3) L (vI (if x < 0 then wr (-x) else x) :: r) s b else False | _ => False)
    | 1003 => (match st with
      | .inl n :: .inl dp :: .inr (.inr (.inl d)) :: .inl sp :: .inr (.inr (.inl a)) :: r => (match mNth s.1 a, mNth s.1 d with
        | some (.inr (0, na, _)), some (.inr (0, nd, _)) => bif Nat.ble (mCats r) 8 && !(Nat.beq a d) then (0 ≤ n ∧ 0 ≤ sp ∧ 0 ≤ dp ∧ sp + n ≤ (na : Int) ∧ dp + n ≤ (nd : Int)) ∧ X (pc + 3) L r (s.1, s.2.1, mCp s.2.2 a sp.toNat d dp.toNat n.toNat) b else False
        | _, _ => False)
      | _ => False)
    | mi => (match mTake (op.2.2.1 % 100) st [] with | some (args, rest) => mInvoke cl X mi args rest pc L s b | none => False))
  | .ireturn => (match st with
    | [.inl n] => (match op.2.1 with
      | 0 => Q (some (vI n)) s
      | 1 => (n = 0 ∨ n = 1) ∧ Q (some (vI n)) s
      | 2 => (0 ≤ n ∧ n < 65536) ∧ Q (some (vI n)) s
      | _ => (-128 ≤ n ∧ n < 128) ∧ Q (some (vI n)) s)
    | _ => False)
  | .return_ => (match st with | [] => Q none s | _ => False)
  | _ => False
/-- a method's locals at its start -/
def mEnt : List mV → Nat → mL
  | _, 0 => []
  | [], n + 1 => none :: mEnt [] n
  | .inr (.inl x) :: _, 1 => [some (vL x)]
  | .inr (.inl x) :: t, n + 2 => some (vL x) :: none :: mEnt t n
  | v :: t, n + 1 => some v :: mEnt t n
/-- runs of a method at depth d: the least set of places that is closed under steps backwards -/
def goD (kA : mKA) (pr : List mV → mS → mB → (Option mV → mS → mB → Prop) → Prop) : Nat → Nat → Nat → mL → List mV → mS → mB → (Option mV → mS → Prop) → Prop
  | 0, _, _, _, _, _, _, _ => False
  | d + 1, mi, pc, L, st, s, b, Q => ∀ X : mX, (∀ pc L st s b, stp kA (fun mi' args s b K => match mi' with
      | 1005 => pr args s b K
      | mi' => ∃ mc ms : Nat, mc ≤ b.1 ∧ ms ≤ b.2 ∧ goD kA pr d mi' 0 (mEnt args (mInf mi').1) [] s (mc, ms) (fun r s' => K r s' (b.1 - mc, b.2 - ms))) X Q (mLook (mOps mi) pc) pc L st s b → X pc L st s b) → X pc L st s b
end
section
/-! Runs of the small machine: monotone, step by step, block by block -/
theorem cond_imp {c : Bool} {A A' : Prop} (h : A → A') : (bif c then A else False) → (bif c then A' else False) := by
  cases c <;> simp
  exact h
theorem mSw_mono {X X' : Nat → Prop} (h : ∀ q, X q → X' q) {pc : Nat} {x : Int} : ∀ (l : List Int) (i : Int), mSw X pc x i l → mSw X' pc x i l
  | [], _, _ => trivial
  | _ :: t, i, h1 => ⟨fun c => h _ (h1.1 c), mSw_mono h t (i + 1) h1.2⟩
theorem mAns_mono {k : Nat} {r : Option mV} {K K' : List mV → Prop} (h : ∀ v, K v → K' v) : mAns k r K → mAns k r K' := by
  unfold mAns aI aL
  repeat' split
  all_goals first | exact h _ | exact id
theorem mInvoke_mono {cl cl' : mCl} {X X' : mX} (hcl : ∀ mi args s b K K', (∀ r s b, K r s b → K' r s b) → cl mi args s b K → cl' mi args s b K') (hX : ∀ pc L st s b, X pc L st s b → X' pc L st s b) {mi : Nat} {args rest : List mV} {pc : Nat} {L : mL} {s : mS} {b : mB} : mInvoke cl X mi args rest pc L s b → mInvoke cl' X' mi args rest pc L s b :=
  cond_imp (hcl _ _ _ _ _ _ (fun _ _ _ => mAns_mono (fun _ => hX _ _ _ _ _)))
set_option maxHeartbeats 4000000 in
theorem stp_mono {kA : mKA} {cl cl' : mCl} {X X' : mX} {Q Q' : Option mV → mS → Prop} (hcl : ∀ mi args s b K K', (∀ r s b, K r s b → K' r s b) → cl mi args s b K → cl' mi args s b K') (hX : ∀ pc L st s b, X pc L st s b → X' pc L st s b) (hQ : ∀ r s, Q r s → Q' r s) {op : mOp} {pc : Nat} {L : mL} {st : List mV} {s : mS} {b : mB} : stp kA cl X Q op pc L st s b → stp kA cl' X' Q' op pc L st s b := by
  obtain ⟨i, a, k, n⟩ := op
  cases i <;> simp only [stp] <;> (repeat' split) <;> first
    | exact id
    | exact hX _ _ _ _ _
    | exact hQ _ _
    | exact fun h => ⟨h.1, hX _ _ _ _ _ h.2⟩
    | exact fun h => ⟨h.1, hQ _ _ h.2⟩
    | exact fun h => ⟨fun c => hX _ _ _ _ _ (h.1 c), fun c => hX _ _ _ _ _ (h.2 c)⟩
    | exact fun h => ⟨h.1, h.2.1, hX _ _ _ _ _ h.2.2⟩
    | exact fun h => ⟨fun c => hX _ _ _ _ _ (h.1 c), mSw_mono (fun q => hX _ _ _ _ _) _ _ h.2⟩
    | exact mInvoke_mono hcl hX
    | exact cond_imp (mInvoke_mono hcl hX)
    | exact cond_imp (hX _ _ _ _ _)
    | exact cond_imp (fun h => ⟨h.1, hX _ _ _ _ _ h.2⟩)
    | (refine cond_imp ?_; (repeat' split) <;> first | exact id | exact hX _ _ _ _ _ | exact fun h => ⟨h.1, hX _ _ _ _ _ h.2⟩)
    | (rintro ⟨h1, h2⟩; refine ⟨h1, ?_⟩; revert h2; (repeat' split) <;> first | exact id | exact hX _ _ _ _ _)
abbrev mPr : Type := List mV → mS → mB → (Option mV → mS → mB → Prop) → Prop
def mCall (kA : mKA) (pr : mPr) (d : Nat) : mCl := fun mi' args s b K => match mi' with
  | 1005 => pr args s b K
  | mi' => ∃ mc ms : Nat, mc ≤ b.1 ∧ ms ≤ b.2 ∧ goD kA pr d mi' 0 (mEnt args (mInf mi').1) [] s (mc, ms) (fun r s' => K r s' (b.1 - mc, b.2 - ms))
def mCall0 (kA : mKA) (pr : mPr) (d : Nat) : mCl := fun mi' args s b K => match mi' with
  | 1005 => pr args s b K
  | mi' => goD kA pr d mi' 0 (mEnt args (mInf mi').1) [] s (0, 0) (fun r s' => K r s' b)
def mPrOk (pr : mPr) : Prop := ∀ args s b K K', (∀ r s b, K r s b → K' r s b) → pr args s b K → pr args s b K'
theorem goD_succ {kA : mKA} {pr : mPr} {d mi pc : Nat} {L : mL} {st : List mV} {s : mS} {b : mB} {Q : Option mV → mS → Prop} : goD kA pr (d + 1) mi pc L st s b Q = ∀ X : mX, (∀ pc L st s b, stp kA (mCall kA pr d) X Q (mLook (mOps mi) pc) pc L st s b → X pc L st s b) → X pc L st s b := rfl
theorem mCall_of {kA : mKA} {pr : mPr} {d : Nat} (hpr : mPrOk pr) (hg : ∀ mi pc L st s b Q Q', (∀ r s, Q r s → Q' r s) → goD kA pr d mi pc L st s b Q → goD kA pr d mi pc L st s b Q') : ∀ mi args s b K K', (∀ r s b, K r s b → K' r s b) → mCall kA pr d mi args s b K → mCall kA pr d mi args s b K' := by
  intro mi args s b K K' h
  unfold mCall
  split
  · exact hpr _ _ _ _ _ h
  · rintro ⟨mc, ms, h1, h2, h3⟩
    exact ⟨mc, ms, h1, h2, hg _ _ _ _ _ _ _ _ (fun r s => h r s _) h3⟩
theorem goD_mono {kA : mKA} {pr : mPr} (hpr : mPrOk pr) : ∀ (d mi pc : Nat) (L : mL) (st : List mV) (s : mS) (b : mB) (Q Q' : Option mV → mS → Prop), (∀ r s, Q r s → Q' r s) → goD kA pr d mi pc L st s b Q → goD kA pr d mi pc L st s b Q' := by
  intro d
  induction d with
  | zero => intro _ _ _ _ _ _ _ _ _ h; exact h
  | succ d ih =>
    intro mi pc L st s b Q Q' hQ h
    rw [goD_succ] at h ⊢
    intro X hX
    refine h X (fun pc L st s b hs => hX _ _ _ _ _ (stp_mono (mCall_of hpr ih) (fun _ _ _ _ _ h => h) hQ hs))
theorem mCall_mono {kA : mKA} {pr : mPr} (hpr : mPrOk pr) (d : Nat) : ∀ mi args s b K K', (∀ r s b, K r s b → K' r s b) → mCall kA pr d mi args s b K → mCall kA pr d mi args s b K' := mCall_of hpr (goD_mono hpr d)
theorem mCall0_to {kA : mKA} {pr : mPr} (hpr : mPrOk pr) (d : Nat) : ∀ mi args s b K K', (∀ r s b, K r s b → K' r s b) → mCall0 kA pr d mi args s b K → mCall kA pr d mi args s b K' := by
  intro mi args s b K K' h
  unfold mCall mCall0
  split
  · exact hpr _ _ _ _ _ h
  · intro h3
    exact ⟨0, 0, Nat.zero_le _, Nat.zero_le _, goD_mono hpr _ _ _ _ _ _ _ _ _ (fun r s => h r s _) h3⟩
theorem goD_step {kA : mKA} {pr : mPr} (hpr : mPrOk pr) {d mi pc : Nat} {L : mL} {st : List mV} {s : mS} {b : mB} {Q : Option mV → mS → Prop} (h : stp kA (mCall kA pr d) (fun pc L st s b => goD kA pr (d + 1) mi pc L st s b Q) Q (mLook (mOps mi) pc) pc L st s b) : goD kA pr (d + 1) mi pc L st s b Q := by
  rw [goD_succ]
  intro X hX
  exact hX _ _ _ _ _ (stp_mono (mCall_mono hpr d) (fun pc L st s b hg => (Eq.mp goD_succ hg) X hX) (fun _ _ h => h) h)
/-- a block: steps up to places where it stops -/
def blk (kA : mKA) (cl : mCl) (stop : Nat → Bool) (mi : Nat) (Q : Option mV → mS → Prop) (X : mX) : Nat → mX
  | 0 => X
  | n + 1 => fun pc L st s b => bif stop pc then X pc L st s b else stp kA cl (blk kA cl stop mi Q X n) Q (mLook (mOps mi) pc) pc L st s b
theorem blk_to {kA : mKA} {pr : mPr} (hpr : mPrOk pr) {d mi : Nat} {stop : Nat → Bool} {Q : Option mV → mS → Prop} : ∀ (n pc : Nat) (L : mL) (st : List mV) (s : mS) (b : mB), blk kA (mCall0 kA pr d) stop mi Q (fun pc L st s b => goD kA pr (d + 1) mi pc L st s b Q) n pc L st s b → goD kA pr (d + 1) mi pc L st s b Q
  | 0, _, _, _, _, _, h => h
  | n + 1, pc, L, st, s, b, h => by
    unfold blk at h
    cases hc : stop pc with
    | true => rw [hc] at h; exact h
    | false =>
      rw [hc] at h
      exact goD_step hpr (stp_mono (mCall0_to hpr d) (blk_to hpr n) (fun _ _ h => h) h)
theorem goD_blk {kA : mKA} {pr : mPr} (hpr : mPrOk pr) {d mi pc : Nat} {L : mL} {st : List mV} {s : mS} {b : mB} {Q : Option mV → mS → Prop} (stop : Nat → Bool) (n : Nat) (h : stp kA (mCall0 kA pr d) (blk kA (mCall0 kA pr d) stop mi Q (fun pc L st s b => goD kA pr (d + 1) mi pc L st s b Q) n) Q (mLook (mOps mi) pc) pc L st s b) : goD kA pr (d + 1) mi pc L st s b Q :=
  goD_step hpr (stp_mono (mCall0_to hpr d) (blk_to hpr n) (fun _ _ h => h) h)
/-- a call at depth d that makes nothing -/
def cal (kA : mKA) (pr : mPr) (d mi : Nat) (args : List mV) (s : mS) (K : Option mV → mS → Prop) : Prop := goD kA pr d mi 0 (mEnt args (mInf mi).1) [] s (0, 0) K
end
section
def S0 : List mSh := [.inl (11, [5, 7, 27, 44, 52, 85, 88, 90, 94, 100, 104]),
  .inl (9, [6, 0, 0, 0, 0, 0]),
  .inr (2, 1000, []),
  .inl (10, [5, 8, 25, 26, 0, 0, 0, 0, 0, 0]),
  .inl (0, [0, 0, 0, 0, 0, 9, 10, 11, 12, 13, 14, 15, 16, 17, 18, 19, 22]),
  .inr (0, 64, []),
  .inr (0, 64, []),
  .inr (0, 7, []),
  .inr (0, 7, []),
  .inr (0, 7, []),
  .inr (0, 7, []),
  .inr (0, 7, []),
  .inr (0, 7, []),
  .inr (0, 6, []),
  .inr (0, 6, []),
  .inl (4, [20, 21, 0]),
  .inr (0, 1000, []),
  .inr (0, 32, []),
  .inl (4, [23, 24, 0]),
  .inr (0, 1000, []),
  .inr (0, 32, []),
  .inr (0, 7, []),
  .inr (0, 7, []),
  .inl (0, [0, 0, 0, 0, 0, 28, 29, 30, 31, 32, 33, 34, 35, 36, 37, 38, 41]),
  .inr (0, 64, []),
  .inr (0, 64, []),
  .inr (0, 7, []),
  .inr (0, 7, []),
  .inr (0, 7, []),
  .inr (0, 7, []),
  .inr (0, 7, []),
  .inr (0, 7, []),
  .inr (0, 6, []),
  .inr (0, 6, []),
  .inl (4, [39, 40, 0]),
  .inr (0, 1000, []),
  .inr (0, 32, []),
  .inl (4, [42, 43, 0]),
  .inr (0, 1000, []),
  .inr (0, 32, []),
  .inl (7, [2, 0, 45, 46, 47, 48, 49, 50, 51]),
  .inr (0, 64, []),
  .inr (0, 7, []),
  .inr (0, 7, []),
  .inr (0, 7, []),
  .inr (0, 7, []),
  .inr (0, 7, []),
  .inr (0, 6, []),
  .inr (4, 4, [53, 61, 69, 77]),
  .inl (7, [2, 0, 54, 55, 56, 57, 58, 59, 60]),
  .inr (0, 64, []),
  .inr (0, 7, []),
  .inr (0, 7, []),
  .inr (0, 7, []),
  .inr (0, 7, []),
  .inr (0, 7, []),
  .inr (0, 6, []),
  .inl (7, [2, 0, 62, 63, 64, 65, 66, 67, 68]),
  .inr (0, 64, []),
  .inr (0, 7, []),
  .inr (0, 7, []),
  .inr (0, 7, []),
  .inr (0, 7, []),
  .inr (0, 7, []),
  .inr (0, 6, []),
  .inl (7, [2, 0, 70, 71, 72, 73, 74, 75, 76]),
  .inr (0, 64, []),
  .inr (0, 7, []),
  .inr (0, 7, []),
  .inr (0, 7, []),
  .inr (0, 7, []),
  .inr (0, 7, []),
  .inr (0, 6, []),
  .inl (7, [2, 0, 78, 79, 80, 81, 82, 83, 84]),
  .inr (0, 64, []),
  .inr (0, 7, []),
  .inr (0, 7, []),
  .inr (0, 7, []),
  .inr (0, 7, []),
  .inr (0, 7, []),
  .inr (0, 6, []),
  .inl (6, [27, 86, 87]),
  .inr (0, 1536, []),
  .inr (0, 7, []),
  .inl (1, [27, 44, 85, 89]),
  .inr (0, 8, []),
  .inl (5, [27, 44, 91, 92, 93]),
  .inr (0, 64, []),
  .inr (0, 7, []),
  .inr (0, 8, []),
  .inl (3, [27, 44, 88, 90, 95, 96, 97, 98, 99, 0, 0, 0]),
  .inr (0, 24, []),
  .inr (0, 64, []),
  .inr (0, 64, []),
  .inr (0, 1600, []),
  .inr (0, 1536, []),
  .inl (2, [27, 44, 85, 88, 101, 102, 103]),
  .inr (3, 5, []),
  .inr (0, 35, []),
  .inr (0, 7, []),
  .inl (8, [27, 44, 85, 88, 105, 106, 107, 0]),
  .inr (0, 49, []),
  .inr (0, 7, []),
  .inr (0, 7, []),
  .inl (12, [0, 109, 0, 0, 110, 111, 112, 0, 0, 113, 114, 115, 116, 0, 117, 0, 0, 2, 118, 119, 120, 121, 122, 123, 124, 125, 126, 127, 128, 129, 130, 0, 2, 1]),
  .inr (0, 1000, []),
  .inr (0, 1002, []),
  .inr (0, 1002, []),
  .inr (1, 1002, []),
  .inr (1, 29, []),
  .inr (0, 2240, []),
  .inr (0, 2200, []),
  .inr (0, 2200, []),
  .inr (1, 7, []),
  .inr (0, 7, []),
  .inr (0, 7, []),
  .inr (0, 1100, []),
  .inr (3, 4, []),
  .inr (0, 8, []),
  .inr (3, 6, []),
  .inr (0, 64, []),
  .inr (0, 7, []),
  .inr (3, 5625, []),
  .inr (3, 5625, []),
  .inr (0, 8, []),
  .inr (0, 7, []),
  .inr (0, 7, []),
  .inr (1, 1, [])]
end
section
/-- a method: its name, its code, what it returns -/
def mMet : Nat → MethodName × (ByteArray × Option FieldType) := fun i => bif Nat.ble i 118 then (bif Nat.ble i 58 then (bif Nat.ble i 28 then (bif Nat.ble i 13 then (bif Nat.ble i 6 then (bif Nat.ble i 2 then (bif Nat.ble i 0 then ((⟨"OneCable$Bay", "<init>", "()V"⟩, prog_2_method_1_code, none)) else (bif Nat.ble i 1 then ((⟨"OneCable$Bay", "clear", "()V"⟩, prog_2_method_2_code, none)) else ((⟨"OneCable$Bay", "whatLies", "(II)I"⟩, prog_2_method_9_code, (some .int))))) else (bif Nat.ble i 4 then (bif Nat.ble i 3 then ((⟨"OneCable$Bay", "hasLink", "(I)Z"⟩, prog_2_method_5_code, (some .boolean))) else ((⟨"OneCable$Bay", "take", "(LOneCable$Bay;)V"⟩, prog_2_method_3_code, none))) else (bif Nat.ble i 5 then ((⟨"OneCable$Bay", "hasBoat", "(I)Z"⟩, prog_2_method_4_code, (some .boolean))) else ((⟨"OneCable$Bay", "holds", "(I)I"⟩, prog_2_method_8_code, (some .int)))))) else (bif Nat.ble i 9 then (bif Nat.ble i 7 then ((⟨"OneCable$Bay", "inside", "(II)Z"⟩, prog_2_method_6_code, (some .boolean))) else (bif Nat.ble i 8 then ((⟨"OneCable$Bay", "open", "(II)Z"⟩, prog_2_method_7_code, (some .boolean))) else ((⟨"OneCable$Cable", "<init>", "(LOneCable$Bay;LOneCable$State;LOneCable$Sea;)V"⟩, prog_3_method_1_code, none)))) else (bif Nat.ble i 11 then (bif Nat.ble i 10 then ((⟨"OneCable$Cable", "first", "(I)I"⟩, prog_3_method_2_code, (some .int))) else ((⟨"OneCable$Cable", "strainNow", "(I)I"⟩, prog_3_method_15_code, (some .int)))) else (bif Nat.ble i 12 then ((⟨"OneCable$Cable", "last", "(I)I"⟩, prog_3_method_3_code, (some .int))) else ((⟨"OneCable$Cable", "weigh", "(IIIIII)V"⟩, prog_3_method_10_code, none)))))) else (bif Nat.ble i 20 then (bif Nat.ble i 16 then (bif Nat.ble i 14 then ((⟨"OneCable$Cable", "load", "(II)V"⟩, prog_3_method_11_code, none)) else (bif Nat.ble i 15 then ((⟨"OneCable$Cable", "strain", "(III)I"⟩, prog_3_method_12_code, (some .int))) else ((⟨"OneCable$Cable", "sail", "()V"⟩, prog_3_method_7_code, none)))) else (bif Nat.ble i 18 then (bif Nat.ble i 17 then ((⟨"OneCable$Cable", "go", "(II)V"⟩, prog_3_method_8_code, none)) else ((⟨"OneCable$Cable", "heldBySlow", "(III)Z"⟩, prog_3_method_6_code, (some .boolean)))) else (bif Nat.ble i 19 then ((⟨"OneCable$Cable", "fits", "(IIII)Z"⟩, prog_3_method_5_code, (some .boolean))) else ((⟨"OneCable$Cable", "tear", "()V"⟩, prog_3_method_9_code, none))))) else (bif Nat.ble i 24 then (bif Nat.ble i 22 then (bif Nat.ble i 21 then ((⟨"OneCable$Cable", "excess", "(III)I"⟩, prog_3_method_13_code, (some .int))) else ((⟨"OneCable$Cable", "anyTears", "(II)Z"⟩, prog_3_method_14_code, (some .boolean)))) else (bif Nat.ble i 23 then ((⟨"OneCable$Cable", "lastLinkNeeds", "(II)I"⟩, prog_3_method_16_code, (some .int))) else ((⟨"OneCable$Cable", "tornInDay", "(I)I"⟩, prog_3_method_17_code, (some .int))))) else (bif Nat.ble i 26 then (bif Nat.ble i 25 then ((⟨"OneCable$Cable", "lostInDay", "(I)I"⟩, prog_3_method_18_code, (some .int))) else ((⟨"OneCable$Cable", "parts", "()I"⟩, prog_3_method_4_code, (some .int)))) else (bif Nat.ble i 27 then ((⟨"OneCable$Council", "<init>", "(LOneCable$Bay;LOneCable$State;LOneCable$Sea;LOneCable$Cable;)V"⟩, prog_4_method_1_code, none)) else ((⟨"OneCable$Council", "hear", "()V"⟩, prog_4_method_2_code, none))))))) else (bif Nat.ble i 43 then (bif Nat.ble i 35 then (bif Nat.ble i 31 then (bif Nat.ble i 29 then ((⟨"OneCable$Council", "wished", "(III)I"⟩, prog_4_method_3_code, (some .int))) else (bif Nat.ble i 30 then ((⟨"OneCable$Council", "bests", "()I"⟩, prog_4_method_5_code, (some .int))) else ((⟨"OneCable$Council", "favoured", "(I)I"⟩, prog_4_method_4_code, (some .int))))) else (bif Nat.ble i 33 then (bif Nat.ble i 32 then ((⟨"OneCable$Council", "gains", "(I)I"⟩, prog_4_method_6_code, (some .int))) else ((⟨"OneCable$Course", "<init>", "(LOneCable$Bay;LOneCable$State;LOneCable$Cable;LOneCable$Nets;)V"⟩, prog_5_method_1_code, none))) else (bif Nat.ble i 34 then ((⟨"OneCable$Course", "find", "(II)I"⟩, prog_5_method_2_code, (some .int))) else ((⟨"OneCable$Course", "sortCells", "(I)V"⟩, prog_5_method_3_code, none))))) else (bif Nat.ble i 39 then (bif Nat.ble i 37 then (bif Nat.ble i 36 then ((⟨"OneCable$Course", "trace", "(II)V"⟩, prog_5_method_6_code, none)) else ((⟨"OneCable$Course", "spread", "(II)V"⟩, prog_5_method_4_code, none))) else (bif Nat.ble i 38 then ((⟨"OneCable$Course", "claim", "(III)Z"⟩, prog_5_method_5_code, (some .boolean))) else ((⟨"OneCable$Law", "<init>", "()V"⟩, prog_6_method_1_code, none)))) else (bif Nat.ble i 41 then (bif Nat.ble i 40 then ((⟨"OneCable$Law", "only", "(I)V"⟩, prog_6_method_3_code, none)) else ((⟨"OneCable$Law", "put", "(I)V"⟩, prog_6_method_2_code, none))) else (bif Nat.ble i 42 then ((⟨"OneCable$Law", "take", "(LOneCable$Law;)V"⟩, prog_6_method_4_code, none)) else ((⟨"OneCable$Law", "value", "([I)I"⟩, prog_6_method_5_code, (some .int))))))) else (bif Nat.ble i 50 then (bif Nat.ble i 46 then (bif Nat.ble i 44 then ((⟨"OneCable$Law", "joined", "(III)I"⟩, prog_6_method_6_code, (some .int))) else (bif Nat.ble i 45 then ((⟨"OneCable$Nets", "<init>", "(LOneCable$Bay;LOneCable$State;)V"⟩, prog_7_method_1_code, none)) else ((⟨"OneCable$Nets", "haul", "(IIII)I"⟩, prog_7_method_2_code, (some .int))))) else (bif Nat.ble i 48 then (bif Nat.ble i 47 then ((⟨"OneCable$Nets", "lift", "(IIII)I"⟩, prog_7_method_3_code, (some .int))) else ((⟨"OneCable$Nets", "sweep", "(III)I"⟩, prog_7_method_4_code, (some .int)))) else (bif Nat.ble i 49 then ((⟨"OneCable$Nets", "sign", "(I)I"⟩, prog_7_method_5_code, (some .int))) else ((⟨"OneCable$Nets", "keep", "()V"⟩, prog_7_method_6_code, none))))) else (bif Nat.ble i 54 then (bif Nat.ble i 52 then (bif Nat.ble i 51 then ((⟨"OneCable$Nets", "fairShare", "(I)I"⟩, prog_7_method_7_code, (some .int))) else ((⟨"OneCable$Sea", "<init>", "(LOneCable$Bay;)V"⟩, prog_8_method_1_code, none))) else (bif Nat.ble i 53 then ((⟨"OneCable$Sea", "forget", "()V"⟩, prog_8_method_2_code, none)) else ((⟨"OneCable$Sea", "force", "(IIIII)I"⟩, prog_8_method_4_code, (some .int))))) else (bif Nat.ble i 56 then (bif Nat.ble i 55 then ((⟨"OneCable$Sea", "swell", "(III)I"⟩, prog_8_method_3_code, (some .int))) else ((⟨"OneCable$State", "<init>", "()V"⟩, prog_9_method_1_code, none))) else (bif Nat.ble i 57 then ((⟨"OneCable$State", "begin", "(LOneCable$Bay;)V"⟩, prog_9_method_2_code, none)) else ((⟨"OneCable$State", "apart", "(I)I"⟩, prog_9_method_4_code, (some .int))))))))) else (bif Nat.ble i 88 then (bif Nat.ble i 73 then (bif Nat.ble i 65 then (bif Nat.ble i 61 then (bif Nat.ble i 59 then ((⟨"OneCable$State", "endHour", "(LOneCable$Bay;)V"⟩, prog_9_method_5_code, none)) else (bif Nat.ble i 60 then ((⟨"OneCable$State", "take", "(LOneCable$State;)V"⟩, prog_9_method_3_code, none)) else ((⟨"OneCable$Storm", "<init>", "(LOneCable$Bay;LOneCable$State;LOneCable$Sea;LOneCable$Cable;)V"⟩, prog_10_method_1_code, none)))) else (bif Nat.ble i 63 then (bif Nat.ble i 62 then ((⟨"OneCable$Storm", "search", "()V"⟩, prog_10_method_2_code, none)) else ((⟨"OneCable$Storm", "lay", "(II)V"⟩, prog_10_method_3_code, none))) else (bif Nat.ble i 64 then ((⟨"OneCable$Storm", "judge", "()V"⟩, prog_10_method_4_code, none)) else ((⟨"OneCable$Tape", "<init>", "()V"⟩, prog_11_method_1_code, none))))) else (bif Nat.ble i 69 then (bif Nat.ble i 67 then (bif Nat.ble i 66 then ((⟨"OneCable$Tape", "put", "(J)V"⟩, prog_11_method_2_code, none)) else ((⟨"OneCable$Tape", "rewind", "()V"⟩, prog_11_method_3_code, none))) else (bif Nat.ble i 68 then ((⟨"OneCable$Tape", "advance", "()V"⟩, prog_11_method_4_code, none)) else ((⟨"OneCable$Tape", "pass", "(CC)V"⟩, prog_11_method_5_code, none)))) else (bif Nat.ble i 71 then (bif Nat.ble i 70 then ((⟨"OneCable$Tape", "wordNumber", "()I"⟩, prog_11_method_7_code, (some .int))) else ((⟨"OneCable$Tape", "digits", "()I"⟩, prog_11_method_6_code, (some .int)))) else (bif Nat.ble i 72 then ((⟨"OneCable$Tape", "isWord", "(I)Z"⟩, prog_11_method_8_code, (some .boolean))) else ((⟨"OneCable$Tape", "isSign", "(C)Z"⟩, prog_11_method_9_code, (some .boolean))))))) else (bif Nat.ble i 80 then (bif Nat.ble i 76 then (bif Nat.ble i 74 then ((⟨"OneCable$Tape", "isAlike", "(II)Z"⟩, prog_11_method_10_code, (some .boolean))) else (bif Nat.ble i 75 then ((⟨"OneCable$Telling", "<init>", "(LOneCable$Tape;)V"⟩, prog_12_method_1_code, none)) else ((⟨"OneCable$Telling", "read", "()I"⟩, prog_12_method_2_code, (some .int))))) else (bif Nat.ble i 78 then (bif Nat.ble i 77 then ((⟨"OneCable$Telling", "bayLine", "()Z"⟩, prog_12_method_5_code, (some .boolean))) else ((⟨"OneCable$Telling", "takeWord", "(I)Z"⟩, prog_12_method_16_code, (some .boolean)))) else (bif Nat.ble i 79 then ((⟨"OneCable$Telling", "fail", "(I)Z"⟩, prog_12_method_3_code, (some .boolean))) else ((⟨"OneCable$Telling", "takeNumber", "(II)Z"⟩, prog_12_method_18_code, (some .boolean)))))) else (bif Nat.ble i 84 then (bif Nat.ble i 82 then (bif Nat.ble i 81 then ((⟨"OneCable$Telling", "seesNumber", "(II)Z"⟩, prog_12_method_19_code, (some .boolean))) else ((⟨"OneCable$Telling", "takeSign", "(C)Z"⟩, prog_12_method_17_code, (some .boolean)))) else (bif Nat.ble i 83 then ((⟨"OneCable$Telling", "line", "()Z"⟩, prog_12_method_4_code, (some .boolean))) else ((⟨"OneCable$Telling", "rockLine", "()Z"⟩, prog_12_method_6_code, (some .boolean))))) else (bif Nat.ble i 86 then (bif Nat.ble i 85 then ((⟨"OneCable$Telling", "takeCell", "(I)Z"⟩, prog_12_method_20_code, (some .boolean))) else ((⟨"OneCable$Telling", "shoalLine", "()Z"⟩, prog_12_method_7_code, (some .boolean)))) else (bif Nat.ble i 87 then ((⟨"OneCable$Telling", "boatLine", "()Z"⟩, prog_12_method_8_code, (some .boolean))) else ((⟨"OneCable$Telling", "takeName", "(I)Z"⟩, prog_12_method_9_code, (some .boolean)))))))) else (bif Nat.ble i 103 then (bif Nat.ble i 95 then (bif Nat.ble i 91 then (bif Nat.ble i 89 then ((⟨"OneCable$Telling", "takeKind", "(I)Z"⟩, prog_12_method_10_code, (some .boolean))) else (bif Nat.ble i 90 then ((⟨"OneCable$Telling", "cableLine", "()Z"⟩, prog_12_method_11_code, (some .boolean))) else ((⟨"OneCable$Telling", "lawLine", "(ILOneCable$Law;)Z"⟩, prog_12_method_12_code, (some .boolean))))) else (bif Nat.ble i 93 then (bif Nat.ble i 92 then ((⟨"OneCable$Telling", "takeOnce", "(I)Z"⟩, prog_12_method_15_code, (some .boolean))) else ((⟨"OneCable$Telling", "takeLaw", "(LOneCable$Law;III)Z"⟩, prog_12_method_21_code, (some .boolean)))) else (bif Nat.ble i 94 then ((⟨"OneCable$Telling", "takePart", "(LOneCable$Law;II)Z"⟩, prog_12_method_23_code, (some .boolean))) else ((⟨"OneCable$Telling", "seesJoiner", "(I)I"⟩, prog_12_method_22_code, (some .int)))))) else (bif Nat.ble i 99 then (bif Nat.ble i 97 then (bif Nat.ble i 96 then ((⟨"OneCable$Telling", "galesLine", "()Z"⟩, prog_12_method_13_code, (some .boolean))) else ((⟨"OneCable$Telling", "looseLine", "()Z"⟩, prog_12_method_14_code, (some .boolean)))) else (bif Nat.ble i 98 then ((⟨"OneCable", "<init>", "()V"⟩, prog_1_method_1_code, none)) else ((⟨"OneCable", "feed", "(JJJ)I"⟩, prog_1_method_2_code, (some .int))))) else (bif Nat.ble i 101 then (bif Nat.ble i 100 then ((⟨"OneCable", "bay", "()I"⟩, prog_1_method_3_code, (some .int))) else ((⟨"OneCable", "boat", "(II)I"⟩, prog_1_method_4_code, (some .int)))) else (bif Nat.ble i 102 then ((⟨"OneCable", "within", "(I)I"⟩, prog_1_method_26_code, (some .int))) else ((⟨"OneCable", "link", "(II)I"⟩, prog_1_method_5_code, (some .int))))))) else (bif Nat.ble i 110 then (bif Nat.ble i 106 then (bif Nat.ble i 104 then ((⟨"OneCable", "cell", "(III)I"⟩, prog_1_method_6_code, (some .int))) else (bif Nat.ble i 105 then ((⟨"OneCable", "boatsAt", "(II)I"⟩, prog_1_method_7_code, (some .int))) else ((⟨"OneCable", "order", "(II)Z"⟩, prog_1_method_8_code, (some .boolean))))) else (bif Nat.ble i 108 then (bif Nat.ble i 107 then ((⟨"OneCable", "hours", "(I)I"⟩, prog_1_method_9_code, (some .int))) else ((⟨"OneCable", "mend", "(I)Z"⟩, prog_1_method_10_code, (some .boolean)))) else (bif Nat.ble i 109 then ((⟨"OneCable", "grip", "(III)I"⟩, prog_1_method_11_code, (some .int))) else ((⟨"OneCable", "soon", "(III)I"⟩, prog_1_method_12_code, (some .int)))))) else (bif Nat.ble i 114 then (bif Nat.ble i 112 then (bif Nat.ble i 111 then ((⟨"OneCable", "wish", "(II)I"⟩, prog_1_method_13_code, (some .int))) else ((⟨"OneCable", "chosen", "(Z)I"⟩, prog_1_method_14_code, (some .int)))) else (bif Nat.ble i 113 then ((⟨"OneCable", "canGet", "(I)I"⟩, prog_1_method_15_code, (some .int))) else ((⟨"OneCable", "worth", "(II)I"⟩, prog_1_method_16_code, (some .int))))) else (bif Nat.ble i 116 then (bif Nat.ble i 115 then ((⟨"OneCable", "share", "(II)Z"⟩, prog_1_method_17_code, (some .boolean))) else ((⟨"OneCable", "leaves", "()I"⟩, prog_1_method_18_code, (some .int)))) else (bif Nat.ble i 117 then ((⟨"OneCable", "fair", "(I)I"⟩, prog_1_method_19_code, (some .int))) else ((⟨"OneCable", "join", "(III)I"⟩, prog_1_method_21_code, (some .int)))))))))) else (bif Nat.ble i 177 then (bif Nat.ble i 147 then (bif Nat.ble i 132 then (bif Nat.ble i 125 then (bif Nat.ble i 121 then (bif Nat.ble i 119 then ((⟨"OneCable", "seasons", "(III)I"⟩, prog_1_method_22_code, (some .int))) else (bif Nat.ble i 120 then ((⟨"OneCable", "mark", "(IZ)Z"⟩, prog_1_method_23_code, (some .boolean))) else ((⟨"OneCable", "count", "(I)I"⟩, prog_1_method_24_code, (some .int))))) else (bif Nat.ble i 123 then (bif Nat.ble i 122 then ((⟨"OneCable", "sum", "([II)I"⟩, prog_1_method_25_code, (some .int))) else ((⟨"OneCable", "storm", "(I)I"⟩, prog_1_method_20_code, (some .int)))) else (bif Nat.ble i 124 then ((⟨"OneCableModel", "thrown", "()I"⟩, prog_14_method_1_code, (some .int))) else ((⟨"OneCableModel", "feed", "(JJJ)I"⟩, prog_14_method_2_code, (some .int)))))) else (bif Nat.ble i 128 then (bif Nat.ble i 126 then ((⟨"OneCableModel", "lay", "(J)V"⟩, prog_14_method_3_code, none)) else (bif Nat.ble i 127 then ((⟨"OneCableModel", "<init>", "()V"⟩, prog_14_method_4_code, none)) else ((⟨"OneCableModel", "standsAsAlways", "(I)V"⟩, prog_14_method_18_code, none)))) else (bif Nat.ble i 130 then (bif Nat.ble i 129 then ((⟨"OneCableModel", "bay", "()I"⟩, prog_14_method_23_code, (some .int))) else ((⟨"OneCableModel", "cutAll", "()V"⟩, prog_14_method_9_code, none))) else (bif Nat.ble i 131 then ((⟨"OneCableModel", "isLetter", "(I)Z"⟩, prog_14_method_5_code, (some .boolean))) else ((⟨"OneCableModel", "rank", "(I)I"⟩, prog_14_method_7_code, (some .int))))))) else (bif Nat.ble i 139 then (bif Nat.ble i 135 then (bif Nat.ble i 133 then ((⟨"OneCableModel", "isDigit", "(I)Z"⟩, prog_14_method_6_code, (some .boolean))) else (bif Nat.ble i 134 then ((⟨"OneCableModel", "isSignOf", "(I)Z"⟩, prog_14_method_8_code, (some .boolean))) else ((⟨"OneCableModel", "takeWord", "(I)V"⟩, prog_14_method_16_code, none)))) else (bif Nat.ble i 137 then (bif Nat.ble i 136 then ((⟨"OneCableModel", "hasWord", "(I)Z"⟩, prog_14_method_15_code, (some .boolean))) else ((⟨"OneCableModel", "isWord", "(I)Z"⟩, prog_14_method_12_code, (some .boolean)))) else (bif Nat.ble i 138 then ((⟨"OneCableModel", "wrong", "(I)V"⟩, prog_14_method_10_code, none)) else ((⟨"OneCableModel", "takeNumber", "(II)I"⟩, prog_14_method_20_code, (some .int)))))) else (bif Nat.ble i 143 then (bif Nat.ble i 141 then (bif Nat.ble i 140 then ((⟨"OneCableModel", "takeSign", "(I)V"⟩, prog_14_method_13_code, none)) else ((⟨"OneCableModel", "isSign", "(I)Z"⟩, prog_14_method_11_code, (some .boolean)))) else (bif Nat.ble i 142 then ((⟨"OneCableModel", "readLine", "()V"⟩, prog_14_method_24_code, none)) else ((⟨"OneCableModel", "readCell", "()V"⟩, prog_14_method_26_code, none)))) else (bif Nat.ble i 145 then (bif Nat.ble i 144 then ((⟨"OneCableModel", "takeCell", "(I)I"⟩, prog_14_method_25_code, (some .int))) else ((⟨"OneCableModel", "takeAfter", "(III)I"⟩, prog_14_method_21_code, (some .int)))) else (bif Nat.ble i 146 then ((⟨"OneCableModel", "readBoat", "()V"⟩, prog_14_method_27_code, none)) else ((⟨"OneCableModel", "isName", "()Z"⟩, prog_14_method_22_code, (some .boolean)))))))) else (bif Nat.ble i 162 then (bif Nat.ble i 154 then (bif Nat.ble i 150 then (bif Nat.ble i 148 then ((⟨"OneCableModel", "readCable", "()V"⟩, prog_14_method_28_code, none)) else (bif Nat.ble i 149 then ((⟨"OneCableModel", "readOnce", "()V"⟩, prog_14_method_29_code, none)) else ((⟨"OneCableModel", "all", "(I)V"⟩, prog_14_method_31_code, none)))) else (bif Nat.ble i 152 then (bif Nat.ble i 151 then ((⟨"OneCableModel", "test", "(I)V"⟩, prog_14_method_32_code, none)) else ((⟨"OneCableModel", "sums", "(I)V"⟩, prog_14_method_33_code, none))) else (bif Nat.ble i 153 then ((⟨"OneCableModel", "products", "(I)V"⟩, prog_14_method_34_code, none)) else ((⟨"OneCableModel", "takePart", "(I)V"⟩, prog_14_method_35_code, none))))) else (bif Nat.ble i 158 then (bif Nat.ble i 156 then (bif Nat.ble i 155 then ((⟨"OneCableModel", "emit", "(II)V"⟩, prog_14_method_30_code, none)) else ((⟨"OneCableModel", "hasSign", "(I)Z"⟩, prog_14_method_14_code, (some .boolean)))) else (bif Nat.ble i 157 then ((⟨"OneCableModel", "carry", "(II)V"⟩, prog_14_method_19_code, none)) else ((⟨"OneCableModel", "links", "()I"⟩, prog_14_method_39_code, (some .int))))) else (bif Nat.ble i 160 then (bif Nat.ble i 159 then ((⟨"OneCableModel", "boats", "()I"⟩, prog_14_method_38_code, (some .int))) else ((⟨"OneCableModel", "apart", "(I)I"⟩, prog_14_method_46_code, (some .int)))) else (bif Nat.ble i 161 then ((⟨"OneCableModel", "of", "(II)I"⟩, prog_14_method_44_code, (some .int))) else ((⟨"OneCableModel", "steps", "(II)I"⟩, prog_14_method_45_code, (some .int))))))) else (bif Nat.ble i 169 then (bif Nat.ble i 165 then (bif Nat.ble i 163 then ((⟨"OneCableModel", "boat", "(II)I"⟩, prog_14_method_58_code, (some .int))) else (bif Nat.ble i 164 then ((⟨"OneCableModel", "isBoat", "(I)Z"⟩, prog_14_method_40_code, (some .boolean))) else ((⟨"OneCableModel", "holds", "(I)I"⟩, prog_14_method_54_code, (some .int))))) else (bif Nat.ble i 167 then (bif Nat.ble i 166 then ((⟨"OneCableModel", "forceAt", "(IIIII)I"⟩, prog_14_method_53_code, (some .int))) else ((⟨"OneCableModel", "swellAt", "(IIII)I"⟩, prog_14_method_51_code, (some .int)))) else (bif Nat.ble i 168 then ((⟨"OneCableModel", "worthAt", "(I)I"⟩, prog_14_method_36_code, (some .int))) else ((⟨"OneCableModel", "both", "(III)I"⟩, prog_14_method_37_code, (some .int)))))) else (bif Nat.ble i 173 then (bif Nat.ble i 171 then (bif Nat.ble i 170 then ((⟨"OneCableModel", "pullOf", "(I)I"⟩, prog_14_method_52_code, (some .int))) else ((⟨"OneCableModel", "firstOf", "(I)I"⟩, prog_14_method_49_code, (some .int)))) else (bif Nat.ble i 172 then ((⟨"OneCableModel", "isTorn", "(I)Z"⟩, prog_14_method_47_code, (some .boolean))) else ((⟨"OneCableModel", "link", "(II)I"⟩, prog_14_method_59_code, (some .int))))) else (bif Nat.ble i 175 then (bif Nat.ble i 174 then ((⟨"OneCableModel", "isLink", "(I)Z"⟩, prog_14_method_41_code, (some .boolean))) else ((⟨"OneCableModel", "within", "(III)Z"⟩, prog_14_method_17_code, (some .boolean)))) else (bif Nat.ble i 176 then ((⟨"OneCableModel", "findForces", "(IIII)V"⟩, prog_14_method_55_code, none)) else ((⟨"OneCableModel", "lastOf", "(I)I"⟩, prog_14_method_50_code, (some .int))))))))) else (bif Nat.ble i 207 then (bif Nat.ble i 192 then (bif Nat.ble i 184 then (bif Nat.ble i 180 then (bif Nat.ble i 178 then ((⟨"OneCableModel", "strain", "(III)I"⟩, prog_14_method_56_code, (some .int))) else (bif Nat.ble i 179 then ((⟨"OneCableModel", "cell", "(III)I"⟩, prog_14_method_60_code, (some .int))) else ((⟨"OneCableModel", "isIn", "(II)Z"⟩, prog_14_method_42_code, (some .boolean))))) else (bif Nat.ble i 182 then (bif Nat.ble i 181 then ((⟨"OneCableModel", "order", "(II)Z"⟩, prog_14_method_63_code, (some .boolean))) else ((⟨"OneCableModel", "hours", "(I)I"⟩, prog_14_method_71_code, (some .int)))) else (bif Nat.ble i 183 then ((⟨"OneCableModel", "passes", "()V"⟩, prog_14_method_70_code, none)) else ((⟨"OneCableModel", "goesAll", "()V"⟩, prog_14_method_65_code, none))))) else (bif Nat.ble i 188 then (bif Nat.ble i 186 then (bif Nat.ble i 185 then ((⟨"OneCableModel", "canGo", "(IIIIII)Z"⟩, prog_14_method_64_code, (some .boolean))) else ((⟨"OneCableModel", "stepX", "(I)I"⟩, prog_14_method_61_code, (some .int)))) else (bif Nat.ble i 187 then ((⟨"OneCableModel", "stepY", "(I)I"⟩, prog_14_method_62_code, (some .int))) else ((⟨"OneCableModel", "isWater", "(II)Z"⟩, prog_14_method_43_code, (some .boolean))))) else (bif Nat.ble i 190 then (bif Nat.ble i 189 then ((⟨"OneCableModel", "tearsAll", "()V"⟩, prog_14_method_66_code, none)) else ((⟨"OneCableModel", "wouldTear", "(I)Z"⟩, prog_14_method_57_code, (some .boolean)))) else (bif Nat.ble i 191 then ((⟨"OneCableModel", "strongOf", "(I)I"⟩, prog_14_method_48_code, (some .int))) else ((⟨"OneCableModel", "catches", "(IIII)I"⟩, prog_14_method_68_code, (some .int))))))) else (bif Nat.ble i 199 then (bif Nat.ble i 195 then (bif Nat.ble i 193 then ((⟨"OneCableModel", "takes", "(IIII)V"⟩, prog_14_method_67_code, none)) else (bif Nat.ble i 194 then ((⟨"OneCableModel", "sweeps", "(III)V"⟩, prog_14_method_69_code, none)) else ((⟨"OneCableModel", "mend", "(I)Z"⟩, prog_14_method_72_code, (some .boolean))))) else (bif Nat.ble i 197 then (bif Nat.ble i 196 then ((⟨"OneCableModel", "grip", "(III)I"⟩, prog_14_method_74_code, (some .int))) else ((⟨"OneCableModel", "canBe", "(IIII)Z"⟩, prog_14_method_73_code, (some .boolean)))) else (bif Nat.ble i 198 then ((⟨"OneCableModel", "soon", "(III)I"⟩, prog_14_method_79_code, (some .int))) else ((⟨"OneCableModel", "findSoon", "(III)I"⟩, prog_14_method_77_code, (some .int)))))) else (bif Nat.ble i 203 then (bif Nat.ble i 201 then (bif Nat.ble i 200 then ((⟨"OneCableModel", "isGoal", "(IIII)Z"⟩, prog_14_method_76_code, (some .boolean))) else ((⟨"OneCableModel", "behind", "(IIIII)I"⟩, prog_14_method_75_code, (some .int)))) else (bif Nat.ble i 202 then ((⟨"OneCableModel", "findLeads", "(IIII)V"⟩, prog_14_method_78_code, none)) else ((⟨"OneCableModel", "wish", "(II)I"⟩, prog_14_method_82_code, (some .int))))) else (bif Nat.ble i 205 then (bif Nat.ble i 204 then ((⟨"OneCableModel", "canAll", "(I)Z"⟩, prog_14_method_80_code, (some .boolean))) else ((⟨"OneCableModel", "wishOf", "(II)I"⟩, prog_14_method_81_code, (some .int)))) else (bif Nat.ble i 206 then ((⟨"OneCableModel", "chosen", "(Z)I"⟩, prog_14_method_86_code, (some .int))) else ((⟨"OneCableModel", "isAnyBest", "(I)Z"⟩, prog_14_method_85_code, (some .boolean)))))))) else (bif Nat.ble i 222 then (bif Nat.ble i 214 then (bif Nat.ble i 210 then (bif Nat.ble i 208 then ((⟨"OneCableModel", "isBestOf", "(II)Z"⟩, prog_14_method_84_code, (some .boolean))) else (bif Nat.ble i 209 then ((⟨"OneCableModel", "sumFor", "(II)I"⟩, prog_14_method_83_code, (some .int))) else ((⟨"OneCableModel", "canGet", "(I)I"⟩, prog_14_method_87_code, (some .int))))) else (bif Nat.ble i 212 then (bif Nat.ble i 211 then ((⟨"OneCableModel", "worth", "(II)I"⟩, prog_14_method_89_code, (some .int))) else ((⟨"OneCableModel", "isRun", "(II)Z"⟩, prog_14_method_88_code, (some .boolean)))) else (bif Nat.ble i 213 then ((⟨"OneCableModel", "share", "(II)Z"⟩, prog_14_method_90_code, (some .boolean))) else ((⟨"OneCableModel", "leaves", "()I"⟩, prog_14_method_91_code, (some .int)))))) else (bif Nat.ble i 218 then (bif Nat.ble i 216 then (bif Nat.ble i 215 then ((⟨"OneCableModel", "fair", "(I)I"⟩, prog_14_method_92_code, (some .int))) else ((⟨"OneCableModel", "storm", "(I)I"⟩, prog_14_method_95_code, (some .int)))) else (bif Nat.ble i 217 then ((⟨"OneCableModel", "tries", "(II)V"⟩, prog_14_method_94_code, none)) else ((⟨"OneCableModel", "over", "()I"⟩, prog_14_method_93_code, (some .int))))) else (bif Nat.ble i 220 then (bif Nat.ble i 219 then ((⟨"OneCableModel", "join", "(III)I"⟩, prog_14_method_96_code, (some .int))) else ((⟨"OneCableModel", "seasons", "(III)I"⟩, prog_14_method_98_code, (some .int)))) else (bif Nat.ble i 221 then ((⟨"OneCableModel", "draw", "(I)I"⟩, prog_14_method_97_code, (some .int))) else ((⟨"OneCableModel", "mark", "(IZ)Z"⟩, prog_14_method_99_code, (some .boolean))))))) else (bif Nat.ble i 229 then (bif Nat.ble i 225 then (bif Nat.ble i 223 then ((⟨"OneCableModel", "count", "(I)I"⟩, prog_14_method_100_code, (some .int))) else (bif Nat.ble i 224 then ((⟨"java/util/Arrays", "fill", "([II)V"⟩, prog_29_method_103_code, none)) else ((⟨"java/lang/String", "charAt", "(I)C"⟩, prog_22_method_56_code, (some .char))))) else (bif Nat.ble i 227 then (bif Nat.ble i 226 then ((⟨"java/lang/String", "isLatin1", "()Z"⟩, prog_22_method_154_code, (some .boolean))) else ((⟨"java/lang/StringLatin1", "charAt", "([BI)C"⟩, prog_23_method_2_code, (some .char)))) else (bif Nat.ble i 228 then ((⟨"java/lang/String", "checkIndex", "(II)V"⟩, prog_22_method_155_code, none)) else ((⟨"jdk/internal/util/Preconditions", "checkIndex", "(IILjava/util/function/BiFunction;)I"⟩, prog_31_method_11_code, (some .int)))))) else (bif Nat.ble i 233 then (bif Nat.ble i 231 then (bif Nat.ble i 230 then ((⟨"java/lang/String", "indexOf", "(I)I"⟩, prog_22_method_79_code, (some .int))) else ((⟨"java/lang/String", "indexOf", "(II)I"⟩, prog_22_method_80_code, (some .int)))) else (bif Nat.ble i 232 then ((⟨"java/lang/String", "length", "()I"⟩, prog_22_method_54_code, (some .int))) else ((⟨"java/lang/String", "coder", "()B"⟩, prog_22_method_152_code, (some .byte))))) else (bif Nat.ble i 235 then (bif Nat.ble i 234 then ((⟨"java/lang/StringLatin1", "indexOf", "([BIII)I"⟩, prog_23_method_22_code, (some .int))) else ((⟨"java/lang/StringLatin1", "canEncode", "(I)Z"⟩, prog_23_method_4_code, (some .boolean)))) else (bif Nat.ble i 236 then ((⟨"java/lang/StringLatin1", "indexOfChar", "([BIII)I"⟩, prog_23_method_23_code, (some .int))) else ((⟨"OneCableLaw", "law", "([I)Z"⟩, code, (some .boolean))))))))))
/-- places of its words: its code, static or of an object, its selection, its class is ready -/
def mPos : Nat → Nat × (Nat × (Nat × Nat)) := fun i => bif Nat.ble i 118 then (bif Nat.ble i 58 then (bif Nat.ble i 28 then (bif Nat.ble i 13 then (bif Nat.ble i 6 then (bif Nat.ble i 2 then (bif Nat.ble i 0 then ((1075, 1074, 0, 1004)) else (bif Nat.ble i 1 then ((1098, 1096, 1097, 1004)) else ((3225, 3223, 3224, 1004)))) else (bif Nat.ble i 4 then (bif Nat.ble i 3 then ((4013, 4011, 4012, 1004)) else ((4046, 4044, 4045, 1004))) else (bif Nat.ble i 5 then ((4076, 4074, 4075, 1004)) else ((4080, 4078, 4079, 1004))))) else (bif Nat.ble i 9 then (bif Nat.ble i 7 then ((4142, 4140, 4141, 1004)) else (bif Nat.ble i 8 then ((4179, 4177, 4178, 1004)) else ((2092, 2091, 0, 1009)))) else (bif Nat.ble i 11 then (bif Nat.ble i 10 then ((4106, 4104, 4105, 1009)) else ((4115, 4113, 4114, 1009))) else (bif Nat.ble i 12 then ((4120, 4118, 4119, 1009)) else ((4124, 4122, 4123, 1009)))))) else (bif Nat.ble i 20 then (bif Nat.ble i 16 then (bif Nat.ble i 14 then ((4129, 4127, 4128, 1009)) else (bif Nat.ble i 15 then ((4133, 4131, 4132, 1009)) else ((4159, 4157, 4158, 1009)))) else (bif Nat.ble i 18 then (bif Nat.ble i 17 then ((4163, 4162, 25, 1009)) else ((4167, 4165, 4166, 1009))) else (bif Nat.ble i 19 then ((4175, 4173, 4174, 1009)) else ((4184, 4182, 4183, 1009))))) else (bif Nat.ble i 24 then (bif Nat.ble i 22 then (bif Nat.ble i 21 then ((4188, 4186, 4187, 1009)) else ((5025, 5023, 5024, 1009))) else (bif Nat.ble i 23 then ((5099, 5097, 5098, 1009)) else ((5111, 5109, 5110, 1009)))) else (bif Nat.ble i 26 then (bif Nat.ble i 25 then ((5116, 5114, 5115, 1009)) else ((5133, 5131, 5132, 1009))) else (bif Nat.ble i 27 then ((2178, 2177, 0, 1012)) else ((5033, 5031, 5032, 1012))))))) else (bif Nat.ble i 43 then (bif Nat.ble i 35 then (bif Nat.ble i 31 then (bif Nat.ble i 29 then ((5040, 5039, 32, 1012)) else (bif Nat.ble i 30 then ((5053, 5051, 5052, 1012)) else ((5057, 5055, 5056, 1012)))) else (bif Nat.ble i 33 then (bif Nat.ble i 32 then ((5065, 5063, 5064, 1012)) else ((2134, 2133, 0, 1011))) else (bif Nat.ble i 34 then ((4235, 4233, 4234, 1011)) else ((5001, 5000, 28, 1011))))) else (bif Nat.ble i 39 then (bif Nat.ble i 37 then (bif Nat.ble i 36 then ((5008, 5007, 29, 1011)) else ((5014, 5013, 30, 1011))) else (bif Nat.ble i 38 then ((5019, 5018, 31, 1011)) else ((1081, 1080, 0, 1005)))) else (bif Nat.ble i 41 then (bif Nat.ble i 40 then ((1105, 1103, 1104, 1005)) else ((1109, 1107, 1108, 1005))) else (bif Nat.ble i 42 then ((4053, 4051, 4052, 1005)) else ((4092, 4090, 4091, 1005)))))) else (bif Nat.ble i 50 then (bif Nat.ble i 46 then (bif Nat.ble i 44 then ((4095, 4094, 0, 1005)) else (bif Nat.ble i 45 then ((2112, 2111, 0, 1010)) else ((4192, 4190, 4191, 1010)))) else (bif Nat.ble i 48 then (bif Nat.ble i 47 then ((4198, 4197, 26, 1010)) else ((4203, 4202, 27, 1010))) else (bif Nat.ble i 49 then ((4206, 4205, 0, 1010)) else ((4211, 4209, 4210, 1010))))) else (bif Nat.ble i 54 then (bif Nat.ble i 52 then (bif Nat.ble i 51 then ((5086, 5084, 5085, 1010)) else ((2071, 2070, 0, 1008))) else (bif Nat.ble i 53 then ((2076, 2074, 2075, 1008)) else ((4084, 4082, 4083, 1008)))) else (bif Nat.ble i 56 then (bif Nat.ble i 55 then ((4088, 4086, 4087, 1008)) else ((2007, 2006, 0, 1007))) else (bif Nat.ble i 57 then ((4059, 4057, 4058, 1007)) else ((4065, 4063, 4064, 1007)))))))) else (bif Nat.ble i 88 then (bif Nat.ble i 73 then (bif Nat.ble i 65 then (bif Nat.ble i 61 then (bif Nat.ble i 59 then ((4215, 4213, 4214, 1007)) else (bif Nat.ble i 60 then ((5125, 5123, 5124, 1007)) else ((2209, 2208, 0, 1013)))) else (bif Nat.ble i 63 then (bif Nat.ble i 62 then ((5209, 5207, 5208, 1013)) else ((5215, 5214, 34, 1013))) else (bif Nat.ble i 64 then ((5219, 5218, 35, 1013)) else ((1038, 1037, 0, 1002))))) else (bif Nat.ble i 69 then (bif Nat.ble i 67 then (bif Nat.ble i 66 then ((3039, 3037, 3038, 1002)) else ((3052, 3050, 3051, 1002))) else (bif Nat.ble i 68 then ((3056, 3054, 3055, 1002)) else ((3060, 3059, 0, 1002)))) else (bif Nat.ble i 71 then (bif Nat.ble i 70 then ((3064, 3063, 1, 1002)) else ((3109, 3108, 2, 1002))) else (bif Nat.ble i 72 then ((3188, 3186, 3187, 1002)) else ((3209, 3207, 3208, 1002)))))) else (bif Nat.ble i 80 then (bif Nat.ble i 76 then (bif Nat.ble i 74 then ((4001, 3239, 4000, 1002)) else (bif Nat.ble i 75 then ((1069, 1068, 0, 1003)) else ((3047, 3045, 3046, 1003)))) else (bif Nat.ble i 78 then (bif Nat.ble i 77 then ((3180, 3179, 3, 1003)) else ((3184, 3183, 4, 1003))) else (bif Nat.ble i 79 then ((3192, 3191, 5, 1003)) else ((3197, 3196, 6, 1003))))) else (bif Nat.ble i 84 then (bif Nat.ble i 82 then (bif Nat.ble i 81 then ((3201, 3200, 7, 1003)) else ((3205, 3204, 8, 1003))) else (bif Nat.ble i 83 then ((3213, 3212, 9, 1003)) else ((3217, 3216, 10, 1003)))) else (bif Nat.ble i 86 then (bif Nat.ble i 85 then ((3221, 3220, 11, 1003)) else ((3229, 3228, 12, 1003))) else (bif Nat.ble i 87 then ((3233, 3232, 13, 1003)) else ((3237, 3236, 14, 1003))))))) else (bif Nat.ble i 103 then (bif Nat.ble i 95 then (bif Nat.ble i 91 then (bif Nat.ble i 89 then ((4005, 4004, 15, 1003)) else (bif Nat.ble i 90 then ((4009, 4008, 16, 1003)) else ((4017, 4016, 17, 1003)))) else (bif Nat.ble i 93 then (bif Nat.ble i 92 then ((4021, 4020, 18, 1003)) else ((4025, 4024, 19, 1003))) else (bif Nat.ble i 94 then ((4029, 4028, 20, 1003)) else ((4034, 4033, 21, 1003))))) else (bif Nat.ble i 99 then (bif Nat.ble i 97 then (bif Nat.ble i 96 then ((4038, 4037, 22, 1003)) else ((4042, 4041, 23, 1003))) else (bif Nat.ble i 98 then ((1030, 1029, 0, 1001)) else ((3035, 3033, 3034, 1001)))) else (bif Nat.ble i 101 then (bif Nat.ble i 100 then ((3043, 3041, 3042, 1001)) else ((4072, 4070, 4071, 1001))) else (bif Nat.ble i 102 then ((4098, 4097, 0, 1001)) else ((4110, 4108, 4109, 1001)))))) else (bif Nat.ble i 110 then (bif Nat.ble i 106 then (bif Nat.ble i 104 then ((4138, 4136, 4137, 1001)) else (bif Nat.ble i 105 then ((4147, 4146, 24, 1001)) else ((4151, 4149, 4150, 1001)))) else (bif Nat.ble i 108 then (bif Nat.ble i 107 then ((4155, 4153, 4154, 1001)) else ((4220, 4218, 4219, 1001))) else (bif Nat.ble i 109 then ((4225, 4223, 4224, 1001)) else ((4231, 4229, 4230, 1001))))) else (bif Nat.ble i 114 then (bif Nat.ble i 112 then (bif Nat.ble i 111 then ((5029, 5027, 5028, 1001)) else ((5049, 5047, 5048, 1001))) else (bif Nat.ble i 113 then ((5061, 5059, 5060, 1001)) else ((5070, 5068, 5069, 1001)))) else (bif Nat.ble i 116 then (bif Nat.ble i 115 then ((5074, 5072, 5073, 1001)) else ((5078, 5076, 5077, 1001))) else (bif Nat.ble i 117 then ((5082, 5080, 5081, 1001)) else ((5092, 5090, 5091, 1001))))))))) else (bif Nat.ble i 177 then (bif Nat.ble i 147 then (bif Nat.ble i 132 then (bif Nat.ble i 125 then (bif Nat.ble i 121 then (bif Nat.ble i 119 then ((5103, 5101, 5102, 1001)) else (bif Nat.ble i 120 then ((5121, 5119, 5120, 1001)) else ((5129, 5127, 5128, 1001)))) else (bif Nat.ble i 123 then (bif Nat.ble i 122 then ((5136, 5135, 0, 1001)) else ((5144, 5142, 5143, 1001))) else (bif Nat.ble i 124 then ((5228, 5226, 5227, 1014)) else ((5232, 5230, 5231, 1014))))) else (bif Nat.ble i 128 then (bif Nat.ble i 126 then ((5237, 5235, 36, 1014)) else (bif Nat.ble i 127 then ((6001, 6000, 0, 1014)) else ((6035, 6034, 37, 1014)))) else (bif Nat.ble i 130 then (bif Nat.ble i 129 then ((6143, 6141, 6142, 1014)) else ((6147, 6146, 38, 1014))) else (bif Nat.ble i 131 then ((6150, 6149, 0, 1014)) else ((6154, 6153, 0, 1014)))))) else (bif Nat.ble i 139 then (bif Nat.ble i 135 then (bif Nat.ble i 133 then ((6157, 6156, 0, 1014)) else (bif Nat.ble i 134 then ((6162, 6161, 0, 1014)) else ((6166, 6165, 39, 1014)))) else (bif Nat.ble i 137 then (bif Nat.ble i 136 then ((6170, 6169, 40, 1014)) else ((6174, 6173, 41, 1014))) else (bif Nat.ble i 138 then ((6178, 6177, 42, 1014)) else ((6182, 6181, 43, 1014))))) else (bif Nat.ble i 143 then (bif Nat.ble i 141 then (bif Nat.ble i 140 then ((6186, 6185, 44, 1014)) else ((6190, 6189, 45, 1014))) else (bif Nat.ble i 142 then ((6194, 6193, 46, 1014)) else ((6198, 6197, 47, 1014)))) else (bif Nat.ble i 145 then (bif Nat.ble i 144 then ((6202, 6201, 48, 1014)) else ((6206, 6205, 49, 1014))) else (bif Nat.ble i 146 then ((6210, 6209, 50, 1014)) else ((6214, 6213, 51, 1014))))))) else (bif Nat.ble i 162 then (bif Nat.ble i 154 then (bif Nat.ble i 150 then (bif Nat.ble i 148 then ((6218, 6217, 52, 1014)) else (bif Nat.ble i 149 then ((6222, 6221, 53, 1014)) else ((6226, 6225, 54, 1014)))) else (bif Nat.ble i 152 then (bif Nat.ble i 151 then ((6230, 6229, 55, 1014)) else ((6234, 6233, 56, 1014))) else (bif Nat.ble i 153 then ((6238, 6237, 57, 1014)) else ((7002, 7001, 58, 1014))))) else (bif Nat.ble i 158 then (bif Nat.ble i 156 then (bif Nat.ble i 155 then ((7006, 7005, 59, 1014)) else ((7010, 7009, 60, 1014))) else (bif Nat.ble i 157 then ((7014, 7013, 61, 1014)) else ((7018, 7017, 62, 1014)))) else (bif Nat.ble i 160 then (bif Nat.ble i 159 then ((7022, 7021, 63, 1014)) else ((7026, 7025, 64, 1014))) else (bif Nat.ble i 161 then ((7030, 7029, 65, 1014)) else ((7033, 7032, 0, 1014)))))) else (bif Nat.ble i 169 then (bif Nat.ble i 165 then (bif Nat.ble i 163 then ((7037, 7035, 7036, 1014)) else (bif Nat.ble i 164 then ((7041, 7040, 66, 1014)) else ((7045, 7044, 67, 1014)))) else (bif Nat.ble i 167 then (bif Nat.ble i 166 then ((7049, 7048, 68, 1014)) else ((7053, 7052, 69, 1014))) else (bif Nat.ble i 168 then ((7057, 7056, 70, 1014)) else ((7060, 7059, 0, 1014))))) else (bif Nat.ble i 173 then (bif Nat.ble i 171 then (bif Nat.ble i 170 then ((7064, 7063, 71, 1014)) else ((7068, 7067, 72, 1014))) else (bif Nat.ble i 172 then ((7072, 7071, 73, 1014)) else ((7076, 7074, 7075, 1014)))) else (bif Nat.ble i 175 then (bif Nat.ble i 174 then ((7080, 7079, 74, 1014)) else ((7083, 7082, 0, 1014))) else (bif Nat.ble i 176 then ((7087, 7086, 75, 1014)) else ((7091, 7090, 76, 1014)))))))) else (bif Nat.ble i 207 then (bif Nat.ble i 192 then (bif Nat.ble i 184 then (bif Nat.ble i 180 then (bif Nat.ble i 178 then ((7095, 7094, 77, 1014)) else (bif Nat.ble i 179 then ((7099, 7097, 7098, 1014)) else ((7103, 7102, 78, 1014)))) else (bif Nat.ble i 182 then (bif Nat.ble i 181 then ((7107, 7105, 7106, 1014)) else ((7111, 7109, 7110, 1014))) else (bif Nat.ble i 183 then ((7115, 7114, 79, 1014)) else ((7119, 7118, 80, 1014))))) else (bif Nat.ble i 188 then (bif Nat.ble i 186 then (bif Nat.ble i 185 then ((7123, 7122, 81, 1014)) else ((7126, 7125, 0, 1014))) else (bif Nat.ble i 187 then ((7129, 7128, 0, 1014)) else ((7133, 7132, 82, 1014)))) else (bif Nat.ble i 190 then (bif Nat.ble i 189 then ((7137, 7136, 83, 1014)) else ((7141, 7140, 84, 1014))) else (bif Nat.ble i 191 then ((7145, 7144, 85, 1014)) else ((7149, 7148, 86, 1014)))))) else (bif Nat.ble i 199 then (bif Nat.ble i 195 then (bif Nat.ble i 193 then ((7153, 7152, 87, 1014)) else (bif Nat.ble i 194 then ((7157, 7156, 88, 1014)) else ((7161, 7159, 7160, 1014)))) else (bif Nat.ble i 197 then (bif Nat.ble i 196 then ((7165, 7163, 7164, 1014)) else ((7169, 7168, 89, 1014))) else (bif Nat.ble i 198 then ((7173, 7171, 7172, 1014)) else ((7177, 7176, 90, 1014))))) else (bif Nat.ble i 203 then (bif Nat.ble i 201 then (bif Nat.ble i 200 then ((7181, 7180, 91, 1014)) else ((7185, 7184, 92, 1014))) else (bif Nat.ble i 202 then ((7189, 7188, 93, 1014)) else ((7193, 7191, 7192, 1014)))) else (bif Nat.ble i 205 then (bif Nat.ble i 204 then ((7197, 7196, 94, 1014)) else ((7201, 7200, 95, 1014))) else (bif Nat.ble i 206 then ((7205, 7203, 7204, 1014)) else ((7209, 7208, 96, 1014))))))) else (bif Nat.ble i 222 then (bif Nat.ble i 214 then (bif Nat.ble i 210 then (bif Nat.ble i 208 then ((7213, 7212, 97, 1014)) else (bif Nat.ble i 209 then ((7217, 7216, 98, 1014)) else ((7221, 7219, 7220, 1014)))) else (bif Nat.ble i 212 then (bif Nat.ble i 211 then ((7225, 7223, 7224, 1014)) else ((7229, 7228, 99, 1014))) else (bif Nat.ble i 213 then ((7233, 7231, 7232, 1014)) else ((7237, 7235, 7236, 1014))))) else (bif Nat.ble i 218 then (bif Nat.ble i 216 then (bif Nat.ble i 215 then ((8001, 7239, 8000, 1014)) else ((8005, 8003, 8004, 1014))) else (bif Nat.ble i 217 then ((8009, 8008, 100, 1014)) else ((8013, 8012, 101, 1014)))) else (bif Nat.ble i 220 then (bif Nat.ble i 219 then ((8018, 8016, 8017, 1014)) else ((8022, 8020, 8021, 1014))) else (bif Nat.ble i 221 then ((8026, 8025, 102, 1014)) else ((8034, 8032, 8033, 1014)))))) else (bif Nat.ble i 229 then (bif Nat.ble i 225 then (bif Nat.ble i 223 then ((8038, 8036, 8037, 1014)) else (bif Nat.ble i 224 then ((1101, 1100, 0, 1006)) else ((3069, 3067, 3068, 1015)))) else (bif Nat.ble i 227 then (bif Nat.ble i 226 then ((3073, 3071, 3072, 1015)) else ((3078, 3077, 0, 1016))) else (bif Nat.ble i 228 then ((3081, 3080, 0, 1015)) else ((3086, 3085, 0, 1017))))) else (bif Nat.ble i 233 then (bif Nat.ble i 231 then (bif Nat.ble i 230 then ((3114, 3112, 3113, 1015)) else ((3118, 3116, 3117, 1015))) else (bif Nat.ble i 232 then ((3122, 3120, 3121, 1015)) else ((3126, 3124, 3125, 1015)))) else (bif Nat.ble i 235 then (bif Nat.ble i 234 then ((3129, 3128, 0, 1016)) else ((3132, 3131, 0, 1016))) else (bif Nat.ble i 236 then ((3141, 3140, 0, 1016)) else ((0, 0, 0, 0)))))))))
def mIsS : Nat → Bool := fun i => bif Nat.ble i 118 then (bif Nat.ble i 58 then (bif Nat.ble i 28 then (bif Nat.ble i 13 then (bif Nat.ble i 6 then (bif Nat.ble i 2 then (bif Nat.ble i 0 then (false) else (bif Nat.ble i 1 then (false) else (false))) else (bif Nat.ble i 4 then (bif Nat.ble i 3 then (false) else (false)) else (bif Nat.ble i 5 then (false) else (false)))) else (bif Nat.ble i 9 then (bif Nat.ble i 7 then (false) else (bif Nat.ble i 8 then (false) else (false))) else (bif Nat.ble i 11 then (bif Nat.ble i 10 then (false) else (false)) else (bif Nat.ble i 12 then (false) else (false))))) else (bif Nat.ble i 20 then (bif Nat.ble i 16 then (bif Nat.ble i 14 then (false) else (bif Nat.ble i 15 then (false) else (false))) else (bif Nat.ble i 18 then (bif Nat.ble i 17 then (false) else (false)) else (bif Nat.ble i 19 then (false) else (false)))) else (bif Nat.ble i 24 then (bif Nat.ble i 22 then (bif Nat.ble i 21 then (false) else (false)) else (bif Nat.ble i 23 then (false) else (false))) else (bif Nat.ble i 26 then (bif Nat.ble i 25 then (false) else (false)) else (bif Nat.ble i 27 then (false) else (false)))))) else (bif Nat.ble i 43 then (bif Nat.ble i 35 then (bif Nat.ble i 31 then (bif Nat.ble i 29 then (false) else (bif Nat.ble i 30 then (false) else (false))) else (bif Nat.ble i 33 then (bif Nat.ble i 32 then (false) else (false)) else (bif Nat.ble i 34 then (false) else (false)))) else (bif Nat.ble i 39 then (bif Nat.ble i 37 then (bif Nat.ble i 36 then (false) else (false)) else (bif Nat.ble i 38 then (false) else (false))) else (bif Nat.ble i 41 then (bif Nat.ble i 40 then (false) else (false)) else (bif Nat.ble i 42 then (false) else (false))))) else (bif Nat.ble i 50 then (bif Nat.ble i 46 then (bif Nat.ble i 44 then (true) else (bif Nat.ble i 45 then (false) else (false))) else (bif Nat.ble i 48 then (bif Nat.ble i 47 then (false) else (false)) else (bif Nat.ble i 49 then (true) else (false)))) else (bif Nat.ble i 54 then (bif Nat.ble i 52 then (bif Nat.ble i 51 then (false) else (false)) else (bif Nat.ble i 53 then (false) else (false))) else (bif Nat.ble i 56 then (bif Nat.ble i 55 then (false) else (false)) else (bif Nat.ble i 57 then (false) else (false))))))) else (bif Nat.ble i 88 then (bif Nat.ble i 73 then (bif Nat.ble i 65 then (bif Nat.ble i 61 then (bif Nat.ble i 59 then (false) else (bif Nat.ble i 60 then (false) else (false))) else (bif Nat.ble i 63 then (bif Nat.ble i 62 then (false) else (false)) else (bif Nat.ble i 64 then (false) else (false)))) else (bif Nat.ble i 69 then (bif Nat.ble i 67 then (bif Nat.ble i 66 then (false) else (false)) else (bif Nat.ble i 68 then (false) else (false))) else (bif Nat.ble i 71 then (bif Nat.ble i 70 then (false) else (false)) else (bif Nat.ble i 72 then (false) else (false))))) else (bif Nat.ble i 80 then (bif Nat.ble i 76 then (bif Nat.ble i 74 then (false) else (bif Nat.ble i 75 then (false) else (false))) else (bif Nat.ble i 78 then (bif Nat.ble i 77 then (false) else (false)) else (bif Nat.ble i 79 then (false) else (false)))) else (bif Nat.ble i 84 then (bif Nat.ble i 82 then (bif Nat.ble i 81 then (false) else (false)) else (bif Nat.ble i 83 then (false) else (false))) else (bif Nat.ble i 86 then (bif Nat.ble i 85 then (false) else (false)) else (bif Nat.ble i 87 then (false) else (false)))))) else (bif Nat.ble i 103 then (bif Nat.ble i 95 then (bif Nat.ble i 91 then (bif Nat.ble i 89 then (false) else (bif Nat.ble i 90 then (false) else (false))) else (bif Nat.ble i 93 then (bif Nat.ble i 92 then (false) else (false)) else (bif Nat.ble i 94 then (false) else (false)))) else (bif Nat.ble i 99 then (bif Nat.ble i 97 then (bif Nat.ble i 96 then (false) else (false)) else (bif Nat.ble i 98 then (false) else (false))) else (bif Nat.ble i 101 then (bif Nat.ble i 100 then (false) else (false)) else (bif Nat.ble i 102 then (true) else (false))))) else (bif Nat.ble i 110 then (bif Nat.ble i 106 then (bif Nat.ble i 104 then (false) else (bif Nat.ble i 105 then (false) else (false))) else (bif Nat.ble i 108 then (bif Nat.ble i 107 then (false) else (false)) else (bif Nat.ble i 109 then (false) else (false)))) else (bif Nat.ble i 114 then (bif Nat.ble i 112 then (bif Nat.ble i 111 then (false) else (false)) else (bif Nat.ble i 113 then (false) else (false))) else (bif Nat.ble i 116 then (bif Nat.ble i 115 then (false) else (false)) else (bif Nat.ble i 117 then (false) else (false)))))))) else (bif Nat.ble i 177 then (bif Nat.ble i 147 then (bif Nat.ble i 132 then (bif Nat.ble i 125 then (bif Nat.ble i 121 then (bif Nat.ble i 119 then (false) else (bif Nat.ble i 120 then (false) else (false))) else (bif Nat.ble i 123 then (bif Nat.ble i 122 then (true) else (false)) else (bif Nat.ble i 124 then (false) else (false)))) else (bif Nat.ble i 128 then (bif Nat.ble i 126 then (false) else (bif Nat.ble i 127 then (false) else (false))) else (bif Nat.ble i 130 then (bif Nat.ble i 129 then (false) else (false)) else (bif Nat.ble i 131 then (true) else (true))))) else (bif Nat.ble i 139 then (bif Nat.ble i 135 then (bif Nat.ble i 133 then (true) else (bif Nat.ble i 134 then (true) else (false))) else (bif Nat.ble i 137 then (bif Nat.ble i 136 then (false) else (false)) else (bif Nat.ble i 138 then (false) else (false)))) else (bif Nat.ble i 143 then (bif Nat.ble i 141 then (bif Nat.ble i 140 then (false) else (false)) else (bif Nat.ble i 142 then (false) else (false))) else (bif Nat.ble i 145 then (bif Nat.ble i 144 then (false) else (false)) else (bif Nat.ble i 146 then (false) else (false)))))) else (bif Nat.ble i 162 then (bif Nat.ble i 154 then (bif Nat.ble i 150 then (bif Nat.ble i 148 then (false) else (bif Nat.ble i 149 then (false) else (false))) else (bif Nat.ble i 152 then (bif Nat.ble i 151 then (false) else (false)) else (bif Nat.ble i 153 then (false) else (false)))) else (bif Nat.ble i 158 then (bif Nat.ble i 156 then (bif Nat.ble i 155 then (false) else (false)) else (bif Nat.ble i 157 then (false) else (false))) else (bif Nat.ble i 160 then (bif Nat.ble i 159 then (false) else (false)) else (bif Nat.ble i 161 then (false) else (true))))) else (bif Nat.ble i 169 then (bif Nat.ble i 165 then (bif Nat.ble i 163 then (false) else (bif Nat.ble i 164 then (false) else (false))) else (bif Nat.ble i 167 then (bif Nat.ble i 166 then (false) else (false)) else (bif Nat.ble i 168 then (false) else (true)))) else (bif Nat.ble i 173 then (bif Nat.ble i 171 then (bif Nat.ble i 170 then (false) else (false)) else (bif Nat.ble i 172 then (false) else (false))) else (bif Nat.ble i 175 then (bif Nat.ble i 174 then (false) else (true)) else (bif Nat.ble i 176 then (false) else (false))))))) else (bif Nat.ble i 207 then (bif Nat.ble i 192 then (bif Nat.ble i 184 then (bif Nat.ble i 180 then (bif Nat.ble i 178 then (false) else (bif Nat.ble i 179 then (false) else (false))) else (bif Nat.ble i 182 then (bif Nat.ble i 181 then (false) else (false)) else (bif Nat.ble i 183 then (false) else (false)))) else (bif Nat.ble i 188 then (bif Nat.ble i 186 then (bif Nat.ble i 185 then (false) else (true)) else (bif Nat.ble i 187 then (true) else (false))) else (bif Nat.ble i 190 then (bif Nat.ble i 189 then (false) else (false)) else (bif Nat.ble i 191 then (false) else (false))))) else (bif Nat.ble i 199 then (bif Nat.ble i 195 then (bif Nat.ble i 193 then (false) else (bif Nat.ble i 194 then (false) else (false))) else (bif Nat.ble i 197 then (bif Nat.ble i 196 then (false) else (false)) else (bif Nat.ble i 198 then (false) else (false)))) else (bif Nat.ble i 203 then (bif Nat.ble i 201 then (bif Nat.ble i 200 then (false) else (false)) else (bif Nat.ble i 202 then (false) else (false))) else (bif Nat.ble i 205 then (bif Nat.ble i 204 then (false) else (false)) else (bif Nat.ble i 206 then (false) else (false)))))) else (bif Nat.ble i 222 then (bif Nat.ble i 214 then (bif Nat.ble i 210 then (bif Nat.ble i 208 then (false) else (bif Nat.ble i 209 then (false) else (false))) else (bif Nat.ble i 212 then (bif Nat.ble i 211 then (false) else (false)) else (bif Nat.ble i 213 then (false) else (false)))) else (bif Nat.ble i 218 then (bif Nat.ble i 216 then (bif Nat.ble i 215 then (false) else (false)) else (bif Nat.ble i 217 then (false) else (false))) else (bif Nat.ble i 220 then (bif Nat.ble i 219 then (false) else (false)) else (bif Nat.ble i 221 then (false) else (false))))) else (bif Nat.ble i 229 then (bif Nat.ble i 225 then (bif Nat.ble i 223 then (false) else (bif Nat.ble i 224 then (true) else (false))) else (bif Nat.ble i 227 then (bif Nat.ble i 226 then (false) else (true)) else (bif Nat.ble i 228 then (true) else (true)))) else (bif Nat.ble i 233 then (bif Nat.ble i 231 then (bif Nat.ble i 230 then (false) else (false)) else (bif Nat.ble i 232 then (false) else (false))) else (bif Nat.ble i 235 then (bif Nat.ble i 234 then (true) else (true)) else (bif Nat.ble i 236 then (true) else (true))))))))

def nthC : List Cond → Nat → Option Cond
  | [], _ => none
  | x :: _, 0 => some x
  | _ :: t, n + 1 => nthC t n
theorem nthC_mem {w : Cond} : ∀ {l : List Cond} {i : Nat}, nthC l i = some w → w ∈ l
  | [], _, h => by simp [nthC] at h
  | x :: _, 0, h => by simp [nthC] at h; simp [h]
  | _ :: t, n + 1, h => List.mem_cons_of_mem _ (nthC_mem (l := t) (i := n) (by simpa [nthC] using h))
/-- the words that hold in every frame -/
def gt : List Cond := lw_tbl.filter goodWord
def lists : Nat → List Cond
  | 0 => k2_sels lw_privs
  | 1 => tables_1_1 | 2 => tables_1_2 | 3 => tables_1_3 | 4 => tables_1_4 | 5 => tables_1_5 | 6 => tables_1_6 | 7 => tables_1_7 | _ => tables_1_8
theorem lists_in : ∀ (k : Nat) (w : Cond), w ∈ lists k → w ∈ lw_tbl := by
  intro k w h
  unfold lw_tbl tables_1
  match k, h with
  | 0, h => exact List.mem_append_left _ h
  | 1, h => exact List.mem_append_right _ (List.mem_append_left _ h)
  | 2, h => exact List.mem_append_right _ (List.mem_append_right _ (List.mem_append_left _ h))
  | 3, h => exact List.mem_append_right _ (List.mem_append_right _ (List.mem_append_right _ (List.mem_append_left _ h)))
  | 4, h => exact List.mem_append_right _ (List.mem_append_right _ (List.mem_append_right _ (List.mem_append_right _ (List.mem_append_left _ h))))
  | 5, h => exact List.mem_append_right _ (List.mem_append_right _ (List.mem_append_right _ (List.mem_append_right _ (List.mem_append_right _ (List.mem_append_left _ h)))))
  | 6, h => exact List.mem_append_right _ (List.mem_append_right _ (List.mem_append_right _ (List.mem_append_right _ (List.mem_append_right _ (List.mem_append_right _ (List.mem_append_left _ h))))))
  | 7, h => exact List.mem_append_right _ (List.mem_append_right _ (List.mem_append_right _ (List.mem_append_right _ (List.mem_append_right _ (List.mem_append_right _ (List.mem_append_right _ (List.mem_append_left _ h)))))))
  | k + 8, h => exact List.mem_append_right _ (List.mem_append_right _ (List.mem_append_right _ (List.mem_append_right _ (List.mem_append_right _ (List.mem_append_right _ (List.mem_append_right _ (List.mem_append_right _ h)))))))
def tb (i : Nat) (w : Cond) : Bool := decide (nthC (lists (i / 1000)) (i % 1000) = some w) && goodWord w
theorem tb_mem {i : Nat} {w : Cond} (h : tb i w = true) : w ∈ gt := by
  unfold tb at h
  simp only [Bool.and_eq_true, decide_eq_true_eq] at h
  exact List.mem_filter.mpr ⟨lists_in _ _ (nthC_mem h.1), h.2⟩
theorem gt_good : GoodIn gt gt := fun w h => ⟨h, good_of_word (List.mem_filter.mp h).2⟩
def isNest : Cond → Bool
  | .fieldLinkNest _ _ _ _ _ _ => true
  | .methodLinkNest _ _ _ _ => true
  | _ => false
/-- words on nest mates -/
def nw : List Cond := lw_tbl.filter isNest
def tn (i : Nat) (w : Cond) : Bool := decide (nthC (lists (i / 1000)) (i % 1000) = some w) && isNest w
theorem tn_mem {i : Nat} {w : Cond} (h : tn i w = true) : w ∈ nw := by
  unfold tn at h
  simp only [Bool.and_eq_true, decide_eq_true_eq] at h
  exact List.mem_filter.mpr ⟨lists_in _ _ (nthC_mem h.1), h.2⟩
def mLen : Instr → Nat
  | .bipush _ => 2 | .sipush _ => 3 | .ldc _ => 2 | .ldc_w _ => 3 | .ldc2_w _ => 3 | .iload _ => 2 | .lload _ => 2 | .aload _ => 2 | .istore _ => 2 | .lstore _ => 2 | .astore _ => 2 | .iinc _ _ => 3
  | .ifCond _ _ => 3 | .if_icmp _ _ => 3 | .goto _ => 3 | .getstatic _ => 3 | .getfield _ => 3 | .putfield _ => 3 | .newarray _ => 2 | .anewarray _ => 3 | .new _ => 3 | .invokespecial _ => 3 | .invokevirtual _ => 3 | .invokestatic _ => 3
  | _ => 1
def b32 (n : Int) : Bool := decide (-2147483648 ≤ n) && decide (n < 2147483648)
def b64 (n : Int) : Bool := decide (-9223372036854775808 ≤ n) && decide (n < 9223372036854775808)
def mClsOf (ci : Nat) : vw_C := mCls.getD ci ("", (fun _ => ("", "", "", false)), 0)
/-- a field's word -/
def okF (own : String) (idx : Nat) (op : mOp) : Bool :=
  bif Nat.beq op.2.1 20 then (bif Nat.beq op.2.2.1 0 then tb op.2.2.2.toNat (.fieldLink own idx "java/lang/String" "value" "[B") else Nat.beq op.2.2.1 1 && tb op.2.2.2.toNat (.fieldLink own idx "java/lang/String" "coder" "B"))
  else tb op.2.2.2.toNat (.fieldLink own idx ((mClsOf op.2.1).2.1 op.2.2.1).1 ((mClsOf op.2.1).2.1 op.2.2.1).2.1 ((mClsOf op.2.1).2.1 op.2.2.1).2.2.1) && Nat.ble (op.2.2.1 + 1) (mClsOf op.2.1).2.2 && Nat.ble op.2.1 12
/-- a callee's words -/
def okCallee (mi : Nat) : Bool :=
  tb (mPos mi).1 (.code (mMet mi).1 (mMet mi).2.1 (mInf mi).1 (mMet mi).2.2) && tb (mPos mi).2.1 (bif mIsS mi then .static (mMet mi).1 else .instanceMethod (mMet mi).1) && tb (mPos mi).2.2.2 (.initialized (mMet mi).1.cls) && decide ((mMet mi).1.cls ≠ "java/lang/invoke/MethodHandle") && decide ((mMet mi).1.cls ≠ "java/lang/invoke/VarHandle") && plainName (mMet mi).1.cls && Nat.ble (mInf mi).1 40
    && (match (mMet mi).2.2 with | none => Nat.beq (mInf mi).2.1 0 | some .int => Nat.beq (mInf mi).2.1 1 | some .boolean => Nat.beq (mInf mi).2.1 1 | some .char => Nat.beq (mInf mi).2.1 1 | some .byte => Nat.beq (mInf mi).2.1 1 | _ => false)
    && (Nat.beq (mInf mi).2.2 30 || (Nat.beq (mInf mi).2.2 20 && decide ((mMet mi).1.cls = "java/lang/String")) || (Nat.ble (mInf mi).2.2 12 && decide ((mMet mi).1.cls = (mClsOf (mInf mi).2.2).1)))
def okPar (mi n : Nat) : Bool := decide ((parseMethodDescriptor (mMet mi).1.desc).map (fun d => d.parameters.length) = some n)
def okX (mi pc : Nat) (op : mOp) : Bool := match op.1 with
  | .iconst i => b32 i
  | .bipush i => b32 i && decide ((Int8.ofInt i).toInt32 = Int32.ofInt i)
  | .sipush i => b32 i && decide ((Int16.ofInt i).toInt32 = Int32.ofInt i)
  | .ldc idx => (match op.2.1 with
    | 0 => b32 op.2.2.2 && tb op.2.2.1 (.constant (mMet mi).1.cls idx (Int32.ofInt op.2.2.2))
    | 4 => Nat.beq idx 51 && decide ((mMet mi).1.cls = "OneCable$Tape")
    | 5 => Nat.beq idx 43 && decide ((mMet mi).1.cls = "OneCable$Tape")
    | _ => false)
  | .ldc_w idx => Nat.beq op.2.1 0 && b32 op.2.2.2 && tb op.2.2.1 (.constant (mMet mi).1.cls idx (Int32.ofInt op.2.2.2))
  | .ldc2_w idx => b64 op.2.2.2 && tb op.2.2.1 (.constantLong (mMet mi).1.cls idx (Int64.ofInt op.2.2.2))
  | .istore i => Nat.ble (i + 1) (mInf mi).1
  | .istore_n i => Nat.ble (i.val + 1) (mInf mi).1
  | .astore i => Nat.ble (i + 1) (mInf mi).1
  | .astore_n i => Nat.ble (i.val + 1) (mInf mi).1
  | .lstore i => Nat.ble (i + 2) (mInf mi).1
  | .lstore_n i => Nat.ble (i.val + 2) (mInf mi).1
  | .iinc i _ => Nat.ble (i + 1) (mInf mi).1
  | .ifCond _ o => decide ((pc : Int) + o = (op.2.1 : Int))
  | .if_icmp _ o => decide ((pc : Int) + o = (op.2.1 : Int))
  | .goto o => decide ((pc : Int) + o = (op.2.1 : Int))
  | .tableswitch d lo hi offs => decide (0 ≤ (pc : Int) + d) && offs.toList.all (fun o => decide (0 ≤ (pc : Int) + o)) && decide ((offs.size : Int) = hi - lo + 1) && b32 lo && b32 hi
  | .getstatic idx => (match op.2.2.1 with
    | 0 => (match op.2.1 with
      | 1 => tb op.2.2.2.toNat (.fieldLink (mMet mi).1.cls idx "OneCable" "WAY_X" "[I")
      | 2 => tb op.2.2.2.toNat (.fieldLink (mMet mi).1.cls idx "OneCable" "WAY_Y" "[I")
      | 9 => tb op.2.2.2.toNat (.fieldLink (mMet mi).1.cls idx "jdk/internal/util/Preconditions" "SIOOBE_FORMATTER" "Ljava/util/function/BiFunction;")
      | _ => false)
    | 1 => tb op.2.2.2.toNat (.fieldLink (mMet mi).1.cls idx "java/lang/String" "COMPACT_STRINGS" "Z")
    | 2 => (match op.2.1 with
      | 1 => tn op.2.2.2.toNat (.fieldLinkNest (mMet mi).1.cls idx "OneCable" "WAY_X" "[I" "OneCable")
      | 2 => tn op.2.2.2.toNat (.fieldLinkNest (mMet mi).1.cls idx "OneCable" "WAY_Y" "[I" "OneCable")
      | _ => false)
    | _ => false)
  | .getfield idx => okF (mMet mi).1.cls idx op
  | .putfield idx => okF (mMet mi).1.cls idx op && Nat.ble op.2.1 12 && (bif ((mClsOf op.2.1).2.1 op.2.2.1).2.2.2 then decide ((mMet mi).1.name = "<init>") && decide (((mClsOf op.2.1).2.1 op.2.2.1).1 = (mMet mi).1.cls) else true)
  | .new idx => Nat.ble op.2.1 12 && tb op.2.2.2.toNat (.classLink (mMet mi).1.cls idx (mClsOf op.2.1).1)
  | .anewarray idx => Nat.beq op.2.1 7 && tb op.2.2.2.toNat (.classLink (mMet mi).1.cls idx RX7)
  | .invokevirtual idx => tb op.2.2.2.toNat (.methodLink (mMet mi).1.cls idx (mMet op.2.1).1) && okCallee op.2.1 && !(mIsS op.2.1) && Nat.ble 1 op.2.2.1 && okPar op.2.1 (op.2.2.1 - 1) && tb (mPos op.2.1).2.2.1 (.selects (mMet op.2.1).1.cls (mMet op.2.1).1 (mMet op.2.1).1)
  | .invokespecial idx => (match op.2.1 with
    | 1004 => tb op.2.2.2.toNat (.methodLink (mMet mi).1.cls idx Lib.objectInit)
    | k => okCallee k && !(mIsS k) && Nat.ble 1 (op.2.2.1 % 100) && okPar k (op.2.2.1 % 100 - 1) && decide ((mMet k).1.name = "<init>") && Nat.beq (mInf k).2.1 0 && (bif Nat.ble 100 op.2.2.1 then tn op.2.2.2.toNat (.methodLinkNest (mMet mi).1.cls idx (mMet k).1 "OneCable") else tb op.2.2.2.toNat (.methodLink (mMet mi).1.cls idx (mMet k).1)))
  | .invokestatic idx => (match op.2.1 with
    | 1000 => tb op.2.2.2.toNat (.methodLink (mMet mi).1.cls idx Lib.Math.max.name)
    | 1001 => tb op.2.2.2.toNat (.methodLink (mMet mi).1.cls idx Lib.Math.min.name)
    | 1002 => tb op.2.2.2.toNat (.methodLink (mMet mi).1.cls idx Lib.Math.abs.name)
    | 1003 => tb op.2.2.2.toNat (.methodLink (mMet mi).1.cls idx arraycopyName)
    | 1005 => true
    | k => okCallee k && mIsS k && okPar k (op.2.2.1 % 100) && (bif Nat.ble 100 op.2.2.1 then tn op.2.2.2.toNat (.methodLinkNest (mMet mi).1.cls idx (mMet k).1 "OneCable") else tb op.2.2.2.toNat (.methodLink (mMet mi).1.cls idx (mMet k).1)))
  | .ireturn => (match (mMet mi).2.2 with | some .int => Nat.beq op.2.1 0 | some .boolean => Nat.beq op.2.1 1 | some .char => Nat.beq op.2.1 2 | some .byte => Nat.beq op.2.1 3 | _ => false)
  | .return_ => (match (mMet mi).2.2 with | none => true | _ => false)
  | _ => true
def okD (cc : ByteArray) (pc : Nat) (i : Instr) : Bool := match i with
  | .tableswitch _ _ _ _ => (match decode cc pc with | .ok (j, _) => decide (j = i) | _ => false)
  | i => decide (decode cc pc = .ok (i, mLen i))
def okOp (mi pc : Nat) (op : mOp) : Bool := okD (mMet mi).2.1 pc op.1 && okX mi pc op
def okM (mi : Nat) : Bool := (mOps mi).all (fun q => q.2.all (fun o => okOp mi o.1 o.2))
end
section
theorem okM0 : okM 0 = true := by decide +kernel
theorem okM1 : okM 1 = true := by decide +kernel
theorem okM2 : okM 2 = true := by decide +kernel
theorem okM3 : okM 3 = true := by decide +kernel
theorem okM4 : okM 4 = true := by decide +kernel
theorem okM5 : okM 5 = true := by decide +kernel
theorem okM6 : okM 6 = true := by decide +kernel
theorem okM7 : okM 7 = true := by decide +kernel
theorem okM8 : okM 8 = true := by decide +kernel
theorem okM9 : okM 9 = true := by decide +kernel
theorem okM10 : okM 10 = true := by decide +kernel
theorem okM11 : okM 11 = true := by decide +kernel
theorem okM12 : okM 12 = true := by decide +kernel
theorem okM13 : okM 13 = true := by decide +kernel
theorem okM14 : okM 14 = true := by decide +kernel
theorem okM15 : okM 15 = true := by decide +kernel
theorem okM16 : okM 16 = true := by decide +kernel
theorem okM17 : okM 17 = true := by decide +kernel
theorem okM18 : okM 18 = true := by decide +kernel
theorem okM19 : okM 19 = true := by decide +kernel
theorem okM20 : okM 20 = true := by decide +kernel
theorem okM21 : okM 21 = true := by decide +kernel
theorem okM22 : okM 22 = true := by decide +kernel
theorem okM23 : okM 23 = true := by decide +kernel
end
section
theorem okM24 : okM 24 = true := by decide +kernel
theorem okM25 : okM 25 = true := by decide +kernel
theorem okM26 : okM 26 = true := by decide +kernel
theorem okM27 : okM 27 = true := by decide +kernel
theorem okM28 : okM 28 = true := by decide +kernel
theorem okM29 : okM 29 = true := by decide +kernel
theorem okM30 : okM 30 = true := by decide +kernel
theorem okM31 : okM 31 = true := by decide +kernel
theorem okM32 : okM 32 = true := by decide +kernel
theorem okM33 : okM 33 = true := by decide +kernel
theorem okM34 : okM 34 = true := by decide +kernel
theorem okM35 : okM 35 = true := by decide +kernel
theorem okM36 : okM 36 = true := by decide +kernel
theorem okM37 : okM 37 = true := by decide +kernel
theorem okM38 : okM 38 = true := by decide +kernel
theorem okM39 : okM 39 = true := by decide +kernel
theorem okM40 : okM 40 = true := by decide +kernel
theorem okM41 : okM 41 = true := by decide +kernel
theorem okM42 : okM 42 = true := by decide +kernel
theorem okM43 : okM 43 = true := by decide +kernel
theorem okM44 : okM 44 = true := by decide +kernel
theorem okM45 : okM 45 = true := by decide +kernel
theorem okM46 : okM 46 = true := by decide +kernel
theorem okM47 : okM 47 = true := by decide +kernel
end
section
theorem okM48 : okM 48 = true := by decide +kernel
theorem okM49 : okM 49 = true := by decide +kernel
theorem okM50 : okM 50 = true := by decide +kernel
theorem okM51 : okM 51 = true := by decide +kernel
theorem okM52 : okM 52 = true := by decide +kernel
theorem okM53 : okM 53 = true := by decide +kernel
theorem okM54 : okM 54 = true := by decide +kernel
theorem okM55 : okM 55 = true := by decide +kernel
theorem okM56 : okM 56 = true := by decide +kernel
theorem okM57 : okM 57 = true := by decide +kernel
theorem okM58 : okM 58 = true := by decide +kernel
theorem okM59 : okM 59 = true := by decide +kernel
theorem okM60 : okM 60 = true := by decide +kernel
theorem okM61 : okM 61 = true := by decide +kernel
theorem okM62 : okM 62 = true := by decide +kernel
theorem okM63 : okM 63 = true := by decide +kernel
theorem okM64 : okM 64 = true := by decide +kernel
theorem okM65 : okM 65 = true := by decide +kernel
theorem okM66 : okM 66 = true := by decide +kernel
theorem okM67 : okM 67 = true := by decide +kernel
theorem okM68 : okM 68 = true := by decide +kernel
theorem okM69 : okM 69 = true := by decide +kernel
theorem okM70 : okM 70 = true := by decide +kernel
theorem okM71 : okM 71 = true := by decide +kernel
end
section
theorem okM72 : okM 72 = true := by decide +kernel
theorem okM73 : okM 73 = true := by decide +kernel
theorem okM74 : okM 74 = true := by decide +kernel
theorem okM75 : okM 75 = true := by decide +kernel
theorem okM76 : okM 76 = true := by decide +kernel
theorem okM77 : okM 77 = true := by decide +kernel
theorem okM78 : okM 78 = true := by decide +kernel
theorem okM79 : okM 79 = true := by decide +kernel
theorem okM80 : okM 80 = true := by decide +kernel
theorem okM81 : okM 81 = true := by decide +kernel
theorem okM82 : okM 82 = true := by decide +kernel
theorem okM83 : okM 83 = true := by decide +kernel
theorem okM84 : okM 84 = true := by decide +kernel
theorem okM85 : okM 85 = true := by decide +kernel
theorem okM86 : okM 86 = true := by decide +kernel
theorem okM87 : okM 87 = true := by decide +kernel
theorem okM88 : okM 88 = true := by decide +kernel
theorem okM89 : okM 89 = true := by decide +kernel
theorem okM90 : okM 90 = true := by decide +kernel
theorem okM91 : okM 91 = true := by decide +kernel
theorem okM92 : okM 92 = true := by decide +kernel
theorem okM93 : okM 93 = true := by decide +kernel
theorem okM94 : okM 94 = true := by decide +kernel
theorem okM95 : okM 95 = true := by decide +kernel
end
section
theorem okM96 : okM 96 = true := by decide +kernel
theorem okM97 : okM 97 = true := by decide +kernel
theorem okM98 : okM 98 = true := by decide +kernel
theorem okM99 : okM 99 = true := by decide +kernel
theorem okM100 : okM 100 = true := by decide +kernel
theorem okM101 : okM 101 = true := by decide +kernel
theorem okM102 : okM 102 = true := by decide +kernel
theorem okM103 : okM 103 = true := by decide +kernel
theorem okM104 : okM 104 = true := by decide +kernel
theorem okM105 : okM 105 = true := by decide +kernel
theorem okM106 : okM 106 = true := by decide +kernel
theorem okM107 : okM 107 = true := by decide +kernel
theorem okM108 : okM 108 = true := by decide +kernel
theorem okM109 : okM 109 = true := by decide +kernel
theorem okM110 : okM 110 = true := by decide +kernel
theorem okM111 : okM 111 = true := by decide +kernel
theorem okM112 : okM 112 = true := by decide +kernel
theorem okM113 : okM 113 = true := by decide +kernel
theorem okM114 : okM 114 = true := by decide +kernel
theorem okM115 : okM 115 = true := by decide +kernel
theorem okM116 : okM 116 = true := by decide +kernel
theorem okM117 : okM 117 = true := by decide +kernel
theorem okM118 : okM 118 = true := by decide +kernel
theorem okM119 : okM 119 = true := by decide +kernel
end
section
theorem okM120 : okM 120 = true := by decide +kernel
theorem okM121 : okM 121 = true := by decide +kernel
theorem okM122 : okM 122 = true := by decide +kernel
theorem okM123 : okM 123 = true := by decide +kernel
theorem okM124 : okM 124 = true := by decide +kernel
theorem okM125 : okM 125 = true := by decide +kernel
theorem okM126 : okM 126 = true := by decide +kernel
theorem okM127 : okM 127 = true := by decide +kernel
theorem okM128 : okM 128 = true := by decide +kernel
theorem okM129 : okM 129 = true := by decide +kernel
theorem okM130 : okM 130 = true := by decide +kernel
theorem okM131 : okM 131 = true := by decide +kernel
theorem okM132 : okM 132 = true := by decide +kernel
theorem okM133 : okM 133 = true := by decide +kernel
theorem okM134 : okM 134 = true := by decide +kernel
theorem okM135 : okM 135 = true := by decide +kernel
theorem okM136 : okM 136 = true := by decide +kernel
theorem okM137 : okM 137 = true := by decide +kernel
theorem okM138 : okM 138 = true := by decide +kernel
theorem okM139 : okM 139 = true := by decide +kernel
theorem okM140 : okM 140 = true := by decide +kernel
theorem okM141 : okM 141 = true := by decide +kernel
theorem okM142 : okM 142 = true := by decide +kernel
theorem okM143 : okM 143 = true := by decide +kernel
end
section
theorem okM144 : okM 144 = true := by decide +kernel
theorem okM145 : okM 145 = true := by decide +kernel
theorem okM146 : okM 146 = true := by decide +kernel
theorem okM147 : okM 147 = true := by decide +kernel
theorem okM148 : okM 148 = true := by decide +kernel
theorem okM149 : okM 149 = true := by decide +kernel
theorem okM150 : okM 150 = true := by decide +kernel
theorem okM151 : okM 151 = true := by decide +kernel
theorem okM152 : okM 152 = true := by decide +kernel
theorem okM153 : okM 153 = true := by decide +kernel
theorem okM154 : okM 154 = true := by decide +kernel
theorem okM155 : okM 155 = true := by decide +kernel
theorem okM156 : okM 156 = true := by decide +kernel
theorem okM157 : okM 157 = true := by decide +kernel
theorem okM158 : okM 158 = true := by decide +kernel
theorem okM159 : okM 159 = true := by decide +kernel
theorem okM160 : okM 160 = true := by decide +kernel
theorem okM161 : okM 161 = true := by decide +kernel
theorem okM162 : okM 162 = true := by decide +kernel
theorem okM163 : okM 163 = true := by decide +kernel
theorem okM164 : okM 164 = true := by decide +kernel
theorem okM165 : okM 165 = true := by decide +kernel
theorem okM166 : okM 166 = true := by decide +kernel
theorem okM167 : okM 167 = true := by decide +kernel
end
section
theorem okM168 : okM 168 = true := by decide +kernel
theorem okM169 : okM 169 = true := by decide +kernel
theorem okM170 : okM 170 = true := by decide +kernel
theorem okM171 : okM 171 = true := by decide +kernel
theorem okM172 : okM 172 = true := by decide +kernel
theorem okM173 : okM 173 = true := by decide +kernel
theorem okM174 : okM 174 = true := by decide +kernel
theorem okM175 : okM 175 = true := by decide +kernel
theorem okM176 : okM 176 = true := by decide +kernel
theorem okM177 : okM 177 = true := by decide +kernel
theorem okM178 : okM 178 = true := by decide +kernel
theorem okM179 : okM 179 = true := by decide +kernel
theorem okM180 : okM 180 = true := by decide +kernel
theorem okM181 : okM 181 = true := by decide +kernel
theorem okM182 : okM 182 = true := by decide +kernel
theorem okM183 : okM 183 = true := by decide +kernel
theorem okM184 : okM 184 = true := by decide +kernel
theorem okM185 : okM 185 = true := by decide +kernel
theorem okM186 : okM 186 = true := by decide +kernel
theorem okM187 : okM 187 = true := by decide +kernel
theorem okM188 : okM 188 = true := by decide +kernel
theorem okM189 : okM 189 = true := by decide +kernel
theorem okM190 : okM 190 = true := by decide +kernel
theorem okM191 : okM 191 = true := by decide +kernel
end
section
theorem okM192 : okM 192 = true := by decide +kernel
theorem okM193 : okM 193 = true := by decide +kernel
theorem okM194 : okM 194 = true := by decide +kernel
theorem okM195 : okM 195 = true := by decide +kernel
theorem okM196 : okM 196 = true := by decide +kernel
theorem okM197 : okM 197 = true := by decide +kernel
theorem okM198 : okM 198 = true := by decide +kernel
theorem okM199 : okM 199 = true := by decide +kernel
theorem okM200 : okM 200 = true := by decide +kernel
theorem okM201 : okM 201 = true := by decide +kernel
theorem okM202 : okM 202 = true := by decide +kernel
theorem okM203 : okM 203 = true := by decide +kernel
theorem okM204 : okM 204 = true := by decide +kernel
theorem okM205 : okM 205 = true := by decide +kernel
theorem okM206 : okM 206 = true := by decide +kernel
theorem okM207 : okM 207 = true := by decide +kernel
theorem okM208 : okM 208 = true := by decide +kernel
theorem okM209 : okM 209 = true := by decide +kernel
theorem okM210 : okM 210 = true := by decide +kernel
theorem okM211 : okM 211 = true := by decide +kernel
theorem okM212 : okM 212 = true := by decide +kernel
theorem okM213 : okM 213 = true := by decide +kernel
theorem okM214 : okM 214 = true := by decide +kernel
theorem okM215 : okM 215 = true := by decide +kernel
end
section
theorem okM216 : okM 216 = true := by decide +kernel
theorem okM217 : okM 217 = true := by decide +kernel
theorem okM218 : okM 218 = true := by decide +kernel
theorem okM219 : okM 219 = true := by decide +kernel
theorem okM220 : okM 220 = true := by decide +kernel
theorem okM221 : okM 221 = true := by decide +kernel
theorem okM222 : okM 222 = true := by decide +kernel
theorem okM223 : okM 223 = true := by decide +kernel
theorem okM224 : okM 224 = true := by decide +kernel
theorem okM225 : okM 225 = true := by decide +kernel
theorem okM226 : okM 226 = true := by decide +kernel
theorem okM227 : okM 227 = true := by decide +kernel
theorem okM228 : okM 228 = true := by decide +kernel
theorem okM229 : okM 229 = true := by decide +kernel
theorem okM230 : okM 230 = true := by decide +kernel
theorem okM231 : okM 231 = true := by decide +kernel
theorem okM232 : okM 232 = true := by decide +kernel
theorem okM233 : okM 233 = true := by decide +kernel
theorem okM234 : okM 234 = true := by decide +kernel
theorem okM235 : okM 235 = true := by decide +kernel
theorem okM236 : okM 236 = true := by decide +kernel
end
section
def okCh (mi k : Nat) : Bool := match (mOps mi)[k]? with
  | some q => q.2.all (fun o => okOp mi o.1 o.2)
  | none => true
theorem okM_of {mi : Nat} (h : ∀ k, k < (mOps mi).length → okCh mi k = true) : okM mi = true := by
  unfold okM
  rw [List.all_eq_true]
  intro q hq
  obtain ⟨k, hk⟩ := List.getElem?_of_mem hq
  have h1 := h k (List.getElem?_eq_some_iff.mp hk).1
  unfold okCh at h1
  rw [hk] at h1
  exact h1
theorem okL0 : okCh 237 0 = true := by decide +kernel
theorem okL1 : okCh 237 1 = true := by decide +kernel
theorem okL2 : okCh 237 2 = true := by decide +kernel
theorem okL3 : okCh 237 3 = true := by decide +kernel
theorem okL4 : okCh 237 4 = true := by decide +kernel
theorem okL5 : okCh 237 5 = true := by decide +kernel
theorem okL6 : okCh 237 6 = true := by decide +kernel
theorem okL7 : okCh 237 7 = true := by decide +kernel
theorem okL8 : okCh 237 8 = true := by decide +kernel
end
section
theorem okL9 : okCh 237 9 = true := by decide +kernel
theorem okL10 : okCh 237 10 = true := by decide +kernel
theorem okL11 : okCh 237 11 = true := by decide +kernel
theorem okL12 : okCh 237 12 = true := by decide +kernel
theorem okL13 : okCh 237 13 = true := by decide +kernel
theorem okL14 : okCh 237 14 = true := by decide +kernel
theorem okL15 : okCh 237 15 = true := by decide +kernel
theorem okL16 : okCh 237 16 = true := by decide +kernel
theorem okL17 : okCh 237 17 = true := by decide +kernel
end
section
theorem okL18 : okCh 237 18 = true := by decide +kernel
theorem okL19 : okCh 237 19 = true := by decide +kernel
theorem okL20 : okCh 237 20 = true := by decide +kernel
theorem okL21 : okCh 237 21 = true := by decide +kernel
theorem okL22 : okCh 237 22 = true := by decide +kernel
theorem okL23 : okCh 237 23 = true := by decide +kernel
theorem okL24 : okCh 237 24 = true := by decide +kernel
theorem okL25 : okCh 237 25 = true := by decide +kernel
theorem okM237 : okM 237 = true := by
  refine okM_of ?_
  have hl : (mOps 237).length = 26 := by decide +kernel
  rw [hl]
  intro k hk
  match k, hk with
  | 0, _ => exact okL0
  | 1, _ => exact okL1
  | 2, _ => exact okL2
  | 3, _ => exact okL3
  | 4, _ => exact okL4
  | 5, _ => exact okL5
  | 6, _ => exact okL6
  | 7, _ => exact okL7
  | 8, _ => exact okL8
  | 9, _ => exact okL9
  | 10, _ => exact okL10
  | 11, _ => exact okL11
  | 12, _ => exact okL12
  | 13, _ => exact okL13
  | 14, _ => exact okL14
  | 15, _ => exact okL15
  | 16, _ => exact okL16
  | 17, _ => exact okL17
  | 18, _ => exact okL18
  | 19, _ => exact okL19
  | 20, _ => exact okL20
  | 21, _ => exact okL21
  | 22, _ => exact okL22
  | 23, _ => exact okL23
  | 24, _ => exact okL24
  | 25, _ => exact okL25
  | k + 26, hk => omega
end
section
/-! The small machine's values and worlds in the real one -/
def r32 (n : Int) : Prop := -2147483648 ≤ n ∧ n < 2147483648
def r64 (n : Int) : Prop := -9223372036854775808 ≤ n ∧ n < 9223372036854775808
theorem wr_r (x : Int) : r32 (wr x) := by unfold r32 wr; omega
theorem wl_r (x : Int) : r64 (wl x) := by unfold r64 wl; omega
theorem r32_64 {n : Int} (h : r32 n) : r64 n := by unfold r32 at h; unfold r64; omega
theorem wr_id {x : Int} (h : r32 x) : wr x = x := by unfold r32 at h; unfold wr; omega
theorem wl_id {x : Int} (h : r64 x) : wl x = x := by unfold r64 at h; unfold wl; omega
theorem b32_r {n : Int} (h : b32 n = true) : r32 n := by
  unfold b32 at h; simp only [Bool.and_eq_true, decide_eq_true_eq] at h; exact h
theorem b64_r {n : Int} (h : b64 n = true) : r64 n := by
  unfold b64 at h; simp only [Bool.and_eq_true, decide_eq_true_eq] at h; exact h
theorem i32_of {n : Int} (h : r32 n) : (Int32.ofInt n).toInt = n := Int32.toInt_ofInt_of_le h.1 h.2
theorem i64_of {n : Int} (h : r64 n) : (Int64.ofInt n).toInt = n := Int64.toInt_ofInt_of_le h.1 h.2
theorem of_i32 (x : Int32) : Int32.ofInt x.toInt = x := Int32.ofInt_toInt x
theorem of_i64 (x : Int64) : Int64.ofInt x.toInt = x := Int64.ofInt_toInt x
theorem i32_r (x : Int32) : r32 x.toInt := ⟨Int32.le_toInt x, Int32.toInt_lt x⟩
theorem i64_r (x : Int64) : r64 x.toInt := ⟨Int64.le_toInt x, Int64.toInt_lt x⟩
theorem wr_bmod (x : Int) : wr x = x.bmod (2 ^ 32) := by
  unfold wr; rw [Int.bmod_def]; omega
theorem wl_bmod (x : Int) : wl x = x.bmod (2 ^ 64) := by
  unfold wl; rw [Int.bmod_def]; omega
theorem ofInt_wr (x : Int) : Int32.ofInt (wr x) = Int32.ofInt x := by
  apply Int32.toInt_inj.mp
  rw [i32_of (wr_r x), wr_bmod, Int32.toInt_ofInt]
theorem ofInt_wl (x : Int) : Int64.ofInt (wl x) = Int64.ofInt x := by
  apply Int64.toInt_inj.mp
  rw [i64_of (wl_r x), wl_bmod, Int64.toInt_ofInt]
theorem cl_of {n : Int} (h : r32 n) : (Int32.ofInt n).toNatClampNeg = n.toNat := by
  show (Int32.ofInt n).toInt.toNat = n.toNat
  rw [i32_of h]
theorem vin_of {i : Int} {n : Nat} (hi : r32 i) (h : mInA i n) : vp_in (Int32.ofInt i) n := by
  rw [vp_in_iff, i32_of hi]; exact h
theorem lt32 {x y : Int} (hx : r32 x) (hy : r32 y) : Int32.ofInt x < Int32.ofInt y ↔ x < y := by
  rw [Int32.lt_iff_toInt_lt, i32_of hx, i32_of hy]
theorem eq32 {x y : Int} (hx : r32 x) (hy : r32 y) : Int32.ofInt x = Int32.ofInt y ↔ x = y := by
  rw [← Int32.toInt_inj, i32_of hx, i32_of hy]
theorem eq64 {x y : Int} (hx : r64 x) (hy : r64 y) : Int64.ofInt x = Int64.ofInt y ↔ x = y := by
  rw [← Int64.toInt_inj, i64_of hx, i64_of hy]
theorem lt64 {x y : Int} (hx : r64 x) (hy : r64 y) : Int64.ofInt x < Int64.ofInt y ↔ x < y := by
  rw [Int64.lt_iff_toInt_lt, i64_of hx, i64_of hy]
theorem z32 : (0 : Int32) = Int32.ofInt 0 := by decide
theorem r32_0 : r32 0 := by unfold r32; omega
theorem r64_0 : r64 0 := by unfold r64; omega
/-- a value in the real machine: ad the cells' places, kd the constants -/
def cV (ad : Nat → Nat) (kd : Nat → Value) : mV → Value
  | .inl n => .int (Int32.ofInt n)
  | .inr (.inl n) => .long (Int64.ofInt n)
  | .inr (.inr (.inl r)) => .ref (ad r)
  | .inr (.inr (.inr k)) => kd k
def cF (ad : Nat → Nat) (x : Int) : Nat → Value
  | 0 => .int (Int32.ofInt x)
  | 1 => .long (Int64.ofInt x)
  | 2 => .int (Int32.ofInt x)
  | 3 => .null
  | r + 4 => .ref (ad r)
def cQ (ad : Nat → Nat) : Option Nat → Option Nat
  | some (r + 4) => some (ad r)
  | _ => none
def cE (ad : Nat → Nat) (cA : Nat → ClassId) (f g : Nat → Int) : mSh → va_E
  | .inl (c, fs) => .inr (c, fs.mapIdx (fun k q => cF ad (f k) q))
  | .inr (1, n, _) => .inl (cA 1, n, .inr (.inl (fun j => Int64.ofInt (g j))))
  | .inr (4, n, rs) => .inl (cA 4, n, .inr (.inr (.inr (.inr (fun j => cQ ad (mFld rs j))))))
  | .inr (t, n, _) => .inl (cA t, n, .inl (fun j => Int32.ofInt (g j)))
def cW (ad : Nat → Nat) (cA : Nat → ClassId) (s : mS) : va_W := s.1.mapIdx (fun i q => (ad i, cE ad cA (s.2.1 i) (s.2.2 i) q))
def mTys (cA : Nat → ClassId) : List (ClassId × FieldType) := [(cA 0, .int), (cA 1, .long), (cA 2, .byte), (cA 3, .boolean), (cA 4, .object RX7)]
abbrev AA (h0 : Nat) : Nat → Prop := fun q => h0 ≤ q
theorem mNth_eq : ∀ (S : List mSh) (a : Nat), mNth S a = S[a]?
  | [], a => by simp [mNth]
  | _ :: _, 0 => by simp [mNth]
  | _ :: t, a + 1 => by simp [mNth, mNth_eq t a]
theorem mFld_eq : ∀ (S : List Nat) (a : Nat), mFld S a = S[a]?
  | [], a => by simp [mFld]
  | _ :: _, 0 => by simp [mFld]
  | _ :: t, a + 1 => by simp [mFld, mFld_eq t a]
theorem cW_at {ad : Nat → Nat} {cA : Nat → ClassId} {s : mS} {a : Nat} {sh : mSh} (h : mNth s.1 a = some sh) : (cW ad cA s)[a]? = some (ad a, cE ad cA (s.2.1 a) (s.2.2 a) sh) := by
  rw [mNth_eq] at h
  simp [cW, List.getElem?_mapIdx, h]
theorem mNth_lt {S : List mSh} {a : Nat} {sh : mSh} (h : mNth S a = some sh) : a < S.length := by
  rw [mNth_eq] at h; exact (List.getElem?_eq_some_iff.mp h).1
/-- what a value may be: a number of its kind, a cell that is there -/
def okV (n : Nat) : mV → Prop
  | .inl x => r32 x
  | .inr (.inl x) => r64 x
  | .inr (.inr (.inl r)) => r < n
  | .inr (.inr (.inr _)) => True
def mTy : Nat → Nat → FieldType
  | 0 => tyX0 | 1 => tyX1 | 2 => tyX2 | 3 => tyX3 | 4 => tyX4 | 5 => tyX5 | 6 => tyX6 | 7 => tyX7 | 8 => tyX8 | 9 => tyX9 | 10 => tyX10 | 11 => tyX11 | _ => tyX12
def kTy : FieldType → Nat → Prop
  | .int, f => f = 0
  | .long, f => f = 1
  | .boolean, f => f = 2
  | .object _, f => 3 ≤ f
  | .array _, f => 3 ≤ f
  | _, _ => False
def okF1 (n : Nat) (x : Int) : Nat → Prop
  | 0 => r32 x
  | 1 => r64 x
  | 2 => r32 x
  | 3 => True
  | r + 4 => r < n
def okSh (n : Nat) (f g : Nat → Int) : mSh → Prop
  | .inl (c, fs) => c ≤ 12 ∧ fs.length = (mClsOf c).2.2 ∧ ∀ k q, mFld fs k = some q → okF1 n (f k) q ∧ kTy (mTy c k) q
  | .inr (t, len, rs) => t ≤ 4 ∧ len < 2147483648 ∧ (t = 4 → ∀ j q, mFld rs j = some q → 3 ≤ q ∧ ∀ r, q = r + 4 → r < n) ∧ (t ≠ 1 ∧ t ≠ 4 → ∀ j, r32 (g j)) ∧ (t = 1 → ∀ j, r64 (g j)) ∧ (t = 4 → rs.length = len)
def okS (s : mS) : Prop := ∀ a sh, mNth s.1 a = some sh → okSh s.1.length (s.2.1 a) (s.2.2 a) sh
theorem cV_ext {ad ad' : Nat → Nat} {kd : Nat → Value} {n : Nat} (h : ∀ i, i < n → ad' i = ad i) {v : mV} (hv : okV n v) : cV ad' kd v = cV ad kd v := by
  rcases v with x | x | r | k
  · rfl
  · rfl
  · show Value.ref (ad' r) = Value.ref (ad r)
    rw [h r hv]
  · rfl
theorem cVs_ext {ad ad' : Nat → Nat} {kd : Nat → Value} {n : Nat} (h : ∀ i, i < n → ad' i = ad i) {st : List mV} (hv : ∀ v ∈ st, okV n v) : st.map (cV ad' kd) = st.map (cV ad kd) :=
  List.map_congr_left (fun v hm => cV_ext h (hv v hm))
theorem cE_ext {ad ad' : Nat → Nat} {cA : Nat → ClassId} {n : Nat} (h : ∀ i, i < n → ad' i = ad i) {f g : Nat → Int} {sh : mSh} (hs : okSh n f g sh) : cE ad' cA f g sh = cE ad cA f g sh := by
  rcases sh with ⟨c, fs⟩ | ⟨t, len, rs⟩
  · show Sum.inr _ = Sum.inr _
    congr 2
    apply List.ext_getElem?
    intro k
    simp only [List.getElem?_mapIdx]
    cases hk : fs[k]? with
    | none => rfl
    | some q =>
      have h1 := (hs.2.2 k q (by rw [mFld_eq]; exact hk)).1
      rcases q with _ | _ | _ | _ | r
      · rfl
      · rfl
      · rfl
      · rfl
      · show some (Value.ref (ad' r)) = some (Value.ref (ad r))
        rw [h r h1]
  · rcases t with _ | _ | _ | _ | _ | t
    · rfl
    · rfl
    · rfl
    · rfl
    · show Sum.inl _ = Sum.inl _
      have h1 := hs.2.2.1 rfl
      congr 7
      funext j
      cases hj : mFld rs j with
      | none => rfl
      | some q =>
        obtain ⟨h3, h4⟩ := h1 j q hj
        rcases q with _ | _ | _ | _ | r
        · rfl
        · rfl
        · rfl
        · rfl
        · show some (ad' r) = some (ad r)
          rw [h r (h4 r rfl)]
    · rfl
theorem cW_ext {ad ad' : Nat → Nat} {cA : Nat → ClassId} {s : mS} (h : ∀ i, i < s.1.length → ad' i = ad i) (hs : okS s) : cW ad' cA s = cW ad cA s := by
  unfold cW
  apply List.ext_getElem?
  intro k
  simp only [List.getElem?_mapIdx]
  cases hk : s.1[k]? with
  | none => rfl
  | some q =>
    have hk' : mNth s.1 k = some q := by rw [mNth_eq]; exact hk
    simp only [Option.map_some]
    rw [h k (mNth_lt hk'), cE_ext h (hs k q hk')]
/-- one cell is another one -/
theorem cW_set {ad : Nat → Nat} {cA : Nat → ClassId} {s s' : mS} {a : Nat} {sh' : mSh} {E : va_E} (hl : s'.1.length = s.1.length) (ha : mNth s'.1 a = some sh') (hE : cE ad cA (s'.2.1 a) (s'.2.2 a) sh' = E) (ho : ∀ i, i ≠ a → s'.1[i]? = s.1[i]? ∧ s'.2.1 i = s.2.1 i ∧ s'.2.2 i = s.2.2 i) : (cW ad cA s).set a (ad a, E) = cW ad cA s' := by
  apply List.ext_getElem?
  intro k
  rw [List.getElem?_set]
  by_cases hk : a = k
  · subst hk
    rw [if_pos rfl, cW_at ha, hE]
    have : a < (cW ad cA s).length := by simp only [cW, List.length_mapIdx]; rw [← hl]; exact mNth_lt ha
    rw [if_pos this]
  · rw [if_neg hk]
    obtain ⟨h1, h2, h3⟩ := ho k (fun h => hk h.symm)
    simp only [cW, List.getElem?_mapIdx, h1, h2, h3]
/-- a new cell behind the others -/
theorem cW_push {ad : Nat → Nat} {cA : Nat → ClassId} {S : List mSh} {f g f' g' : Nat → Nat → Int} {sh : mSh} {q : Nat} {E : va_E} (hs : okS (S, f, g)) (hE : cE (fun i => if i = S.length then q else ad i) cA (f' S.length) (g' S.length) sh = E) (ho : ∀ i, i < S.length → f' i = f i ∧ g' i = g i) : cW (fun i => if i = S.length then q else ad i) cA (S ++ [sh], f', g') = cW ad cA (S, f, g) ++ [(q, E)] := by
  have hne : ∀ i, i < S.length → (fun i => if i = S.length then q else ad i) i = ad i := fun i hi => if_neg (Nat.ne_of_lt hi)
  rw [← cW_ext (cA := cA) hne hs]
  unfold cW
  apply List.ext_getElem?
  intro k
  simp only [List.getElem?_mapIdx, List.getElem?_append, List.length_mapIdx]
  by_cases hk : k < S.length
  · rw [if_pos hk, if_pos hk, (ho k hk).1, (ho k hk).2]
  · rw [if_neg hk, if_neg hk]
    by_cases h2 : k = S.length
    · subst h2
      simp [hE]
    · have : k - S.length ≠ 0 := by omega
      obtain ⟨j, hj⟩ : ∃ j, k - S.length = j + 1 := ⟨k - S.length - 1, by omega⟩
      simp [hj]
end
section
/-! The small machine in the real one: places and steps that leave the world alone -/
def lvr (ad : Nat → Nat) (kd : Nat → Value) (ls : Array Slot) (nL : Nat) (L : mL) : Prop := ls.size = nL ∧ lv_wf ls ∧ ∀ i v, mGet L i = some v → ls[i]? = some (.val (cV ad kd v))
def Rl (R : Room) (s : State) (D : va_G) (cA : Nat → ClassId) (kd : Nat → Value) (h0 n0 : Nat) (ad0 : Nat → Nat) (nL : Nat) (L : mL) (st : List mV) (sg : mS) (b : mB) (ad : Nat → Nat) (H : Heap) (locs : List Loc) (cells slots : Nat) (ls : Array Slot) : Prop :=
  va_P D mCls (cW ad cA sg) H ∧ va_D (AA h0) (cW ad cA sg) ∧ va_S (AA h0) s.heap H locs ∧ lvr ad kd ls nL L ∧ okS sg ∧ (∀ i v, mGet L i = some v → okV sg.1.length v) ∧ (∀ v ∈ st, okV sg.1.length v) ∧ (cells + b.1 ≤ R.cells ∧ slots + b.2 ≤ R.slots) ∧ n0 ≤ sg.1.length ∧ ∀ i, i < n0 → ad i = ad0 i
def Sim (p : Program) (l : Launch) (e : Env) (R : Room) (s : State) (m : MethodId) (args : Array Value) (below : List Frame) (meth : Method) (c : Code) (Qf : State → Prop) (D : va_G) (cA : Nat → ClassId) (kd : Nat → Value) (h0 n0 : Nat) (ad0 : Nat → Nat) (nL : Nat) : mX := fun pc L st sg b =>
  ∀ (ad : Nat → Nat) (H : Heap) (locs : List Loc) (cells slots : Nat) (ls : Array Slot), Rl R s D cA kd h0 n0 ad0 nL L st sg b ad H locs cells slots ls → W p l e R s m args below meth c H locs cells slots Qf (F0 m pc ls (st.map (cV ad kd)))
theorem mGet_set {v w : mV} : ∀ {L : mL} {i j : Nat}, mGet (mSet L i v) j = some w → (j = i ∧ w = v) ∨ (j ≠ i ∧ mGet L j = some w ∧ (j + 1 = i → ∀ z, w ≠ vL z))
  | [], i, j, h => by simp [mSet, mGet] at h
  | x :: t, 0, 0, h => by simp [mSet, mGet] at h; exact Or.inl ⟨rfl, h.symm⟩
  | x :: t, 0, j + 1, h => by
    refine Or.inr ⟨by omega, ?_, by omega⟩
    simpa [mSet, mGet] using h
  | x :: t, i + 1, 0, h => by
    refine Or.inr ⟨by omega, ?_⟩
    rcases i with _ | i
    · simp only [mSet, mGet] at h
      rcases x with _ | (n | n | n | n)
      · simp [mClr] at h
      · simp [mClr] at h; subst h; exact ⟨rfl, fun _ z hz => by cases hz⟩
      · simp [mClr] at h
      · simp [mClr] at h; subst h; exact ⟨rfl, fun _ z hz => by cases hz⟩
      · simp [mClr] at h; subst h; exact ⟨rfl, fun _ z hz => by cases hz⟩
    · simp only [mSet, mGet] at h
      exact ⟨h, fun h1 => absurd h1 (by omega)⟩
  | x :: t, i + 1, j + 1, h => by
    simp only [mSet, mGet] at h
    rcases mGet_set (L := t) (i := i) (j := j) h with ⟨h1, h2⟩ | ⟨h1, h2, h3⟩
    · exact Or.inl ⟨by omega, h2⟩
    · exact Or.inr ⟨by omega, h2, fun q => h3 (by omega)⟩
theorem mSet2_cons (x : Option mV) (t : mL) (i : Nat) (v : mV) : mSet2 (x :: t) (i + 1) v = (match i with | 0 => mClr x | _ => x) :: mSet2 t i v := by cases t <;> rfl
theorem mGet_set2 {v w : mV} : ∀ {L : mL} {i j : Nat}, mGet (mSet2 L i v) j = some w → (j = i ∧ w = v) ∨ (j ≠ i ∧ j ≠ i + 1 ∧ mGet L j = some w ∧ (j + 1 = i → ∀ z, w ≠ vL z))
  | [], i, j, h => by simp [mSet2, mGet] at h
  | [x], 0, 0, h => by simp [mSet2, mGet] at h; exact Or.inl ⟨rfl, h.symm⟩
  | x :: y :: t, 0, 0, h => by simp [mSet2, mGet] at h; exact Or.inl ⟨rfl, h.symm⟩
  | [x], 0, j + 1, h => by simp [mSet2, mGet] at h
  | x :: y :: t, 0, 1, h => by simp [mSet2, mGet] at h
  | x :: y :: t, 0, j + 2, h => by
    refine Or.inr ⟨by omega, by omega, ?_, by omega⟩
    simpa [mSet2, mGet] using h
  | x :: t, i + 1, 0, h => by
    refine Or.inr ⟨by omega, by omega, ?_⟩
    rcases i with _ | i
    · simp only [mSet2_cons, mGet] at h
      rcases x with _ | (n | n | n | n)
      · simp [mClr] at h
      · simp [mClr] at h; subst h; exact ⟨rfl, fun _ z hz => by cases hz⟩
      · simp [mClr] at h
      · simp [mClr] at h; subst h; exact ⟨rfl, fun _ z hz => by cases hz⟩
      · simp [mClr] at h; subst h; exact ⟨rfl, fun _ z hz => by cases hz⟩
    · simp only [mSet2_cons, mGet] at h
      exact ⟨h, fun h1 => absurd h1 (by omega)⟩
  | x :: t, i + 1, j + 1, h => by
    have h : mGet (mSet2 t i v) j = some w := by simpa [mSet2_cons, mGet] using h
    rcases mGet_set2 (L := t) (i := i) (j := j) h with ⟨h1, h2⟩ | ⟨h1, h2, h3, h4⟩
    · exact Or.inl ⟨by omega, h2⟩
    · exact Or.inr ⟨by omega, by omega, h3, fun q => h4 (by omega)⟩
/-- the locals as the kit lists them -/
def lsOf (ad : Nat → Nat) (kd : Nat → Value) (L : mL) : List (Nat × Value) := (List.range L.length).filterMap (fun i => (mGet L i).map (fun v => (i, cV ad kd v)))
theorem mGet_lt {v : mV} : ∀ {L : mL} {i : Nat}, mGet L i = some v → i < L.length
  | [], _, h => by simp [mGet] at h
  | _ :: _, 0, _ => by simp
  | _ :: t, i + 1, h => by
    have := mGet_lt (L := t) (i := i) (by simpa [mGet] using h)
    simp; omega
theorem lsOf_has {ad : Nat → Nat} {kd : Nat → Value} {ls : Array Slot} {nL : Nat} {L : mL} (h : lvr ad kd ls nL L) : lv_has ls nL (lsOf ad kd L) := by
  refine ⟨h.1, h.2.1, fun q hq => ?_⟩
  obtain ⟨i, -, hi⟩ := List.mem_filterMap.mp hq
  cases hg : mGet L i with
  | none => rw [hg] at hi; cases hi
  | some v => rw [hg] at hi; cases hi; exact h.2.2 i v hg
theorem lsOf_mem {ad : Nat → Nat} {kd : Nat → Value} {L : mL} {i : Nat} {v : mV} (h : mGet L i = some v) : (i, cV ad kd v) ∈ lsOf ad kd L := by
  refine List.mem_filterMap.mpr ⟨i, List.mem_range.mpr (mGet_lt h), ?_⟩
  rw [h]; rfl
theorem cV_cat {ad : Nat → Nat} {kd : Nat → Value} (hk : ∀ k, (kd k).category = 1) (v : mV) (h : (cV ad kd v).category = 2) : ∃ z, v = vL z := by
  rcases v with n | n | n | n
  · simp [cV, Value.category] at h
  · exact ⟨n, rfl⟩
  · simp [cV, Value.category] at h
  · simp only [cV, hk] at h
    omega
theorem lvr_set {ad : Nat → Nat} {kd : Nat → Value} (hk : ∀ k, (kd k).category = 1) {ls' : Array Slot} {nL : Nat} {L : mL} {i : Nat} {v : mV} (h : lv_has ls' nL ((i, cV ad kd v) :: (lsOf ad kd L).filter (fun q => !(q.1 == i) && !(q.1 + 1 == i && q.2.category == 2)))) : lvr ad kd ls' nL (mSet L i v) := by
  refine ⟨h.1, h.2.1, fun j w hj => ?_⟩
  rcases mGet_set hj with ⟨rfl, rfl⟩ | ⟨h1, h2, h3⟩
  · exact h.2.2 (j, cV ad kd w) List.mem_cons_self
  · refine h.2.2 (j, cV ad kd w) (List.mem_cons_of_mem _ (List.mem_filter.mpr ⟨lsOf_mem h2, ?_⟩))
    simp only [Bool.and_eq_true, Bool.not_eq_true', beq_eq_false_iff_ne, ne_eq, Bool.and_eq_false_iff]
    refine ⟨h1, ?_⟩
    by_cases hc : (cV ad kd w).category = 2
    · obtain ⟨z, hz⟩ := cV_cat hk w hc
      exact Or.inl (fun q => h3 q z hz)
    · exact Or.inr hc
theorem lvr_set2 {ad : Nat → Nat} {kd : Nat → Value} (hk : ∀ k, (kd k).category = 1) {ls' : Array Slot} {nL : Nat} {L : mL} {i : Nat} {v : mV} (h : lv_has ls' nL ((i, cV ad kd v) :: (lsOf ad kd L).filter (fun q => !(q.1 == i) && (!(q.1 == i + 1) && !(q.1 + 1 == i && q.2.category == 2))))) : lvr ad kd ls' nL (mSet2 L i v) := by
  refine ⟨h.1, h.2.1, fun j w hj => ?_⟩
  rcases mGet_set2 hj with ⟨rfl, rfl⟩ | ⟨h1, h1', h2, h3⟩
  · exact h.2.2 (j, cV ad kd w) List.mem_cons_self
  · refine h.2.2 (j, cV ad kd w) (List.mem_cons_of_mem _ (List.mem_filter.mpr ⟨lsOf_mem h2, ?_⟩))
    simp only [Bool.and_eq_true, Bool.not_eq_true', beq_eq_false_iff_ne, ne_eq, Bool.and_eq_false_iff]
    refine ⟨h1, h1', ?_⟩
    by_cases hc : (cV ad kd w).category = 2
    · obtain ⟨z, hz⟩ := cV_cat hk w hc
      exact Or.inl (fun q => h3 q z hz)
    · exact Or.inr hc

section SIMB
variable {p : Program} {l : Launch} {e : Env} {R : Room} {s : State} {m : MethodId} {args : Array Value} {below : List Frame} {meth : Method} {c : Code} {Qf : State → Prop}
variable {D : va_G} {cA : Nat → ClassId} {kd : Nat → Value} {h0 n0 nL : Nat} {ad0 : Nat → Nat} {cc : ByteArray} {pc : Nat} {L : mL} {r st : List mV} {sg : mS} {b : mB}


theorem Rl.st' {ad : Nat → Nat} {H : Heap} {locs : List Loc} {cells slots : Nat} {ls : Array Slot} {st' : List mV} (h : Rl R s D cA kd h0 n0 ad0 nL L st sg b ad H locs cells slots ls) (h' : ∀ v ∈ st', okV sg.1.length v) : Rl R s D cA kd h0 n0 ad0 nL L st' sg b ad H locs cells slots ls :=
  ⟨h.1, h.2.1, h.2.2.1, h.2.2.2.1, h.2.2.2.2.1, h.2.2.2.2.2.1, h', h.2.2.2.2.2.2.2⟩
theorem Rl.ok {ad : Nat → Nat} {H : Heap} {locs : List Loc} {cells slots : Nat} {ls : Array Slot} (h : Rl R s D cA kd h0 n0 ad0 nL L st sg b ad H locs cells slots ls) : ∀ v ∈ st, okV sg.1.length v := h.2.2.2.2.2.2.1
theorem Rl.lv {ad : Nat → Nat} {H : Heap} {locs : List Loc} {cells slots : Nat} {ls : Array Slot} (h : Rl R s D cA kd h0 n0 ad0 nL L st sg b ad H locs cells slots ls) : lvr ad kd ls nL L := h.2.2.2.1
theorem Rl.okl {ad : Nat → Nat} {H : Heap} {locs : List Loc} {cells slots : Nat} {ls : Array Slot} (h : Rl R s D cA kd h0 n0 ad0 nL L st sg b ad H locs cells slots ls) : ∀ i v, mGet L i = some v → okV sg.1.length v := h.2.2.2.2.2.1
theorem Rl.setl {ad : Nat → Nat} {H : Heap} {locs : List Loc} {cells slots : Nat} {ls ls' : Array Slot} {L' : mL} {st' : List mV} (h : Rl R s D cA kd h0 n0 ad0 nL L st sg b ad H locs cells slots ls) (hl : lvr ad kd ls' nL L') (ho : ∀ i v, mGet L' i = some v → okV sg.1.length v) (h' : ∀ v ∈ st', okV sg.1.length v) : Rl R s D cA kd h0 n0 ad0 nL L' st' sg b ad H locs cells slots ls' :=
  ⟨h.1, h.2.1, h.2.2.1, hl, h.2.2.2.2.1, ho, h', h.2.2.2.2.2.2.2⟩
theorem okV_set {n i : Nat} {v : mV} (hL : ∀ i v, mGet L i = some v → okV n v) (hv : okV n v) : ∀ j w, mGet (mSet L i v) j = some w → okV n w := by
  intro j w h
  rcases mGet_set h with ⟨-, rfl⟩ | ⟨-, h2, -⟩
  · exact hv
  · exact hL j w h2
theorem okV_set2 {n i : Nat} {v : mV} (hL : ∀ i v, mGet L i = some v → okV n v) (hv : okV n v) : ∀ j w, mGet (mSet2 L i v) j = some w → okV n w := by
  intro j w h
  rcases mGet_set2 h with ⟨-, rfl⟩ | ⟨-, -, h2, -⟩
  · exact hv
  · exact hL j w h2

theorem sm_iconst (hx : p.tables.exec = Jvm.exec) (hb : c.code = cc) {i : Int} (hdg : decode cc pc = .ok (.iconst i, 1)) (hi : r32 i) (h : Sim p l e R s m args below meth c Qf D cA kd h0 n0 ad0 nL (pc + 1) L (vI i :: st) sg b) : Sim p l e R s m args below meth c Qf D cA kd h0 n0 ad0 nL pc L st sg b := by
  intro ad H locs cells slots ls hR
  refine lv_iconst (v := Int32.ofInt i) hx hb hdg rfl ?_
  exact h ad H locs cells slots ls (hR.st' (List.forall_mem_cons.mpr ⟨hi, hR.ok⟩))

theorem sm_bipush (hx : p.tables.exec = Jvm.exec) (hb : c.code = cc) {i : Int} (hdg : decode cc pc = .ok (.bipush i, 2)) (hi : r32 i) (hv : (Int8.ofInt i).toInt32 = Int32.ofInt i) (h : Sim p l e R s m args below meth c Qf D cA kd h0 n0 ad0 nL (pc + 2) L (vI i :: st) sg b) : Sim p l e R s m args below meth c Qf D cA kd h0 n0 ad0 nL pc L st sg b := by
  intro ad H locs cells slots ls hR
  refine lv_bipush (v := Int32.ofInt i) hx hb hdg hv ?_
  exact h ad H locs cells slots ls (hR.st' (List.forall_mem_cons.mpr ⟨hi, hR.ok⟩))

theorem sm_sipush (hx : p.tables.exec = Jvm.exec) (hb : c.code = cc) {i : Int} (hdg : decode cc pc = .ok (.sipush i, 3)) (hi : r32 i) (hv : (Int16.ofInt i).toInt32 = Int32.ofInt i) (h : Sim p l e R s m args below meth c Qf D cA kd h0 n0 ad0 nL (pc + 3) L (vI i :: st) sg b) : Sim p l e R s m args below meth c Qf D cA kd h0 n0 ad0 nL pc L st sg b := by
  intro ad H locs cells slots ls hR
  refine lv_sipush (v := Int32.ofInt i) hx hb hdg hv ?_
  exact h ad H locs cells slots ls (hR.st' (List.forall_mem_cons.mpr ⟨hi, hR.ok⟩))

theorem sm_ldc (hx : p.tables.exec = Jvm.exec) (hb : c.code = cc) {i : Nat} {n : Int} {own : String} (hdg : decode cc pc = .ok (.ldc i, 2)) (hi : r32 n) (hown : s.vm.findClass own = some m.cls) (hc : (Jvm.Cond.constant own i (Int32.ofInt n)).before args s = true) (h : Sim p l e R s m args below meth c Qf D cA kd h0 n0 ad0 nL (pc + 2) L (vI n :: st) sg b) : Sim p l e R s m args below meth c Qf D cA kd h0 n0 ad0 nL pc L st sg b := by
  intro ad H locs cells slots ls hR
  refine lv_ldc hx hb hown hc hdg ?_
  exact h ad H locs cells slots ls (hR.st' (List.forall_mem_cons.mpr ⟨hi, hR.ok⟩))

theorem sm_ldc_w (hx : p.tables.exec = Jvm.exec) (hb : c.code = cc) {i : Nat} {n : Int} {own : String} (hdg : decode cc pc = .ok (.ldc_w i, 3)) (hi : r32 n) (hown : s.vm.findClass own = some m.cls) (hc : (Jvm.Cond.constant own i (Int32.ofInt n)).before args s = true) (h : Sim p l e R s m args below meth c Qf D cA kd h0 n0 ad0 nL (pc + 3) L (vI n :: st) sg b) : Sim p l e R s m args below meth c Qf D cA kd h0 n0 ad0 nL pc L st sg b := by
  intro ad H locs cells slots ls hR
  refine lv_ldcw hx hb hown hc hdg ?_
  exact h ad H locs cells slots ls (hR.st' (List.forall_mem_cons.mpr ⟨hi, hR.ok⟩))

theorem sm_ldc2_w (hx : p.tables.exec = Jvm.exec) (hb : c.code = cc) {i : Nat} {n : Int} {own : String} (hdg : decode cc pc = .ok (.ldc2_w i, 3)) (hi : r64 n) (hown : s.vm.findClass own = some m.cls) (hc : (Jvm.Cond.constantLong own i (Int64.ofInt n)).before args s = true) (h : Sim p l e R s m args below meth c Qf D cA kd h0 n0 ad0 nL (pc + 3) L (vL n :: st) sg b) : Sim p l e R s m args below meth c Qf D cA kd h0 n0 ad0 nL pc L st sg b := by
  intro ad H locs cells slots ls hR
  refine lv_ldc2 hx hb hown hc hdg ?_
  exact h ad H locs cells slots ls (hR.st' (List.forall_mem_cons.mpr ⟨hi, hR.ok⟩))

theorem sm_lconst (hx : p.tables.exec = Jvm.exec) (hb : c.code = cc) {i : Fin 2} (hdg : decode cc pc = .ok (.lconst i, 1)) (h : Sim p l e R s m args below meth c Qf D cA kd h0 n0 ad0 nL (pc + 1) L (vL (i.val : Int) :: st) sg b) : Sim p l e R s m args below meth c Qf D cA kd h0 n0 ad0 nL pc L st sg b := by
  intro ad H locs cells slots ls hR
  refine lv_lconst (v := Int64.ofInt (i.val : Int)) hx hb hdg (by rcases i with ⟨i, hi⟩; rcases (show i = 0 ∨ i = 1 by omega) with rfl | rfl <;> rfl) ?_
  exact h ad H locs cells slots ls (hR.st' (List.forall_mem_cons.mpr ⟨by show r64 _; have := i.isLt; unfold r64; omega, hR.ok⟩))

theorem sm_iload (hx : p.tables.exec = Jvm.exec) (hb : c.code = cc) {i : Nat} {n : Int} (hdg : decode cc pc = .ok (.iload i, 2)) (hg : mGet L i = some (vI n)) (h : Sim p l e R s m args below meth c Qf D cA kd h0 n0 ad0 nL (pc + 2) L (vI n :: st) sg b) : Sim p l e R s m args below meth c Qf D cA kd h0 n0 ad0 nL pc L st sg b := by
  intro ad H locs cells slots ls hR
  refine lv_iload hx hb hdg (hR.lv.2.2 i _ hg) ?_
  exact h ad H locs cells slots ls (hR.st' (List.forall_mem_cons.mpr ⟨hR.okl i _ hg, hR.ok⟩))

theorem sm_lload (hx : p.tables.exec = Jvm.exec) (hb : c.code = cc) {i : Nat} {n : Int} (hdg : decode cc pc = .ok (.lload i, 2)) (hg : mGet L i = some (vL n)) (h : Sim p l e R s m args below meth c Qf D cA kd h0 n0 ad0 nL (pc + 2) L (vL n :: st) sg b) : Sim p l e R s m args below meth c Qf D cA kd h0 n0 ad0 nL pc L st sg b := by
  intro ad H locs cells slots ls hR
  refine lv_lload hx hb hdg (hR.lv.2.2 i _ hg) ?_
  exact h ad H locs cells slots ls (hR.st' (List.forall_mem_cons.mpr ⟨hR.okl i _ hg, hR.ok⟩))

theorem sm_iload_n (hx : p.tables.exec = Jvm.exec) (hb : c.code = cc) {i : Fin 4} {n : Int} (hdg : decode cc pc = .ok (.iload_n i, 1)) (hg : mGet L i.val = some (vI n)) (h : Sim p l e R s m args below meth c Qf D cA kd h0 n0 ad0 nL (pc + 1) L (vI n :: st) sg b) : Sim p l e R s m args below meth c Qf D cA kd h0 n0 ad0 nL pc L st sg b := by
  intro ad H locs cells slots ls hR
  refine lv_iload_n hx hb hdg rfl (hR.lv.2.2 _ _ hg) ?_
  exact h ad H locs cells slots ls (hR.st' (List.forall_mem_cons.mpr ⟨hR.okl _ _ hg, hR.ok⟩))

theorem sm_lload_n (hx : p.tables.exec = Jvm.exec) (hb : c.code = cc) {i : Fin 4} {n : Int} (hdg : decode cc pc = .ok (.lload_n i, 1)) (hg : mGet L i.val = some (vL n)) (h : Sim p l e R s m args below meth c Qf D cA kd h0 n0 ad0 nL (pc + 1) L (vL n :: st) sg b) : Sim p l e R s m args below meth c Qf D cA kd h0 n0 ad0 nL pc L st sg b := by
  intro ad H locs cells slots ls hR
  refine lv_lload_n hx hb hdg rfl (hR.lv.2.2 _ _ hg) ?_
  exact h ad H locs cells slots ls (hR.st' (List.forall_mem_cons.mpr ⟨hR.okl _ _ hg, hR.ok⟩))

theorem sm_aload (hx : p.tables.exec = Jvm.exec) (hb : c.code = cc) (hkd : ∀ k, kd k = .null ∨ ∃ a, kd k = .ref a) {i : Nat} {n : Nat ⊕ Nat} (hdg : decode cc pc = .ok (.aload i, 2)) (hg : mGet L i = some (.inr (.inr n))) (h : Sim p l e R s m args below meth c Qf D cA kd h0 n0 ad0 nL (pc + 2) L (.inr (.inr n) :: st) sg b) : Sim p l e R s m args below meth c Qf D cA kd h0 n0 ad0 nL pc L st sg b := by
  intro ad H locs cells slots ls hR
  have h1 := h ad H locs cells slots ls (hR.st' (List.forall_mem_cons.mpr ⟨hR.okl _ _ hg, hR.ok⟩))
  have h2 := hR.lv.2.2 _ _ hg
  rcases n with r | k
  · exact lv_aload hx hb hdg h2 h1
  · rcases hkd k with e | ⟨a, e⟩
    · have e' : cV ad kd (.inr (.inr (.inr k))) = .null := e
      rw [e'] at h2
      rw [List.map_cons, e'] at h1
      exact lv_aloadN hx hb hdg h2 h1
    · have e' : cV ad kd (.inr (.inr (.inr k))) = .ref a := e
      rw [e'] at h2
      rw [List.map_cons, e'] at h1
      exact lv_aload hx hb hdg h2 h1

theorem sm_aload_n (hx : p.tables.exec = Jvm.exec) (hb : c.code = cc) (hkd : ∀ k, kd k = .null ∨ ∃ a, kd k = .ref a) {i : Fin 4} {n : Nat ⊕ Nat} (hdg : decode cc pc = .ok (.aload_n i, 1)) (hg : mGet L i.val = some (.inr (.inr n))) (h : Sim p l e R s m args below meth c Qf D cA kd h0 n0 ad0 nL (pc + 1) L (.inr (.inr n) :: st) sg b) : Sim p l e R s m args below meth c Qf D cA kd h0 n0 ad0 nL pc L st sg b := by
  intro ad H locs cells slots ls hR
  have h1 := h ad H locs cells slots ls (hR.st' (List.forall_mem_cons.mpr ⟨hR.okl _ _ hg, hR.ok⟩))
  have h2 := hR.lv.2.2 _ _ hg
  rcases n with r | k
  · exact lv_aload_n hx hb hdg rfl h2 h1
  · rcases hkd k with e | ⟨a, e⟩
    · have e' : cV ad kd (.inr (.inr (.inr k))) = .null := e
      rw [e'] at h2
      rw [List.map_cons, e'] at h1
      exact lv_aload_nN hx hb hdg rfl h2 h1
    · have e' : cV ad kd (.inr (.inr (.inr k))) = .ref a := e
      rw [e'] at h2
      rw [List.map_cons, e'] at h1
      exact lv_aload_n hx hb hdg rfl h2 h1

theorem sm_istore (hx : p.tables.exec = Jvm.exec) (hb : c.code = cc) (hk1 : ∀ k, (kd k).category = 1) {i : Nat} {n : Int} (hdg : decode cc pc = .ok (.istore i, 2)) (hn : i < nL) (h : Sim p l e R s m args below meth c Qf D cA kd h0 n0 ad0 nL (pc + 2) (mSet L i (vI n)) r sg b) : Sim p l e R s m args below meth c Qf D cA kd h0 n0 ad0 nL pc L (vI n :: r) sg b := by
  intro ad H locs cells slots ls hR
  obtain ⟨ov, ok⟩ := List.forall_mem_cons.mp hR.ok
  refine lv_istore hx hb hdg (lsOf_has hR.lv) hn rfl (fun ls' hl' => ?_)
  exact h ad H locs cells slots ls' (hR.setl (lvr_set (v := vI n) hk1 hl') (okV_set hR.okl ov) ok)

theorem sm_istore_n (hx : p.tables.exec = Jvm.exec) (hb : c.code = cc) (hk1 : ∀ k, (kd k).category = 1) {i : Fin 4} {n : Int} (hdg : decode cc pc = .ok (.istore_n i, 1)) (hn : i.val < nL) (h : Sim p l e R s m args below meth c Qf D cA kd h0 n0 ad0 nL (pc + 1) (mSet L i.val (vI n)) r sg b) : Sim p l e R s m args below meth c Qf D cA kd h0 n0 ad0 nL pc L (vI n :: r) sg b := by
  intro ad H locs cells slots ls hR
  obtain ⟨ov, ok⟩ := List.forall_mem_cons.mp hR.ok
  refine lv_istore_n hx hb hdg rfl (lsOf_has hR.lv) hn rfl (fun ls' hl' => ?_)
  exact h ad H locs cells slots ls' (hR.setl (lvr_set (v := vI n) hk1 hl') (okV_set hR.okl ov) ok)

theorem sm_lstore (hx : p.tables.exec = Jvm.exec) (hb : c.code = cc) (hk1 : ∀ k, (kd k).category = 1) {i : Nat} {n : Int} (hdg : decode cc pc = .ok (.lstore i, 2)) (hn : i + 1 < nL) (h : Sim p l e R s m args below meth c Qf D cA kd h0 n0 ad0 nL (pc + 2) (mSet2 L i (vL n)) r sg b) : Sim p l e R s m args below meth c Qf D cA kd h0 n0 ad0 nL pc L (vL n :: r) sg b := by
  intro ad H locs cells slots ls hR
  obtain ⟨ov, ok⟩ := List.forall_mem_cons.mp hR.ok
  refine lv_lstore hx hb hdg (lsOf_has hR.lv) hn rfl (fun ls' hl' => ?_)
  exact h ad H locs cells slots ls' (hR.setl (lvr_set2 (v := vL n) hk1 hl') (okV_set2 hR.okl ov) ok)

theorem sm_lstore_n (hx : p.tables.exec = Jvm.exec) (hb : c.code = cc) (hk1 : ∀ k, (kd k).category = 1) {i : Fin 4} {n : Int} (hdg : decode cc pc = .ok (.lstore_n i, 1)) (hn : i.val + 1 < nL) (h : Sim p l e R s m args below meth c Qf D cA kd h0 n0 ad0 nL (pc + 1) (mSet2 L i.val (vL n)) r sg b) : Sim p l e R s m args below meth c Qf D cA kd h0 n0 ad0 nL pc L (vL n :: r) sg b := by
  intro ad H locs cells slots ls hR
  obtain ⟨ov, ok⟩ := List.forall_mem_cons.mp hR.ok
  refine lv_lstore_n hx hb hdg rfl (lsOf_has hR.lv) hn rfl (fun ls' hl' => ?_)
  exact h ad H locs cells slots ls' (hR.setl (lvr_set2 (v := vL n) hk1 hl') (okV_set2 hR.okl ov) ok)

theorem sm_astore (hx : p.tables.exec = Jvm.exec) (hb : c.code = cc) (hkd : ∀ k, kd k = .null ∨ ∃ a, kd k = .ref a) (hk1 : ∀ k, (kd k).category = 1) {i : Nat} {n : Nat ⊕ Nat} (hdg : decode cc pc = .ok (.astore i, 2)) (hn : i < nL) (h : Sim p l e R s m args below meth c Qf D cA kd h0 n0 ad0 nL (pc + 2) (mSet L i (.inr (.inr n))) r sg b) : Sim p l e R s m args below meth c Qf D cA kd h0 n0 ad0 nL pc L (.inr (.inr n) :: r) sg b := by
  intro ad H locs cells slots ls hR
  obtain ⟨ov, ok⟩ := List.forall_mem_cons.mp hR.ok
  have key : ∀ ls' : Array Slot, lv_has ls' nL ((i, cV ad kd (.inr (.inr n))) :: (lsOf ad kd L).filter (fun q => !(q.1 == i) && !(q.1 + 1 == i && q.2.category == 2))) → W p l e R s m args below meth c H locs cells slots Qf (F0 m (pc + 2) ls' (r.map (cV ad kd))) :=
    fun ls' hl' => h ad H locs cells slots ls' (hR.setl (lvr_set hk1 hl') (okV_set hR.okl ov) ok)
  rcases n with q | k
  · exact lv_astore hx hb hdg (lsOf_has hR.lv) hn rfl key
  · rcases hkd k with e | ⟨a, e⟩
    · have e' : cV ad kd (.inr (.inr (.inr k))) = .null := e
      rw [List.map_cons]
      rw [e'] at key ⊢
      exact lv_astoreN hx hb hdg (lsOf_has hR.lv) hn rfl key
    · have e' : cV ad kd (.inr (.inr (.inr k))) = .ref a := e
      rw [List.map_cons]
      rw [e'] at key ⊢
      exact lv_astore hx hb hdg (lsOf_has hR.lv) hn rfl key

theorem sm_astore_n (hx : p.tables.exec = Jvm.exec) (hb : c.code = cc) (hkd : ∀ k, kd k = .null ∨ ∃ a, kd k = .ref a) (hk1 : ∀ k, (kd k).category = 1) {i : Fin 4} {n : Nat ⊕ Nat} (hdg : decode cc pc = .ok (.astore_n i, 1)) (hn : i.val < nL) (h : Sim p l e R s m args below meth c Qf D cA kd h0 n0 ad0 nL (pc + 1) (mSet L i.val (.inr (.inr n))) r sg b) : Sim p l e R s m args below meth c Qf D cA kd h0 n0 ad0 nL pc L (.inr (.inr n) :: r) sg b := by
  intro ad H locs cells slots ls hR
  obtain ⟨ov, ok⟩ := List.forall_mem_cons.mp hR.ok
  have key : ∀ ls' : Array Slot, lv_has ls' nL ((i.val, cV ad kd (.inr (.inr n))) :: (lsOf ad kd L).filter (fun q => !(q.1 == i.val) && !(q.1 + 1 == i.val && q.2.category == 2))) → W p l e R s m args below meth c H locs cells slots Qf (F0 m (pc + 1) ls' (r.map (cV ad kd))) :=
    fun ls' hl' => h ad H locs cells slots ls' (hR.setl (lvr_set hk1 hl') (okV_set hR.okl ov) ok)
  rcases n with q | k
  · exact lv_astore_n hx hb hdg rfl (lsOf_has hR.lv) hn rfl key
  · rcases hkd k with e | ⟨a, e⟩
    · have e' : cV ad kd (.inr (.inr (.inr k))) = .null := e
      rw [List.map_cons]
      rw [e'] at key ⊢
      exact lv_astore_nN hx hb hdg rfl (lsOf_has hR.lv) hn rfl key
    · have e' : cV ad kd (.inr (.inr (.inr k))) = .ref a := e
      rw [List.map_cons]
      rw [e'] at key ⊢
      exact lv_astore_n hx hb hdg rfl (lsOf_has hR.lv) hn rfl key

end SIMB
end
section
/-! The small machine in the real one: numbers and branches -/

theorem e_add (x y : Int) : Int32.ofInt x + Int32.ofInt y = Int32.ofInt (wr (x + y)) := by rw [ofInt_wr, Int32.ofInt_add]
theorem e_sub (x y : Int) : Int32.ofInt x - Int32.ofInt y = Int32.ofInt (wr (x - y)) := by rw [ofInt_wr, Int32.ofInt_sub]
theorem e_mul (x y : Int) : Int32.ofInt x * Int32.ofInt y = Int32.ofInt (wr (x * y)) := by rw [ofInt_wr, Int32.ofInt_mul]
theorem e_neg (x : Int) : -Int32.ofInt x = Int32.ofInt (wr (-x)) := by rw [ofInt_wr, Int32.ofInt_neg]
theorem e_div {x y : Int} (hx : r32 x) (hy : r32 y) : Int32.ofInt x / Int32.ofInt y = Int32.ofInt (wr (x.tdiv y)) := by
  apply Int32.toInt_inj.mp
  rw [i32_of (wr_r _), wr_bmod, Int32.toInt_div, i32_of hx, i32_of hy]
theorem e_rem {x y : Int} (hx : r32 x) (hy : r32 y) : (Int32.ofInt x - Int32.ofInt x / Int32.ofInt y * Int32.ofInt y).toInt = x.tmod y := by
  rw [rem_toInt, i32_of hx, i32_of hy]
theorem l_add (x y : Int) : Int64.ofInt x + Int64.ofInt y = Int64.ofInt (wl (x + y)) := by rw [ofInt_wl, Int64.ofInt_add]
theorem l_sub (x y : Int) : Int64.ofInt x - Int64.ofInt y = Int64.ofInt (wl (x - y)) := by rw [ofInt_wl, Int64.ofInt_sub]
theorem l_mul (x y : Int) : Int64.ofInt x * Int64.ofInt y = Int64.ofInt (wl (x * y)) := by rw [ofInt_wl, Int64.ofInt_mul]
theorem l_div {x y : Int} (hx : r64 x) (hy : r64 y) : Int64.ofInt x / Int64.ofInt y = Int64.ofInt (wl (x.tdiv y)) := by
  apply Int64.toInt_inj.mp
  rw [i64_of (wl_r _), wl_bmod, Int64.toInt_div, i64_of hx, i64_of hy]
theorem l_remE (x y : Int64) : x - x / y * y = x % y := by
  apply Int64.toInt_inj.mp
  rw [Int64.toInt_sub, Int64.toInt_mul, Int64.toInt_div, Int64.toInt_mod]
  have h : x.toInt.tmod y.toInt = x.toInt - x.toInt.tdiv y.toInt * y.toInt := by
    have h1 := Int.tmod_add_mul_tdiv x.toInt y.toInt
    rw [Int.mul_comm] at h1
    omega
  have h2 : r64 (x.toInt.tmod y.toInt) := by
    rw [← Int64.toInt_mod]; exact i64_r _
  have h3 := wl_id h2
  rw [wl_bmod] at h3
  have h4 : (x.toInt - ((x.toInt.tdiv y.toInt).bmod (2 ^ 64) * y.toInt).bmod (2 ^ 64)).bmod (2 ^ 64) = (x.toInt - x.toInt.tdiv y.toInt * y.toInt).bmod (2 ^ 64) := by
    simp
  rw [h4, ← h, h3]
theorem l_rem {x y : Int} (hx : r64 x) (hy : r64 y) : (Int64.ofInt x - Int64.ofInt x / Int64.ofInt y * Int64.ofInt y).toInt = x.tmod y := by
  rw [l_remE, Int64.toInt_mod, i64_of hx, i64_of hy]
theorem e_l2i (x : Int) : (Int64.ofInt x).toInt32 = Int32.ofInt (wr x) := by rw [ofInt_wr, Int64.toInt32_ofInt]
theorem e_i2l {x : Int} (hx : r32 x) : (Int32.ofInt x).toInt64 = Int64.ofInt x := by
  apply Int64.toInt_inj.mp
  rw [Int32.toInt_toInt64, i32_of hx, i64_of (r32_64 hx)]
theorem e_lcmp {x y : Int} (hx : r64 x) (hy : r64 y) : lg_cmp (Int64.ofInt x) (Int64.ofInt y) = Int32.ofInt (lCmp x y) := by
  unfold lg_cmp lCmp
  by_cases h1 : y < x
  · rw [if_pos h1, if_pos (show Int64.ofInt x > Int64.ofInt y from (lt64 hy hx).mpr h1)]; rfl
  · rw [if_neg h1, if_neg (fun h => h1 ((lt64 hy hx).mp h))]
    by_cases h2 : x = y
    · rw [if_pos h2, if_pos (by rw [h2])]; rfl
    · rw [if_neg h2, if_neg (fun h => h2 ((eq64 hx hy).mp h))]; rfl
theorem lCmp_r (x y : Int) : r32 (lCmp x y) := by
  unfold lCmp r32; (repeat' split) <;> omega

section SIMB
variable {p : Program} {l : Launch} {e : Env} {R : Room} {s : State} {m : MethodId} {args : Array Value} {below : List Frame} {meth : Method} {c : Code} {Qf : State → Prop}
variable {D : va_G} {cA : Nat → ClassId} {kd : Nat → Value} {h0 n0 nL : Nat} {ad0 : Nat → Nat} {cc : ByteArray} {pc : Nat} {L : mL} {r st : List mV} {sg : mS} {b : mB}

theorem sm_iadd (hx : p.tables.exec = Jvm.exec) (hb : c.code = cc) {x y : Int} (hdg : decode cc pc = .ok (.iadd, 1)) (h : Sim p l e R s m args below meth c Qf D cA kd h0 n0 ad0 nL (pc + 1) L (vI (wr (x + y)) :: r) sg b) : Sim p l e R s m args below meth c Qf D cA kd h0 n0 ad0 nL pc L (vI y :: vI x :: r) sg b := by
  intro ad H locs cells slots ls hR
  obtain ⟨oy, ok⟩ := List.forall_mem_cons.mp hR.ok
  obtain ⟨ox, ok⟩ := List.forall_mem_cons.mp ok
  have oy : r32 y := oy
  have ox : r32 x := ox
  refine lv_iadd hx hb hdg ?_
  have h1 := h ad H locs cells slots ls (hR.st' (List.forall_mem_cons.mpr ⟨wr_r _, ok⟩))
  rw [e_add]
  exact h1

theorem sm_isub (hx : p.tables.exec = Jvm.exec) (hb : c.code = cc) {x y : Int} (hdg : decode cc pc = .ok (.isub, 1)) (h : Sim p l e R s m args below meth c Qf D cA kd h0 n0 ad0 nL (pc + 1) L (vI (wr (x - y)) :: r) sg b) : Sim p l e R s m args below meth c Qf D cA kd h0 n0 ad0 nL pc L (vI y :: vI x :: r) sg b := by
  intro ad H locs cells slots ls hR
  obtain ⟨oy, ok⟩ := List.forall_mem_cons.mp hR.ok
  obtain ⟨ox, ok⟩ := List.forall_mem_cons.mp ok
  have oy : r32 y := oy
  have ox : r32 x := ox
  refine lv_isub hx hb hdg ?_
  have h1 := h ad H locs cells slots ls (hR.st' (List.forall_mem_cons.mpr ⟨wr_r _, ok⟩))
  rw [e_sub]
  exact h1

theorem sm_imul (hx : p.tables.exec = Jvm.exec) (hb : c.code = cc) {x y : Int} (hdg : decode cc pc = .ok (.imul, 1)) (h : Sim p l e R s m args below meth c Qf D cA kd h0 n0 ad0 nL (pc + 1) L (vI (wr (x * y)) :: r) sg b) : Sim p l e R s m args below meth c Qf D cA kd h0 n0 ad0 nL pc L (vI y :: vI x :: r) sg b := by
  intro ad H locs cells slots ls hR
  obtain ⟨oy, ok⟩ := List.forall_mem_cons.mp hR.ok
  obtain ⟨ox, ok⟩ := List.forall_mem_cons.mp ok
  have oy : r32 y := oy
  have ox : r32 x := ox
  refine lv_imul hx hb hdg ?_
  have h1 := h ad H locs cells slots ls (hR.st' (List.forall_mem_cons.mpr ⟨wr_r _, ok⟩))
  rw [e_mul]
  exact h1

theorem sm_idiv (hx : p.tables.exec = Jvm.exec) (hb : c.code = cc) {x y : Int} (hdg : decode cc pc = .ok (.idiv, 1)) (h : y ≠ 0 ∧ Sim p l e R s m args below meth c Qf D cA kd h0 n0 ad0 nL (pc + 1) L (vI (wr (x.tdiv y)) :: r) sg b) : Sim p l e R s m args below meth c Qf D cA kd h0 n0 ad0 nL pc L (vI y :: vI x :: r) sg b := by
  intro ad H locs cells slots ls hR
  obtain ⟨oy, ok⟩ := List.forall_mem_cons.mp hR.ok
  obtain ⟨ox, ok⟩ := List.forall_mem_cons.mp ok
  have oy : r32 y := oy
  have ox : r32 x := ox
  obtain ⟨hne, h⟩ := h
  refine lv_idiv hx hb hdg (fun hz => hne ((eq32 oy r32_0).mp (hz.trans z32))) ?_
  have h1 := h ad H locs cells slots ls (hR.st' (List.forall_mem_cons.mpr ⟨wr_r _, ok⟩))
  rw [e_div ox oy]
  exact h1

theorem sm_irem (hx : p.tables.exec = Jvm.exec) (hb : c.code = cc) {x y : Int} (hdg : decode cc pc = .ok (.irem, 1)) (h : y ≠ 0 ∧ Sim p l e R s m args below meth c Qf D cA kd h0 n0 ad0 nL (pc + 1) L (vI (x.tmod y) :: r) sg b) : Sim p l e R s m args below meth c Qf D cA kd h0 n0 ad0 nL pc L (vI y :: vI x :: r) sg b := by
  intro ad H locs cells slots ls hR
  obtain ⟨oy, ok⟩ := List.forall_mem_cons.mp hR.ok
  obtain ⟨ox, ok⟩ := List.forall_mem_cons.mp ok
  have oy : r32 y := oy
  have ox : r32 x := ox
  obtain ⟨hne, h⟩ := h
  refine lv_irem hx hb hdg (fun hz => hne ((eq32 oy r32_0).mp (hz.trans z32))) ?_
  have h1 := h ad H locs cells slots ls (hR.st' (List.forall_mem_cons.mpr ⟨(e_rem ox oy ▸ i32_r _ : r32 (x.tmod y)), ok⟩))
  rw [← of_i32 (Int32.ofInt x - Int32.ofInt x / Int32.ofInt y * Int32.ofInt y), e_rem ox oy]
  exact h1

theorem sm_iand (hx : p.tables.exec = Jvm.exec) (hb : c.code = cc) {x y : Int} (hdg : decode cc pc = .ok (.iand, 1)) (h : Sim p l e R s m args below meth c Qf D cA kd h0 n0 ad0 nL (pc + 1) L (vI (iAnd x y) :: r) sg b) : Sim p l e R s m args below meth c Qf D cA kd h0 n0 ad0 nL pc L (vI y :: vI x :: r) sg b := by
  intro ad H locs cells slots ls hR
  obtain ⟨oy, ok⟩ := List.forall_mem_cons.mp hR.ok
  obtain ⟨ox, ok⟩ := List.forall_mem_cons.mp ok
  have oy : r32 y := oy
  have ox : r32 x := ox
  refine lv_iand hx hb hdg ?_
  have h1 := h ad H locs cells slots ls (hR.st' (List.forall_mem_cons.mpr ⟨i32_r _, ok⟩))
  rw [← of_i32 (Int32.ofInt x &&& Int32.ofInt y)]
  exact h1

theorem sm_ior (hx : p.tables.exec = Jvm.exec) (hb : c.code = cc) {x y : Int} (hdg : decode cc pc = .ok (.ior, 1)) (h : Sim p l e R s m args below meth c Qf D cA kd h0 n0 ad0 nL (pc + 1) L (vI (iOr x y) :: r) sg b) : Sim p l e R s m args below meth c Qf D cA kd h0 n0 ad0 nL pc L (vI y :: vI x :: r) sg b := by
  intro ad H locs cells slots ls hR
  obtain ⟨oy, ok⟩ := List.forall_mem_cons.mp hR.ok
  obtain ⟨ox, ok⟩ := List.forall_mem_cons.mp ok
  have oy : r32 y := oy
  have ox : r32 x := ox
  refine lv_ior hx hb hdg ?_
  have h1 := h ad H locs cells slots ls (hR.st' (List.forall_mem_cons.mpr ⟨i32_r _, ok⟩))
  rw [← of_i32 (Int32.ofInt x ||| Int32.ofInt y)]
  exact h1

theorem sm_ishl (hx : p.tables.exec = Jvm.exec) (hb : c.code = cc) {x y : Int} (hdg : decode cc pc = .ok (.ishl, 1)) (h : Sim p l e R s m args below meth c Qf D cA kd h0 n0 ad0 nL (pc + 1) L (vI (iShl x y) :: r) sg b) : Sim p l e R s m args below meth c Qf D cA kd h0 n0 ad0 nL pc L (vI y :: vI x :: r) sg b := by
  intro ad H locs cells slots ls hR
  obtain ⟨oy, ok⟩ := List.forall_mem_cons.mp hR.ok
  obtain ⟨ox, ok⟩ := List.forall_mem_cons.mp ok
  have oy : r32 y := oy
  have ox : r32 x := ox
  refine lv_ishl hx hb hdg ?_
  have h1 := h ad H locs cells slots ls (hR.st' (List.forall_mem_cons.mpr ⟨i32_r _, ok⟩))
  rw [← of_i32 (Int32.ofInt x <<< (Int32.ofInt y &&& 31))]
  exact h1

theorem sm_ishr (hx : p.tables.exec = Jvm.exec) (hb : c.code = cc) {x y : Int} (hdg : decode cc pc = .ok (.ishr, 1)) (h : Sim p l e R s m args below meth c Qf D cA kd h0 n0 ad0 nL (pc + 1) L (vI (iShr x y) :: r) sg b) : Sim p l e R s m args below meth c Qf D cA kd h0 n0 ad0 nL pc L (vI y :: vI x :: r) sg b := by
  intro ad H locs cells slots ls hR
  obtain ⟨oy, ok⟩ := List.forall_mem_cons.mp hR.ok
  obtain ⟨ox, ok⟩ := List.forall_mem_cons.mp ok
  have oy : r32 y := oy
  have ox : r32 x := ox
  refine lv_ishr hx hb hdg ?_
  have h1 := h ad H locs cells slots ls (hR.st' (List.forall_mem_cons.mpr ⟨i32_r _, ok⟩))
  rw [← of_i32 (Int32.ofInt x >>> (Int32.ofInt y &&& 31))]
  exact h1

theorem sm_ladd (hx : p.tables.exec = Jvm.exec) (hb : c.code = cc) {x y : Int} (hdg : decode cc pc = .ok (.ladd, 1)) (h : Sim p l e R s m args below meth c Qf D cA kd h0 n0 ad0 nL (pc + 1) L (vL (wl (x + y)) :: r) sg b) : Sim p l e R s m args below meth c Qf D cA kd h0 n0 ad0 nL pc L (vL y :: vL x :: r) sg b := by
  intro ad H locs cells slots ls hR
  obtain ⟨oy, ok⟩ := List.forall_mem_cons.mp hR.ok
  obtain ⟨ox, ok⟩ := List.forall_mem_cons.mp ok
  have oy : r64 y := oy
  have ox : r64 x := ox
  refine lv_ladd hx hb hdg ?_
  have h1 := h ad H locs cells slots ls (hR.st' (List.forall_mem_cons.mpr ⟨wl_r _, ok⟩))
  rw [l_add]
  exact h1

theorem sm_lsub (hx : p.tables.exec = Jvm.exec) (hb : c.code = cc) {x y : Int} (hdg : decode cc pc = .ok (.lsub, 1)) (h : Sim p l e R s m args below meth c Qf D cA kd h0 n0 ad0 nL (pc + 1) L (vL (wl (x - y)) :: r) sg b) : Sim p l e R s m args below meth c Qf D cA kd h0 n0 ad0 nL pc L (vL y :: vL x :: r) sg b := by
  intro ad H locs cells slots ls hR
  obtain ⟨oy, ok⟩ := List.forall_mem_cons.mp hR.ok
  obtain ⟨ox, ok⟩ := List.forall_mem_cons.mp ok
  have oy : r64 y := oy
  have ox : r64 x := ox
  refine lv_lsub hx hb hdg ?_
  have h1 := h ad H locs cells slots ls (hR.st' (List.forall_mem_cons.mpr ⟨wl_r _, ok⟩))
  rw [l_sub]
  exact h1

theorem sm_lmul (hx : p.tables.exec = Jvm.exec) (hb : c.code = cc) {x y : Int} (hdg : decode cc pc = .ok (.lmul, 1)) (h : Sim p l e R s m args below meth c Qf D cA kd h0 n0 ad0 nL (pc + 1) L (vL (wl (x * y)) :: r) sg b) : Sim p l e R s m args below meth c Qf D cA kd h0 n0 ad0 nL pc L (vL y :: vL x :: r) sg b := by
  intro ad H locs cells slots ls hR
  obtain ⟨oy, ok⟩ := List.forall_mem_cons.mp hR.ok
  obtain ⟨ox, ok⟩ := List.forall_mem_cons.mp ok
  have oy : r64 y := oy
  have ox : r64 x := ox
  refine lv_lmul hx hb hdg ?_
  have h1 := h ad H locs cells slots ls (hR.st' (List.forall_mem_cons.mpr ⟨wl_r _, ok⟩))
  rw [l_mul]
  exact h1

theorem sm_ldiv (hx : p.tables.exec = Jvm.exec) (hb : c.code = cc) {x y : Int} (hdg : decode cc pc = .ok (.ldiv, 1)) (h : y ≠ 0 ∧ Sim p l e R s m args below meth c Qf D cA kd h0 n0 ad0 nL (pc + 1) L (vL (wl (x.tdiv y)) :: r) sg b) : Sim p l e R s m args below meth c Qf D cA kd h0 n0 ad0 nL pc L (vL y :: vL x :: r) sg b := by
  intro ad H locs cells slots ls hR
  obtain ⟨oy, ok⟩ := List.forall_mem_cons.mp hR.ok
  obtain ⟨ox, ok⟩ := List.forall_mem_cons.mp ok
  have oy : r64 y := oy
  have ox : r64 x := ox
  obtain ⟨hne, h⟩ := h
  refine lv_ldiv hx hb hdg (fun hz => hne ((eq64 oy r64_0).mp (hz.trans (by decide)))) ?_
  have h1 := h ad H locs cells slots ls (hR.st' (List.forall_mem_cons.mpr ⟨wl_r _, ok⟩))
  rw [l_div ox oy]
  exact h1

theorem sm_lrem (hx : p.tables.exec = Jvm.exec) (hb : c.code = cc) {x y : Int} (hdg : decode cc pc = .ok (.lrem, 1)) (h : y ≠ 0 ∧ Sim p l e R s m args below meth c Qf D cA kd h0 n0 ad0 nL (pc + 1) L (vL (x.tmod y) :: r) sg b) : Sim p l e R s m args below meth c Qf D cA kd h0 n0 ad0 nL pc L (vL y :: vL x :: r) sg b := by
  intro ad H locs cells slots ls hR
  obtain ⟨oy, ok⟩ := List.forall_mem_cons.mp hR.ok
  obtain ⟨ox, ok⟩ := List.forall_mem_cons.mp ok
  have oy : r64 y := oy
  have ox : r64 x := ox
  obtain ⟨hne, h⟩ := h
  refine lv_lrem hx hb hdg (fun hz => hne ((eq64 oy r64_0).mp (hz.trans (by decide)))) ?_
  have h1 := h ad H locs cells slots ls (hR.st' (List.forall_mem_cons.mpr ⟨(l_rem ox oy ▸ i64_r _ : r64 (x.tmod y)), ok⟩))
  rw [← of_i64 (Int64.ofInt x - Int64.ofInt x / Int64.ofInt y * Int64.ofInt y), l_rem ox oy]
  exact h1

theorem sm_land (hx : p.tables.exec = Jvm.exec) (hb : c.code = cc) {x y : Int} (hdg : decode cc pc = .ok (.land, 1)) (h : Sim p l e R s m args below meth c Qf D cA kd h0 n0 ad0 nL (pc + 1) L (vL (lAnd x y) :: r) sg b) : Sim p l e R s m args below meth c Qf D cA kd h0 n0 ad0 nL pc L (vL y :: vL x :: r) sg b := by
  intro ad H locs cells slots ls hR
  obtain ⟨oy, ok⟩ := List.forall_mem_cons.mp hR.ok
  obtain ⟨ox, ok⟩ := List.forall_mem_cons.mp ok
  have oy : r64 y := oy
  have ox : r64 x := ox
  refine lv_land hx hb hdg ?_
  have h1 := h ad H locs cells slots ls (hR.st' (List.forall_mem_cons.mpr ⟨i64_r _, ok⟩))
  rw [← of_i64 (Int64.ofInt x &&& Int64.ofInt y)]
  exact h1

theorem sm_lor (hx : p.tables.exec = Jvm.exec) (hb : c.code = cc) {x y : Int} (hdg : decode cc pc = .ok (.lor, 1)) (h : Sim p l e R s m args below meth c Qf D cA kd h0 n0 ad0 nL (pc + 1) L (vL (lOr x y) :: r) sg b) : Sim p l e R s m args below meth c Qf D cA kd h0 n0 ad0 nL pc L (vL y :: vL x :: r) sg b := by
  intro ad H locs cells slots ls hR
  obtain ⟨oy, ok⟩ := List.forall_mem_cons.mp hR.ok
  obtain ⟨ox, ok⟩ := List.forall_mem_cons.mp ok
  have oy : r64 y := oy
  have ox : r64 x := ox
  refine lv_lor hx hb hdg ?_
  have h1 := h ad H locs cells slots ls (hR.st' (List.forall_mem_cons.mpr ⟨i64_r _, ok⟩))
  rw [← of_i64 (Int64.ofInt x ||| Int64.ofInt y)]
  exact h1

theorem sm_lshl (hx : p.tables.exec = Jvm.exec) (hb : c.code = cc) {x y : Int} (hdg : decode cc pc = .ok (.lshl, 1)) (h : Sim p l e R s m args below meth c Qf D cA kd h0 n0 ad0 nL (pc + 1) L (vL (lShl x y) :: r) sg b) : Sim p l e R s m args below meth c Qf D cA kd h0 n0 ad0 nL pc L (vI y :: vL x :: r) sg b := by
  intro ad H locs cells slots ls hR
  obtain ⟨oy, ok⟩ := List.forall_mem_cons.mp hR.ok
  obtain ⟨ox, ok⟩ := List.forall_mem_cons.mp ok
  have oy : r32 y := oy
  have ox : r64 x := ox
  refine lv_lshl hx hb hdg (of_i64 _).symm ?_
  have h1 := h ad H locs cells slots ls (hR.st' (List.forall_mem_cons.mpr ⟨i64_r _, ok⟩))
  skip
  exact h1

theorem sm_lshr (hx : p.tables.exec = Jvm.exec) (hb : c.code = cc) {x y : Int} (hdg : decode cc pc = .ok (.lshr, 1)) (h : Sim p l e R s m args below meth c Qf D cA kd h0 n0 ad0 nL (pc + 1) L (vL (lShr x y) :: r) sg b) : Sim p l e R s m args below meth c Qf D cA kd h0 n0 ad0 nL pc L (vI y :: vL x :: r) sg b := by
  intro ad H locs cells slots ls hR
  obtain ⟨oy, ok⟩ := List.forall_mem_cons.mp hR.ok
  obtain ⟨ox, ok⟩ := List.forall_mem_cons.mp ok
  have oy : r32 y := oy
  have ox : r64 x := ox
  refine lv_lshr hx hb hdg (of_i64 _).symm ?_
  have h1 := h ad H locs cells slots ls (hR.st' (List.forall_mem_cons.mpr ⟨i64_r _, ok⟩))
  skip
  exact h1

theorem sm_lushr (hx : p.tables.exec = Jvm.exec) (hb : c.code = cc) {x y : Int} (hdg : decode cc pc = .ok (.lushr, 1)) (h : Sim p l e R s m args below meth c Qf D cA kd h0 n0 ad0 nL (pc + 1) L (vL (lUshr x y) :: r) sg b) : Sim p l e R s m args below meth c Qf D cA kd h0 n0 ad0 nL pc L (vI y :: vL x :: r) sg b := by
  intro ad H locs cells slots ls hR
  obtain ⟨oy, ok⟩ := List.forall_mem_cons.mp hR.ok
  obtain ⟨ox, ok⟩ := List.forall_mem_cons.mp ok
  have oy : r32 y := oy
  have ox : r64 x := ox
  refine lv_lushr hx hb hdg (of_i64 _).symm ?_
  have h1 := h ad H locs cells slots ls (hR.st' (List.forall_mem_cons.mpr ⟨i64_r _, ok⟩))
  skip
  exact h1

theorem sm_ineg (hx : p.tables.exec = Jvm.exec) (hb : c.code = cc) {x : Int} (hdg : decode cc pc = .ok (.ineg, 1)) (h : Sim p l e R s m args below meth c Qf D cA kd h0 n0 ad0 nL (pc + 1) L (vI (wr (-x)) :: r) sg b) : Sim p l e R s m args below meth c Qf D cA kd h0 n0 ad0 nL pc L (vI x :: r) sg b := by
  intro ad H locs cells slots ls hR
  obtain ⟨ox, ok⟩ := List.forall_mem_cons.mp hR.ok
  have ox : r32 x := ox
  refine lv_ineg hx hb hdg ?_
  have h1 := h ad H locs cells slots ls (hR.st' (List.forall_mem_cons.mpr ⟨wr_r _, ok⟩))
  rw [e_neg]
  exact h1

theorem sm_i2l (hx : p.tables.exec = Jvm.exec) (hb : c.code = cc) {x : Int} (hdg : decode cc pc = .ok (.i2l, 1)) (h : Sim p l e R s m args below meth c Qf D cA kd h0 n0 ad0 nL (pc + 1) L (vL (x) :: r) sg b) : Sim p l e R s m args below meth c Qf D cA kd h0 n0 ad0 nL pc L (vI x :: r) sg b := by
  intro ad H locs cells slots ls hR
  obtain ⟨ox, ok⟩ := List.forall_mem_cons.mp hR.ok
  have ox : r32 x := ox
  refine lv_i2l hx hb hdg (e_i2l ox) ?_
  have h1 := h ad H locs cells slots ls (hR.st' (List.forall_mem_cons.mpr ⟨r32_64 ox, ok⟩))
  skip
  exact h1

theorem sm_l2i (hx : p.tables.exec = Jvm.exec) (hb : c.code = cc) {x : Int} (hdg : decode cc pc = .ok (.l2i, 1)) (h : Sim p l e R s m args below meth c Qf D cA kd h0 n0 ad0 nL (pc + 1) L (vI (wr x) :: r) sg b) : Sim p l e R s m args below meth c Qf D cA kd h0 n0 ad0 nL pc L (vL x :: r) sg b := by
  intro ad H locs cells slots ls hR
  obtain ⟨ox, ok⟩ := List.forall_mem_cons.mp hR.ok
  have ox : r64 x := ox
  refine lv_l2i hx hb hdg (e_l2i x) ?_
  have h1 := h ad H locs cells slots ls (hR.st' (List.forall_mem_cons.mpr ⟨wr_r _, ok⟩))
  skip
  exact h1

theorem sm_i2b (hx : p.tables.exec = Jvm.exec) (hb : c.code = cc) {x : Int} (hdg : decode cc pc = .ok (.i2b, 1)) (h : Sim p l e R s m args below meth c Qf D cA kd h0 n0 ad0 nL (pc + 1) L (vI (iB x) :: r) sg b) : Sim p l e R s m args below meth c Qf D cA kd h0 n0 ad0 nL pc L (vI x :: r) sg b := by
  intro ad H locs cells slots ls hR
  obtain ⟨ox, ok⟩ := List.forall_mem_cons.mp hR.ok
  have ox : r32 x := ox
  refine lv_i2b hx hb hdg (of_i32 _).symm ?_
  have h1 := h ad H locs cells slots ls (hR.st' (List.forall_mem_cons.mpr ⟨i32_r _, ok⟩))
  skip
  exact h1

theorem sm_i2c (hx : p.tables.exec = Jvm.exec) (hb : c.code = cc) {x : Int} (hdg : decode cc pc = .ok (.i2c, 1)) (h : Sim p l e R s m args below meth c Qf D cA kd h0 n0 ad0 nL (pc + 1) L (vI (iC x) :: r) sg b) : Sim p l e R s m args below meth c Qf D cA kd h0 n0 ad0 nL pc L (vI x :: r) sg b := by
  intro ad H locs cells slots ls hR
  obtain ⟨ox, ok⟩ := List.forall_mem_cons.mp hR.ok
  have ox : r32 x := ox
  refine lv_i2c hx hb hdg (of_i32 _).symm ?_
  have h1 := h ad H locs cells slots ls (hR.st' (List.forall_mem_cons.mpr ⟨i32_r _, ok⟩))
  skip
  exact h1

theorem sm_lcmp (hx : p.tables.exec = Jvm.exec) (hb : c.code = cc) {x y : Int} (hdg : decode cc pc = .ok (.lcmp, 1)) (h : Sim p l e R s m args below meth c Qf D cA kd h0 n0 ad0 nL (pc + 1) L (vI (lCmp x y) :: r) sg b) : Sim p l e R s m args below meth c Qf D cA kd h0 n0 ad0 nL pc L (vL y :: vL x :: r) sg b := by
  intro ad H locs cells slots ls hR
  obtain ⟨oy, ok⟩ := List.forall_mem_cons.mp hR.ok
  obtain ⟨ox, ok⟩ := List.forall_mem_cons.mp ok
  refine W.lcmp hx hb hdg ?_
  have h1 := h ad H locs cells slots ls (hR.st' (List.forall_mem_cons.mpr ⟨lCmp_r _ _, ok⟩))
  rw [e_lcmp ox oy]
  exact h1
theorem cat1 (hk1 : ∀ k, (kd k).category = 1) {ad : Nat → Nat} {v : mV} (h : ∀ z, v ≠ vL z) : (cV ad kd v).category = 1 := by
  rcases v with n | n | n | n
  · rfl
  · exact absurd rfl (h n)
  · rfl
  · exact hk1 n
theorem sm_pop (hx : p.tables.exec = Jvm.exec) (hb : c.code = cc) (hk1 : ∀ k, (kd k).category = 1) {v : mV} (hv : ∀ z, v ≠ vL z) (hdg : decode cc pc = .ok (.pop, 1)) (h : Sim p l e R s m args below meth c Qf D cA kd h0 n0 ad0 nL (pc + 1) L r sg b) : Sim p l e R s m args below meth c Qf D cA kd h0 n0 ad0 nL pc L (v :: r) sg b := by
  intro ad H locs cells slots ls hR
  obtain ⟨ov, ok⟩ := List.forall_mem_cons.mp hR.ok
  exact lv_pop hx hb hdg (cat1 hk1 hv) (h ad H locs cells slots ls (hR.st' ok))
theorem sm_dup (hx : p.tables.exec = Jvm.exec) (hb : c.code = cc) (hk1 : ∀ k, (kd k).category = 1) {v : mV} (hv : ∀ z, v ≠ vL z) (hdg : decode cc pc = .ok (.dup, 1)) (h : Sim p l e R s m args below meth c Qf D cA kd h0 n0 ad0 nL (pc + 1) L (v :: v :: r) sg b) : Sim p l e R s m args below meth c Qf D cA kd h0 n0 ad0 nL pc L (v :: r) sg b := by
  intro ad H locs cells slots ls hR
  obtain ⟨ov, ok⟩ := List.forall_mem_cons.mp hR.ok
  exact lv_dup hx hb hdg (cat1 hk1 hv) (h ad H locs cells slots ls (hR.st' (List.forall_mem_cons.mpr ⟨ov, hR.ok⟩)))
theorem sm_dup2 (hx : p.tables.exec = Jvm.exec) (hb : c.code = cc) (hk1 : ∀ k, (kd k).category = 1) {n : Int} {v : mV} (hv : ∀ z, v ≠ vL z) (hdg : decode cc pc = .ok (.dup2, 1)) (h : Sim p l e R s m args below meth c Qf D cA kd h0 n0 ad0 nL (pc + 1) L (vI n :: v :: vI n :: v :: r) sg b) : Sim p l e R s m args below meth c Qf D cA kd h0 n0 ad0 nL pc L (vI n :: v :: r) sg b := by
  intro ad H locs cells slots ls hR
  obtain ⟨on, ok⟩ := List.forall_mem_cons.mp hR.ok
  obtain ⟨ov, ok'⟩ := List.forall_mem_cons.mp ok
  exact lv_dup2_11 hx hb hdg rfl (cat1 hk1 hv) (h ad H locs cells slots ls (hR.st' (List.forall_mem_cons.mpr ⟨on, List.forall_mem_cons.mpr ⟨ov, hR.ok⟩⟩)))
theorem sm_iinc (hx : p.tables.exec = Jvm.exec) (hb : c.code = cc) (hk1 : ∀ k, (kd k).category = 1) {i : Nat} {n k : Int} (hdg : decode cc pc = .ok (.iinc i k, 3)) (hg : mGet L i = some (vI n)) (hn : i < nL) (h : Sim p l e R s m args below meth c Qf D cA kd h0 n0 ad0 nL (pc + 3) (mSet L i (vI (wr (n + k)))) st sg b) : Sim p l e R s m args below meth c Qf D cA kd h0 n0 ad0 nL pc L st sg b := by
  intro ad H locs cells slots ls hR
  have hm := lsOf_mem (ad := ad) (kd := kd) hg
  obtain ⟨q, hq⟩ := List.getElem?_of_mem hm
  refine lv_iinc (v := Int32.ofInt (wr (n + k))) hx hb hdg (lsOf_has hR.lv) hq (e_add n k) hn rfl (fun ls' hl' => ?_)
  exact h ad H locs cells slots ls' (hR.setl (lvr_set (v := vI (wr (n + k))) hk1 hl') (okV_set hR.okl (wr_r _)) hR.ok)
theorem sm_goto (hx : p.tables.exec = Jvm.exec) (hb : c.code = cc) {o : Int} {t : Nat} (hdg : decode cc pc = .ok (.goto o, 3)) (ht : (pc : Int) + o = (t : Int)) (h : Sim p l e R s m args below meth c Qf D cA kd h0 n0 ad0 nL t L st sg b) : Sim p l e R s m args below meth c Qf D cA kd h0 n0 ad0 nL pc L st sg b := by
  intro ad H locs cells slots ls hR
  exact lv_goto hx hb hdg ht (h ad H locs cells slots ls hR)

theorem sm_if_eq (hx : p.tables.exec = Jvm.exec) (hb : c.code = cc) {x o : Int} {t : Nat} (hdg : decode cc pc = .ok (.ifCond .eq o, 3)) (ht : (pc : Int) + o = (t : Int)) (h : (x = 0 → Sim p l e R s m args below meth c Qf D cA kd h0 n0 ad0 nL t L r sg b) ∧ (¬ x = 0 → Sim p l e R s m args below meth c Qf D cA kd h0 n0 ad0 nL (pc + 3) L r sg b)) : Sim p l e R s m args below meth c Qf D cA kd h0 n0 ad0 nL pc L (vI x :: r) sg b := by
  intro ad H locs cells slots ls hR
  obtain ⟨ox, ok⟩ := List.forall_mem_cons.mp hR.ok
  have k1 := fun q => h.1 q ad H locs cells slots ls (hR.st' ok)
  have k2 := fun q => h.2 q ad H locs cells slots ls (hR.st' ok)
  have E : (Int32.ofInt x = (0 : Int32)) ↔ x = 0 := (by rw [z32]; exact eq32 ox r32_0)
  have A : (Int32.ofInt x < (0 : Int32)) ↔ x < 0 := (by rw [z32]; exact lt32 ox r32_0)
  have B : ((0 : Int32) < Int32.ofInt x) ↔ 0 < x := (by rw [z32]; exact lt32 r32_0 ox)
  exact lv_if_eq hx hb hdg ht (fun q => k1 (E.mp q)) (fun q => k2 (fun z => q (E.mpr z)))

theorem sm_if_ne (hx : p.tables.exec = Jvm.exec) (hb : c.code = cc) {x o : Int} {t : Nat} (hdg : decode cc pc = .ok (.ifCond .ne o, 3)) (ht : (pc : Int) + o = (t : Int)) (h : (¬ x = 0 → Sim p l e R s m args below meth c Qf D cA kd h0 n0 ad0 nL t L r sg b) ∧ (x = 0 → Sim p l e R s m args below meth c Qf D cA kd h0 n0 ad0 nL (pc + 3) L r sg b)) : Sim p l e R s m args below meth c Qf D cA kd h0 n0 ad0 nL pc L (vI x :: r) sg b := by
  intro ad H locs cells slots ls hR
  obtain ⟨ox, ok⟩ := List.forall_mem_cons.mp hR.ok
  have k1 := fun q => h.1 q ad H locs cells slots ls (hR.st' ok)
  have k2 := fun q => h.2 q ad H locs cells slots ls (hR.st' ok)
  have E : (Int32.ofInt x = (0 : Int32)) ↔ x = 0 := (by rw [z32]; exact eq32 ox r32_0)
  have A : (Int32.ofInt x < (0 : Int32)) ↔ x < 0 := (by rw [z32]; exact lt32 ox r32_0)
  have B : ((0 : Int32) < Int32.ofInt x) ↔ 0 < x := (by rw [z32]; exact lt32 r32_0 ox)
  exact lv_if_ne hx hb hdg ht (fun q => k1 (fun z => q (E.mpr z))) (fun q => k2 (E.mp q))

theorem sm_if_lt (hx : p.tables.exec = Jvm.exec) (hb : c.code = cc) {x o : Int} {t : Nat} (hdg : decode cc pc = .ok (.ifCond .lt o, 3)) (ht : (pc : Int) + o = (t : Int)) (h : (x < 0 → Sim p l e R s m args below meth c Qf D cA kd h0 n0 ad0 nL t L r sg b) ∧ (¬ x < 0 → Sim p l e R s m args below meth c Qf D cA kd h0 n0 ad0 nL (pc + 3) L r sg b)) : Sim p l e R s m args below meth c Qf D cA kd h0 n0 ad0 nL pc L (vI x :: r) sg b := by
  intro ad H locs cells slots ls hR
  obtain ⟨ox, ok⟩ := List.forall_mem_cons.mp hR.ok
  have k1 := fun q => h.1 q ad H locs cells slots ls (hR.st' ok)
  have k2 := fun q => h.2 q ad H locs cells slots ls (hR.st' ok)
  have E : (Int32.ofInt x = (0 : Int32)) ↔ x = 0 := (by rw [z32]; exact eq32 ox r32_0)
  have A : (Int32.ofInt x < (0 : Int32)) ↔ x < 0 := (by rw [z32]; exact lt32 ox r32_0)
  have B : ((0 : Int32) < Int32.ofInt x) ↔ 0 < x := (by rw [z32]; exact lt32 r32_0 ox)
  exact lv_if_lt hx hb hdg ht (fun q => k1 (A.mp q)) (fun q => k2 (fun z => q (A.mpr z)))

theorem sm_if_ge (hx : p.tables.exec = Jvm.exec) (hb : c.code = cc) {x o : Int} {t : Nat} (hdg : decode cc pc = .ok (.ifCond .ge o, 3)) (ht : (pc : Int) + o = (t : Int)) (h : (¬ x < 0 → Sim p l e R s m args below meth c Qf D cA kd h0 n0 ad0 nL t L r sg b) ∧ (x < 0 → Sim p l e R s m args below meth c Qf D cA kd h0 n0 ad0 nL (pc + 3) L r sg b)) : Sim p l e R s m args below meth c Qf D cA kd h0 n0 ad0 nL pc L (vI x :: r) sg b := by
  intro ad H locs cells slots ls hR
  obtain ⟨ox, ok⟩ := List.forall_mem_cons.mp hR.ok
  have k1 := fun q => h.1 q ad H locs cells slots ls (hR.st' ok)
  have k2 := fun q => h.2 q ad H locs cells slots ls (hR.st' ok)
  have E : (Int32.ofInt x = (0 : Int32)) ↔ x = 0 := (by rw [z32]; exact eq32 ox r32_0)
  have A : (Int32.ofInt x < (0 : Int32)) ↔ x < 0 := (by rw [z32]; exact lt32 ox r32_0)
  have B : ((0 : Int32) < Int32.ofInt x) ↔ 0 < x := (by rw [z32]; exact lt32 r32_0 ox)
  exact lv_if_ge hx hb hdg ht (fun q => k1 (fun z => Int32.not_lt.mpr q (A.mpr z))) (fun q => k2 (A.mp (Int32.not_le.mp q)))

theorem sm_if_gt (hx : p.tables.exec = Jvm.exec) (hb : c.code = cc) {x o : Int} {t : Nat} (hdg : decode cc pc = .ok (.ifCond .gt o, 3)) (ht : (pc : Int) + o = (t : Int)) (h : (0 < x → Sim p l e R s m args below meth c Qf D cA kd h0 n0 ad0 nL t L r sg b) ∧ (¬ 0 < x → Sim p l e R s m args below meth c Qf D cA kd h0 n0 ad0 nL (pc + 3) L r sg b)) : Sim p l e R s m args below meth c Qf D cA kd h0 n0 ad0 nL pc L (vI x :: r) sg b := by
  intro ad H locs cells slots ls hR
  obtain ⟨ox, ok⟩ := List.forall_mem_cons.mp hR.ok
  have k1 := fun q => h.1 q ad H locs cells slots ls (hR.st' ok)
  have k2 := fun q => h.2 q ad H locs cells slots ls (hR.st' ok)
  have E : (Int32.ofInt x = (0 : Int32)) ↔ x = 0 := (by rw [z32]; exact eq32 ox r32_0)
  have A : (Int32.ofInt x < (0 : Int32)) ↔ x < 0 := (by rw [z32]; exact lt32 ox r32_0)
  have B : ((0 : Int32) < Int32.ofInt x) ↔ 0 < x := (by rw [z32]; exact lt32 r32_0 ox)
  exact lv_if_gt hx hb hdg ht (fun q => k1 (B.mp q)) (fun q => k2 (fun z => q (B.mpr z)))

theorem sm_if_le (hx : p.tables.exec = Jvm.exec) (hb : c.code = cc) {x o : Int} {t : Nat} (hdg : decode cc pc = .ok (.ifCond .le o, 3)) (ht : (pc : Int) + o = (t : Int)) (h : (¬ 0 < x → Sim p l e R s m args below meth c Qf D cA kd h0 n0 ad0 nL t L r sg b) ∧ (0 < x → Sim p l e R s m args below meth c Qf D cA kd h0 n0 ad0 nL (pc + 3) L r sg b)) : Sim p l e R s m args below meth c Qf D cA kd h0 n0 ad0 nL pc L (vI x :: r) sg b := by
  intro ad H locs cells slots ls hR
  obtain ⟨ox, ok⟩ := List.forall_mem_cons.mp hR.ok
  have k1 := fun q => h.1 q ad H locs cells slots ls (hR.st' ok)
  have k2 := fun q => h.2 q ad H locs cells slots ls (hR.st' ok)
  have E : (Int32.ofInt x = (0 : Int32)) ↔ x = 0 := (by rw [z32]; exact eq32 ox r32_0)
  have A : (Int32.ofInt x < (0 : Int32)) ↔ x < 0 := (by rw [z32]; exact lt32 ox r32_0)
  have B : ((0 : Int32) < Int32.ofInt x) ↔ 0 < x := (by rw [z32]; exact lt32 r32_0 ox)
  exact lv_if_le hx hb hdg ht (fun q => k1 (fun z => Int32.not_lt.mpr q (B.mpr z))) (fun q => k2 (B.mp (Int32.not_le.mp q)))

theorem sm_icmp_eq (hx : p.tables.exec = Jvm.exec) (hb : c.code = cc) {x y o : Int} {t : Nat} (hdg : decode cc pc = .ok (.if_icmp .eq o, 3)) (ht : (pc : Int) + o = (t : Int)) (h : (x = y → Sim p l e R s m args below meth c Qf D cA kd h0 n0 ad0 nL t L r sg b) ∧ (¬ x = y → Sim p l e R s m args below meth c Qf D cA kd h0 n0 ad0 nL (pc + 3) L r sg b)) : Sim p l e R s m args below meth c Qf D cA kd h0 n0 ad0 nL pc L (vI y :: vI x :: r) sg b := by
  intro ad H locs cells slots ls hR
  obtain ⟨oy, ok⟩ := List.forall_mem_cons.mp hR.ok
  obtain ⟨ox, ok⟩ := List.forall_mem_cons.mp ok
  have k1 := fun q => h.1 q ad H locs cells slots ls (hR.st' ok)
  have k2 := fun q => h.2 q ad H locs cells slots ls (hR.st' ok)
  have E : (Int32.ofInt x = Int32.ofInt y) ↔ x = y := eq32 ox oy
  have A : (Int32.ofInt x < Int32.ofInt y) ↔ x < y := lt32 ox oy
  have B : (Int32.ofInt y < Int32.ofInt x) ↔ y < x := lt32 oy ox
  exact lv_icmp_eq hx hb hdg ht (fun q => k1 (E.mp q)) (fun q => k2 (fun z => q (E.mpr z)))

theorem sm_icmp_ne (hx : p.tables.exec = Jvm.exec) (hb : c.code = cc) {x y o : Int} {t : Nat} (hdg : decode cc pc = .ok (.if_icmp .ne o, 3)) (ht : (pc : Int) + o = (t : Int)) (h : (¬ x = y → Sim p l e R s m args below meth c Qf D cA kd h0 n0 ad0 nL t L r sg b) ∧ (x = y → Sim p l e R s m args below meth c Qf D cA kd h0 n0 ad0 nL (pc + 3) L r sg b)) : Sim p l e R s m args below meth c Qf D cA kd h0 n0 ad0 nL pc L (vI y :: vI x :: r) sg b := by
  intro ad H locs cells slots ls hR
  obtain ⟨oy, ok⟩ := List.forall_mem_cons.mp hR.ok
  obtain ⟨ox, ok⟩ := List.forall_mem_cons.mp ok
  have k1 := fun q => h.1 q ad H locs cells slots ls (hR.st' ok)
  have k2 := fun q => h.2 q ad H locs cells slots ls (hR.st' ok)
  have E : (Int32.ofInt x = Int32.ofInt y) ↔ x = y := eq32 ox oy
  have A : (Int32.ofInt x < Int32.ofInt y) ↔ x < y := lt32 ox oy
  have B : (Int32.ofInt y < Int32.ofInt x) ↔ y < x := lt32 oy ox
  exact lv_icmp_ne hx hb hdg ht (fun q => k1 (fun z => q (E.mpr z))) (fun q => k2 (E.mp q))

theorem sm_icmp_lt (hx : p.tables.exec = Jvm.exec) (hb : c.code = cc) {x y o : Int} {t : Nat} (hdg : decode cc pc = .ok (.if_icmp .lt o, 3)) (ht : (pc : Int) + o = (t : Int)) (h : (x < y → Sim p l e R s m args below meth c Qf D cA kd h0 n0 ad0 nL t L r sg b) ∧ (¬ x < y → Sim p l e R s m args below meth c Qf D cA kd h0 n0 ad0 nL (pc + 3) L r sg b)) : Sim p l e R s m args below meth c Qf D cA kd h0 n0 ad0 nL pc L (vI y :: vI x :: r) sg b := by
  intro ad H locs cells slots ls hR
  obtain ⟨oy, ok⟩ := List.forall_mem_cons.mp hR.ok
  obtain ⟨ox, ok⟩ := List.forall_mem_cons.mp ok
  have k1 := fun q => h.1 q ad H locs cells slots ls (hR.st' ok)
  have k2 := fun q => h.2 q ad H locs cells slots ls (hR.st' ok)
  have E : (Int32.ofInt x = Int32.ofInt y) ↔ x = y := eq32 ox oy
  have A : (Int32.ofInt x < Int32.ofInt y) ↔ x < y := lt32 ox oy
  have B : (Int32.ofInt y < Int32.ofInt x) ↔ y < x := lt32 oy ox
  exact lv_icmp_lt hx hb hdg ht (fun q => k1 (A.mp q)) (fun q => k2 (fun z => q (A.mpr z)))

theorem sm_icmp_ge (hx : p.tables.exec = Jvm.exec) (hb : c.code = cc) {x y o : Int} {t : Nat} (hdg : decode cc pc = .ok (.if_icmp .ge o, 3)) (ht : (pc : Int) + o = (t : Int)) (h : (¬ x < y → Sim p l e R s m args below meth c Qf D cA kd h0 n0 ad0 nL t L r sg b) ∧ (x < y → Sim p l e R s m args below meth c Qf D cA kd h0 n0 ad0 nL (pc + 3) L r sg b)) : Sim p l e R s m args below meth c Qf D cA kd h0 n0 ad0 nL pc L (vI y :: vI x :: r) sg b := by
  intro ad H locs cells slots ls hR
  obtain ⟨oy, ok⟩ := List.forall_mem_cons.mp hR.ok
  obtain ⟨ox, ok⟩ := List.forall_mem_cons.mp ok
  have k1 := fun q => h.1 q ad H locs cells slots ls (hR.st' ok)
  have k2 := fun q => h.2 q ad H locs cells slots ls (hR.st' ok)
  have E : (Int32.ofInt x = Int32.ofInt y) ↔ x = y := eq32 ox oy
  have A : (Int32.ofInt x < Int32.ofInt y) ↔ x < y := lt32 ox oy
  have B : (Int32.ofInt y < Int32.ofInt x) ↔ y < x := lt32 oy ox
  exact lv_icmp_ge hx hb hdg ht (fun q => k1 (fun z => Int32.not_lt.mpr q (A.mpr z))) (fun q => k2 (A.mp (Int32.not_le.mp q)))

theorem sm_icmp_gt (hx : p.tables.exec = Jvm.exec) (hb : c.code = cc) {x y o : Int} {t : Nat} (hdg : decode cc pc = .ok (.if_icmp .gt o, 3)) (ht : (pc : Int) + o = (t : Int)) (h : (y < x → Sim p l e R s m args below meth c Qf D cA kd h0 n0 ad0 nL t L r sg b) ∧ (¬ y < x → Sim p l e R s m args below meth c Qf D cA kd h0 n0 ad0 nL (pc + 3) L r sg b)) : Sim p l e R s m args below meth c Qf D cA kd h0 n0 ad0 nL pc L (vI y :: vI x :: r) sg b := by
  intro ad H locs cells slots ls hR
  obtain ⟨oy, ok⟩ := List.forall_mem_cons.mp hR.ok
  obtain ⟨ox, ok⟩ := List.forall_mem_cons.mp ok
  have k1 := fun q => h.1 q ad H locs cells slots ls (hR.st' ok)
  have k2 := fun q => h.2 q ad H locs cells slots ls (hR.st' ok)
  have E : (Int32.ofInt x = Int32.ofInt y) ↔ x = y := eq32 ox oy
  have A : (Int32.ofInt x < Int32.ofInt y) ↔ x < y := lt32 ox oy
  have B : (Int32.ofInt y < Int32.ofInt x) ↔ y < x := lt32 oy ox
  exact lv_icmp_gt hx hb hdg ht (fun q => k1 (B.mp q)) (fun q => k2 (fun z => q (B.mpr z)))

theorem sm_icmp_le (hx : p.tables.exec = Jvm.exec) (hb : c.code = cc) {x y o : Int} {t : Nat} (hdg : decode cc pc = .ok (.if_icmp .le o, 3)) (ht : (pc : Int) + o = (t : Int)) (h : (¬ y < x → Sim p l e R s m args below meth c Qf D cA kd h0 n0 ad0 nL t L r sg b) ∧ (y < x → Sim p l e R s m args below meth c Qf D cA kd h0 n0 ad0 nL (pc + 3) L r sg b)) : Sim p l e R s m args below meth c Qf D cA kd h0 n0 ad0 nL pc L (vI y :: vI x :: r) sg b := by
  intro ad H locs cells slots ls hR
  obtain ⟨oy, ok⟩ := List.forall_mem_cons.mp hR.ok
  obtain ⟨ox, ok⟩ := List.forall_mem_cons.mp ok
  have k1 := fun q => h.1 q ad H locs cells slots ls (hR.st' ok)
  have k2 := fun q => h.2 q ad H locs cells slots ls (hR.st' ok)
  have E : (Int32.ofInt x = Int32.ofInt y) ↔ x = y := eq32 ox oy
  have A : (Int32.ofInt x < Int32.ofInt y) ↔ x < y := lt32 ox oy
  have B : (Int32.ofInt y < Int32.ofInt x) ↔ y < x := lt32 oy ox
  exact lv_icmp_le hx hb hdg ht (fun q => k1 (fun z => Int32.not_lt.mpr q (B.mpr z))) (fun q => k2 (B.mp (Int32.not_le.mp q)))

theorem mSw_use {X : Nat → Prop} {x : Int} : ∀ {lo : Int} {l : List Int} {k : Nat} {o : Int}, mSw X pc x lo l → l[k]? = some o → x = lo + k → X (mTgt pc o)
  | lo, [], k, o, _, hk, _ => by simp at hk
  | lo, q :: t, 0, o, h, hk, hx => by
    simp at hk; subst hk
    exact h.1 (by simpa using hx)
  | lo, q :: t, k + 1, o, h, hk, hx => mSw_use (lo := lo + 1) (l := t) (k := k) h.2 (by simpa using hk) (by rw [hx]; push_cast; omega)
theorem sm_switch (hx : p.tables.exec = Jvm.exec) (hb : c.code = cc) {x d lo hi : Int} {offs : Array Int} {len : Nat} (hdg : decode cc pc = .ok (.tableswitch d lo hi offs, len)) (hd : 0 ≤ (pc : Int) + d) (ho : ∀ o ∈ offs.toList, 0 ≤ (pc : Int) + o) (hs : (offs.size : Int) = hi - lo + 1) (h : ((x < lo ∨ hi < x) → Sim p l e R s m args below meth c Qf D cA kd h0 n0 ad0 nL (mTgt pc d) L r sg b) ∧ mSw (fun q => Sim p l e R s m args below meth c Qf D cA kd h0 n0 ad0 nL q L r sg b) pc x lo offs.toList) : Sim p l e R s m args below meth c Qf D cA kd h0 n0 ad0 nL pc L (vI x :: r) sg b := by
  intro ad H locs cells slots ls hR
  obtain ⟨ox, ok⟩ := List.forall_mem_cons.mp hR.ok
  have ex : (Int32.ofInt x).toInt = x := i32_of ox
  by_cases hc : x < lo ∨ hi < x
  · exact lv_tableOut hx hb hdg (by rw [ex]; exact hc) (by unfold mTgt; omega) (h.1 hc ad H locs cells slots ls (hR.st' ok))
  · have h1 : ¬ x < lo := fun q => hc (Or.inl q)
    have h2 : ¬ hi < x := fun q => hc (Or.inr q)
    have hk : (x - lo).toNat < offs.size := by omega
    have hg : offs[(x - lo).toNat]? = some offs[(x - lo).toNat] := Array.getElem?_eq_getElem hk
    have hm : offs[(x - lo).toNat] ∈ offs.toList := by simp
    have h3 := mSw_use (k := (x - lo).toNat) (o := offs[(x - lo).toNat]) h.2 (by simpa using hg) (by omega)
    have h4 := ho _ hm
    exact lv_tableIn hx hb hdg (by rw [ex]; exact h1) (by rw [ex]; exact h2) (by rw [ex]; exact hg) (by unfold mTgt; omega) (h3 ad H locs cells slots ls (hR.st' ok))

end SIMB
end
section
/-! The small machine in the real one: fields and rows -/

theorem cls_in : ∀ ci, ci < 13 → ∀ w ∈ u_ws (mClsOf ci).1 (mClsOf ci).2.1 (mClsOf ci).2.2, w ∈ gt := by
  have h : ∀ ci, ci < 13 → (u_ws (mClsOf ci).1 (mClsOf ci).2.1 (mClsOf ci).2.2).all (fun w => decide (w ∈ lw_tbl) && goodWord w) = true := by decide +kernel
  intro ci hci w hw
  have h1 := List.all_eq_true.mp (h ci hci) w hw
  simp only [Bool.and_eq_true, decide_eq_true_eq] at h1
  exact List.mem_filter.mpr ⟨h1.1, h1.2⟩
theorem cls_at : ∀ ci, ci < 13 → mCls[ci]? = some (mClsOf ci) := by
  intro ci h
  match ci, h with
  | 0, _ => rfl | 1, _ => rfl | 2, _ => rfl | 3, _ => rfl | 4, _ => rfl | 5, _ => rfl | 6, _ => rfl | 7, _ => rfl | 8, _ => rfl | 9, _ => rfl | 10, _ => rfl | 11, _ => rfl | 12, _ => rfl
  | n + 13, h => omega
theorem cls_ty : ∀ ci, ci < 13 → ∀ k, k < (mClsOf ci).2.2 → parseFieldDescriptor ((mClsOf ci).2.1 k).2.2.1 = some (mTy ci k) := by
  intro ci h
  match ci, h with
  | 0, _ => exact tyX0_ok | 1, _ => exact tyX1_ok | 2, _ => exact tyX2_ok | 3, _ => exact tyX3_ok | 4, _ => exact tyX4_ok | 5, _ => exact tyX5_ok | 6, _ => exact tyX6_ok | 7, _ => exact tyX7_ok | 8, _ => exact tyX8_ok | 9, _ => exact tyX9_ok | 10, _ => exact tyX10_ok | 11, _ => exact tyX11_ok | 12, _ => exact tyX12_ok
  | n + 13, h => omega
theorem cls_nm : ∀ ci, ci < 13 → ∀ a, a < (mClsOf ci).2.2 → ∀ b, b < (mClsOf ci).2.2 → a ≠ b → ((mClsOf ci).2.1 a).2.1 ≠ ((mClsOf ci).2.1 b).2.1 := by
  intro ci h
  match ci, h with
  | 0, _ => exact nmX0 | 1, _ => exact nmX1 | 2, _ => exact nmX2 | 3, _ => exact nmX3 | 4, _ => exact nmX4 | 5, _ => exact nmX5 | 6, _ => exact nmX6 | 7, _ => exact nmX7 | 8, _ => exact nmX8 | 9, _ => exact nmX9 | 10, _ => exact nmX10 | 11, _ => exact nmX11 | 12, _ => exact nmX12
  | n + 13, h => omega
theorem cV_fld {ad : Nat → Nat} {kd : Nat → Value} (h0 : kd 0 = .null) (q : Nat) (x : Int) : cV ad kd (mFldOf q x) = cF ad x q := by
  rcases q with _ | _ | _ | _ | q
  · rfl
  · rfl
  · rfl
  · exact h0
  · rfl
theorem okV_fld {n q : Nat} {x : Int} (h : okF1 n x q) : okV n (mFldOf q x) := by
  rcases q with _ | _ | _ | _ | q
  · exact h
  · exact h
  · exact h
  · trivial
  · exact h
/-- a value that a field of a type takes -/
theorem put_ok {ty : FieldType} {q : Nat} {ad : Nat → Nat} {x : Int} (hk : kTy ty q) (hz : q = 2 → x = 0 ∨ x = 1) (hn : q ≠ 3) : narrow ty (cF ad x q) = cF ad x q ∧ fits ty (cF ad x q) = true := by
  cases ty <;> simp only [kTy] at hk
  all_goals first
    | (subst hk; exact ⟨rfl, rfl⟩)
    | (subst hk
       rcases hz rfl with rfl | rfl
       · exact ⟨show narrow .boolean (.int (Int32.ofInt 0)) = .int (Int32.ofInt 0) by decide, show fits .boolean (.int (Int32.ofInt 0)) = true by decide⟩
       · exact ⟨show narrow .boolean (.int (Int32.ofInt 1)) = .int (Int32.ofInt 1) by decide, show fits .boolean (.int (Int32.ofInt 1)) = true by decide⟩)
    | (obtain ⟨r, rfl⟩ : ∃ r, q = r + 4 := ⟨q - 4, by omega⟩
       exact ⟨rfl, rfl⟩)
theorem map_up {ad : Nat → Nat} {f : Nat → Nat → Int} {a k : Nat} {n : Int} {fs : List Nat} {q : Nat} (hq : mFld fs k = some q) : fs.mapIdx (fun j z => cF ad (mUp f a k n a j) z) = (fs.mapIdx (fun j z => cF ad (f a j) z)).set k (cF ad n q) := by
  rw [mFld_eq] at hq
  apply List.ext_getElem?
  intro j
  rw [List.getElem?_set]
  simp only [List.getElem?_mapIdx, List.length_mapIdx]
  by_cases h : k = j
  · subst h
    rw [if_pos rfl, if_pos (List.getElem?_eq_some_iff.mp hq).1, hq]
    simp [mUp]
  · rw [if_neg h]
    cases fs[j]? with
    | none => rfl
    | some z =>
      have h' : ¬ j = k := fun e => h e.symm
      simp [mUp, h']
theorem map_ref {ad : Nat → Nat} {f : Nat → Int} {k r : Nat} {fs : List Nat} (hk : k < fs.length) : (fs.set k (r + 4)).mapIdx (fun j z => cF ad (f j) z) = (fs.mapIdx (fun j z => cF ad (f j) z)).set k (.ref (ad r)) := by
  apply List.ext_getElem?
  intro j
  rw [List.getElem?_set]
  simp only [List.getElem?_mapIdx, List.length_mapIdx, List.getElem?_set]
  by_cases h : k = j
  · subst h
    rw [if_pos rfl, if_pos rfl, if_pos hk, if_pos hk]
    rfl
  · rw [if_neg h, if_neg h]
theorem mFld_lt {fs : List Nat} {k q : Nat} (h : mFld fs k = some q) : k < fs.length := by
  rw [mFld_eq] at h; exact (List.getElem?_eq_some_iff.mp h).1
theorem okS_up {S : List mSh} {f g : Nat → Nat → Int} (h : okS (S, f, g)) {a k c : Nat} {fs : List Nat} {n : Int} {q : Nat} (ha : mNth S a = some (.inl (c, fs))) (hq : mFld fs k = some q) (hn : okF1 S.length n q) : okS (S, mUp f a k n, g) := by
  intro x sh hx
  have h1 := h x sh hx
  by_cases e : x = a
  · subst e
    have e2 : sh = .inl (c, fs) := Option.some.inj (hx.symm.trans ha)
    subst e2
    refine ⟨h1.1, h1.2.1, fun j z hj => ?_⟩
    have h2 := h1.2.2 j z hj
    by_cases ej : j = k
    · subst ej
      have e3 : z = q := Option.some.inj (hj.symm.trans hq)
      subst e3
      refine ⟨?_, h2.2⟩
      simpa [mUp] using hn
    · refine ⟨?_, h2.2⟩
      simpa [mUp, ej] using h2.1
  · have : mUp f a k n x = f x := by funext y; simp [mUp, e]
    show okSh S.length (mUp f a k n x) (g x) sh
    rw [this]
    exact h1
theorem okS_ref {S : List mSh} {f g : Nat → Nat → Int} (h : okS (S, f, g)) {a k c r : Nat} {fs : List Nat} {q : Nat} (ha : mNth S a = some (.inl (c, fs))) (hq : mFld fs k = some q) (hr : r < S.length) (h3 : 3 ≤ q) : okS (S.set a (.inl (c, fs.set k (r + 4))), f, g) := by
  intro x sh hx
  rw [mNth_eq] at hx
  simp only [List.getElem?_set] at hx
  show okSh (S.set a (.inl (c, fs.set k (r + 4)))).length (f x) (g x) sh
  rw [List.length_set]
  by_cases e : a = x
  · subst e
    rw [if_pos rfl, if_pos (mNth_lt ha)] at hx
    cases hx
    have h1 := h a _ ha
    refine ⟨h1.1, by rw [List.length_set]; exact h1.2.1, fun j z hj => ?_⟩
    rw [mFld_eq, List.getElem?_set] at hj
    by_cases ej : k = j
    · subst ej
      rw [if_pos rfl, if_pos (mFld_lt hq)] at hj
      cases hj
      refine ⟨hr, ?_⟩
      have h4 := (h1.2.2 k q hq).2
      revert h4
      cases mTy c k <;> intro h4 <;> simp only [kTy] at h4 ⊢ <;> omega
    · rw [if_neg ej] at hj
      exact h1.2.2 j z (by rw [mFld_eq]; exact hj)
  · rw [if_neg e] at hx
    exact h x sh (by rw [mNth_eq]; exact hx)
theorem okS_el {S : List mSh} {f g : Nat → Nat → Int} (h : okS (S, f, g)) {a j t len : Nat} {rs : List Nat} {n : Int} (ha : mNth S a = some (.inr (t, len, rs))) (hn : (t ≠ 1 → r32 n) ∧ (t = 1 → r64 n)) : okS (S, f, mUp g a j n) := by
  intro x sh hx
  have h1 := h x sh hx
  by_cases e : x = a
  · subst e
    have e2 : sh = .inr (t, len, rs) := Option.some.inj (hx.symm.trans ha)
    subst e2
    refine ⟨h1.1, h1.2.1, h1.2.2.1, fun ht i => ?_, fun ht i => ?_, h1.2.2.2.2.2⟩
    · by_cases ei : i = j
      · subst ei; simpa [mUp] using hn.1 ht.1
      · simpa [mUp, ei] using h1.2.2.2.1 ht i
    · by_cases ei : i = j
      · subst ei; simpa [mUp] using hn.2 ht
      · simpa [mUp, ei] using h1.2.2.2.2.1 ht i
  · have : mUp g a j n x = g x := by funext y; simp [mUp, e]
    show okSh S.length (f x) (mUp g a j n x) sh
    rw [this]
    exact h1
theorem okS_cp {S : List mSh} {f g : Nat → Nat → Int} (h : okS (S, f, g)) {a d na nd sp dp n : Nat} {ra rd : List Nat} (ha : mNth S a = some (.inr (0, na, ra))) (hd : mNth S d = some (.inr (0, nd, rd))) : okS (S, f, mCp g a sp d dp n) := by
  intro x sh hx
  have h1 := h x sh hx
  by_cases e : x = d
  · subst e
    have e2 : sh = .inr (0, nd, rd) := Option.some.inj (hx.symm.trans hd)
    subst e2
    refine ⟨h1.1, h1.2.1, h1.2.2.1, fun ht i => ?_, fun ht => absurd ht (by decide), h1.2.2.2.2.2⟩
    show r32 (mCp g a sp x dp n x i)
    unfold mCp
    rw [if_pos rfl]
    split
    · exact (h a _ ha).2.2.2.1 (by decide) _
    · exact h1.2.2.2.1 ht i
  · have : mCp g a sp d dp n x = g x := by funext y; simp [mCp, e]
    show okSh S.length (f x) (mCp g a sp d dp n x) sh
    rw [this]
    exact h1
theorem e_upd {g : Nat → Nat → Int} {a : Nat} {i v : Int} (hi : r32 i) : (fun j => Int32.ofInt (mUp g a i.toNat v a j)) = upd (fun j => Int32.ofInt (g a j)) (Int32.ofInt i).toNatClampNeg (Int32.ofInt v) := by
  funext j
  rw [cl_of hi]
  unfold mUp upd
  rw [if_pos rfl]
  split <;> rfl
theorem e_updL {g : Nat → Nat → Int} {a : Nat} {i v : Int} (hi : r32 i) : (fun j => Int64.ofInt (mUp g a i.toNat v a j)) = vp_updL (fun j => Int64.ofInt (g a j)) (Int32.ofInt i).toNatClampNeg (Int64.ofInt v) := by
  funext j
  rw [cl_of hi]
  unfold mUp vp_updL
  rw [if_pos rfl]
  split <;> rfl
theorem up_else {g : Nat → Nat → Int} {a j : Nat} {n : Int} {i : Nat} (h : i ≠ a) : mUp g a j n i = g i := by funext y; simp [mUp, h]

section SIMB
variable {p : Program} {l : Launch} {e : Env} {R : Room} {s : State} {m : MethodId} {args : Array Value} {below : List Frame} {meth : Method} {c : Code} {Qf : State → Prop}
variable {D : va_G} {cA : Nat → ClassId} {kd : Nat → Value} {h0 n0 nL : Nat} {ad0 : Nat → Nat} {cc : ByteArray} {pc : Nat} {L : mL} {r st : List mV} {sg : mS} {b : mB}


abbrev okS0 (s : mS) : Prop := okS s
theorem Rl.okS {ad : Nat → Nat} {H : Heap} {locs : List Loc} {cells slots : Nat} {ls : Array Slot} (h : Rl R s D cA kd h0 n0 ad0 nL L st sg b ad H locs cells slots ls) : okS sg := h.2.2.2.2.1
/-- the world changes, its cells stay -/
theorem Rl.world {ad : Nat → Nat} {H H1 : Heap} {locs locs1 : List Loc} {cells slots : Nat} {ls : Array Slot} {st' : List mV} {sg' : mS} (h : Rl R s D cA kd h0 n0 ad0 nL L st sg b ad H locs cells slots ls) (hn : sg'.1.length = sg.1.length) (hP : va_P D mCls (cW ad cA sg') H1) (hD : va_D (AA h0) (cW ad cA sg')) (hS : va_S (AA h0) s.heap H1 locs1) (ho : okS0 sg') (h' : ∀ v ∈ st', okV sg.1.length v) : Rl R s D cA kd h0 n0 ad0 nL L st' sg' b ad H1 locs1 cells slots ls :=
  ⟨hP, hD, hS, h.2.2.2.1, ho, by rw [hn]; exact h.2.2.2.2.2.1, by rw [hn]; exact h', h.2.2.2.2.2.2.2.1, by rw [hn]; exact h.2.2.2.2.2.2.2.2⟩
theorem sm_getfield (hx : p.tables.exec = Jvm.exec) (hb : c.code = cc) (hts : ∀ w ∈ gt, w.before args s = true) (hK : va_K D mCls (mTys cA) s) (hk0 : kd 0 = .null) {own : String} (hown : s.vm.findClass own = some m.cls) {a k ci idx q : Nat} {fs : List Nat} (hci : ci ≤ 12) (hk : k < (mClsOf ci).2.2) (hl : (Cond.fieldLink own idx ((mClsOf ci).2.1 k).1 ((mClsOf ci).2.1 k).2.1 ((mClsOf ci).2.1 k).2.2.1).before args s = true) (hdg : decode cc pc = .ok (.getfield idx, 3)) (hs : mNth sg.1 a = some (.inl (ci, fs))) (hq : mFld fs k = some q) (h : Sim p l e R s m args below meth c Qf D cA kd h0 n0 ad0 nL (pc + 3) L (mFldOf q (sg.2.1 a k) :: r) sg b) : Sim p l e R s m args below meth c Qf D cA kd h0 n0 ad0 nL pc L (vR a :: r) sg b := by
  intro ad H locs cells slots ls hR
  obtain ⟨oa, ok⟩ := List.forall_mem_cons.mp hR.ok
  have hci' : ci < 13 := by omega
  refine va_get (v := cF ad (sg.2.1 a k) q) hx hb hts (cls_in ci hci') hown hK hR.1 a (cW_at hs) (cls_at ci hci') k hk hl (fun _ h => h) (by rw [List.getElem?_mapIdx, ← mFld_eq, hq]; rfl) hdg ?_
  have h1 := h ad H locs cells slots ls (hR.st' (List.forall_mem_cons.mpr ⟨okV_fld ((hR.okS a _ hs).2.2 k q hq).1, ok⟩))
  rw [List.map_cons, cV_fld hk0] at h1
  exact h1
theorem sm_put (hx : p.tables.exec = Jvm.exec) (hb : c.code = cc) (hts : ∀ w ∈ gt, w.before args s = true) (hK : va_K D mCls (mTys cA) s) {own : String} (hown : s.vm.findClass own = some m.cls) {a k ci idx q : Nat} {fs : List Nat} {n : Int} {v : mV} (hv : v = mFldOf q n) (hci : ci ≤ 12) (hk : k < (mClsOf ci).2.2) (hl : (Cond.fieldLink own idx ((mClsOf ci).2.1 k).1 ((mClsOf ci).2.1 k).2.1 ((mClsOf ci).2.1 k).2.2.1).before args s = true) (hfin : (((mClsOf ci).2.1 k).2.2.2 = true) → meth.name = "<init>" ∧ ((mClsOf ci).2.1 k).1 = own) (hdg : decode cc pc = .ok (.putfield idx, 3)) (hs : mNth sg.1 a = some (.inl (ci, fs))) (hq : mFld fs k = some q) (hq3 : q < 3) (hz : q = 2 → n = 0 ∨ n = 1) (h : Sim p l e R s m args below meth c Qf D cA kd h0 n0 ad0 nL (pc + 3) L r (sg.1, mUp sg.2.1 a k n, sg.2.2) b) : Sim p l e R s m args below meth c Qf D cA kd h0 n0 ad0 nL pc L (v :: vR a :: r) sg b := by
  intro ad H locs cells slots ls hR
  obtain ⟨ov, ok⟩ := List.forall_mem_cons.mp hR.ok
  obtain ⟨oa, ok⟩ := List.forall_mem_cons.mp ok
  have hci' : ci < 13 := by omega
  have hok := hR.okS a _ hs
  have hcv : cV ad kd v = cF ad n q := by
    subst hv
    rcases q with _ | _ | _ | q
    · rfl
    · rfl
    · rfl
    · omega
  have hkt := (hok.2.2 k q hq).2
  obtain ⟨p1, p2⟩ := put_ok (ad := ad) (x := n) hkt hz (by omega)
  have hon : okF1 sg.1.length n q := by
    subst hv
    rcases q with _ | _ | _ | q
    · exact ov
    · exact ov
    · exact ov
    · omega
  have hset : (cW ad cA sg).set a (ad a, .inr (ci, (fs.mapIdx (fun j z => cF ad (sg.2.1 a j) z)).set k (cF ad n q))) = cW ad cA (sg.1, mUp sg.2.1 a k n, sg.2.2) :=
    cW_set rfl hs (by rw [← map_up (a := a) hq]; rfl) (fun i hi => ⟨rfl, up_else hi, rfl⟩)
  have key : ∀ (H1 : Heap) (locs1 : List Loc), va_P D mCls ((cW ad cA sg).set a (ad a, .inr (ci, (fs.mapIdx (fun j z => cF ad (sg.2.1 a j) z)).set k (cF ad n q)))) H1 → va_D (AA h0) ((cW ad cA sg).set a (ad a, .inr (ci, (fs.mapIdx (fun j z => cF ad (sg.2.1 a j) z)).set k (cF ad n q)))) → va_S (AA h0) s.heap H1 locs1 → W p l e R s m args below meth c H1 locs1 cells slots Qf (F0 m (pc + 3) ls (r.map (cV ad kd))) := by
    intro H1 locs1 g1 g2 g3
    rw [hset] at g1 g2
    exact h ad H1 locs1 cells slots ls (hR.world rfl g1 g2 g3 (okS_up hR.okS hs hq hon) ok)
  rw [List.map_cons, hcv]
  cases hf : ((mClsOf ci).2.1 k).2.2.2 with
  | false => exact va_put hx hb hts (cls_in ci hci') (mTy ci) (cls_ty ci hci') (cls_nm ci hci') hown hK hR.1 hR.2.1 hR.2.2.1 a (cW_at hs) (cls_at ci hci') k hk hl (fun _ h => h) hf (cls_ty ci hci' k hk) p1 p2 (by rw [List.length_mapIdx]; exact mFld_lt hq) hdg key
  | true => exact va_putF hx hb hts (cls_in ci hci') (mTy ci) (cls_ty ci hci') (cls_nm ci hci') hown hK hR.1 hR.2.1 hR.2.2.1 a (cW_at hs) (cls_at ci hci') k hk hl (fun _ h => h) hf (hfin hf).1 (hfin hf).2 (cls_ty ci hci' k hk) p1 p2 (by rw [List.length_mapIdx]; exact mFld_lt hq) hdg key
theorem sm_putR (hx : p.tables.exec = Jvm.exec) (hb : c.code = cc) (hts : ∀ w ∈ gt, w.before args s = true) (hK : va_K D mCls (mTys cA) s) {own : String} (hown : s.vm.findClass own = some m.cls) {a k ci idx q z : Nat} {fs : List Nat} (hci : ci ≤ 12) (hk : k < (mClsOf ci).2.2) (hl : (Cond.fieldLink own idx ((mClsOf ci).2.1 k).1 ((mClsOf ci).2.1 k).2.1 ((mClsOf ci).2.1 k).2.2.1).before args s = true) (hfin : (((mClsOf ci).2.1 k).2.2.2 = true) → meth.name = "<init>" ∧ ((mClsOf ci).2.1 k).1 = own) (hdg : decode cc pc = .ok (.putfield idx, 3)) (hs : mNth sg.1 a = some (.inl (ci, fs))) (hq : mFld fs k = some q) (hq3 : 3 ≤ q) (h : Sim p l e R s m args below meth c Qf D cA kd h0 n0 ad0 nL (pc + 3) L r (sg.1.set a (.inl (ci, fs.set k (z + 4))), sg.2.1, sg.2.2) b) : Sim p l e R s m args below meth c Qf D cA kd h0 n0 ad0 nL pc L (vR z :: vR a :: r) sg b := by
  intro ad H locs cells slots ls hR
  obtain ⟨ov, ok⟩ := List.forall_mem_cons.mp hR.ok
  obtain ⟨oa, ok⟩ := List.forall_mem_cons.mp ok
  have hci' : ci < 13 := by omega
  have hok := hR.okS a _ hs
  have hkt := (hok.2.2 k q hq).2
  have hkt2 : kTy (mTy ci k) (z + 4) := by
    revert hkt
    cases mTy ci k <;> intro hkt <;> simp only [kTy] at hkt ⊢ <;> omega
  obtain ⟨p1, p2⟩ := put_ok (ad := ad) (x := 0) hkt2 (by omega) (by omega)
  have hset : (cW ad cA sg).set a (ad a, .inr (ci, (fs.mapIdx (fun j z => cF ad (sg.2.1 a j) z)).set k (.ref (ad z)))) = cW ad cA (sg.1.set a (.inl (ci, fs.set k (z + 4))), sg.2.1, sg.2.2) :=
    cW_set (by simp) (by rw [mNth_eq, List.getElem?_set_self (mNth_lt hs)]) (by rw [← map_ref (mFld_lt hq)]; rfl) (fun i hi => ⟨List.getElem?_set_ne (fun e => hi e.symm), rfl, rfl⟩)
  have key : ∀ (H1 : Heap) (locs1 : List Loc), va_P D mCls ((cW ad cA sg).set a (ad a, .inr (ci, (fs.mapIdx (fun j z => cF ad (sg.2.1 a j) z)).set k (.ref (ad z))))) H1 → va_D (AA h0) ((cW ad cA sg).set a (ad a, .inr (ci, (fs.mapIdx (fun j z => cF ad (sg.2.1 a j) z)).set k (.ref (ad z))))) → va_S (AA h0) s.heap H1 locs1 → W p l e R s m args below meth c H1 locs1 cells slots Qf (F0 m (pc + 3) ls (r.map (cV ad kd))) := by
    intro H1 locs1 g1 g2 g3
    rw [hset] at g1 g2
    exact h ad H1 locs1 cells slots ls (hR.world (by simp) g1 g2 g3 (okS_ref hR.okS hs hq ov hq3) ok)
  cases hf : ((mClsOf ci).2.1 k).2.2.2 with
  | false => exact va_put hx hb hts (cls_in ci hci') (mTy ci) (cls_ty ci hci') (cls_nm ci hci') hown hK hR.1 hR.2.1 hR.2.2.1 a (cW_at hs) (cls_at ci hci') k hk hl (fun _ h => h) hf (cls_ty ci hci' k hk) p1 p2 (by rw [List.length_mapIdx]; exact mFld_lt hq) hdg key
  | true => exact va_putF hx hb hts (cls_in ci hci') (mTy ci) (cls_ty ci hci') (cls_nm ci hci') hown hK hR.1 hR.2.1 hR.2.2.1 a (cW_at hs) (cls_at ci hci') k hk hl (fun _ h => h) hf (hfin hf).1 (hfin hf).2 (cls_ty ci hci' k hk) p1 p2 (by rw [List.length_mapIdx]; exact mFld_lt hq) hdg key

theorem sm_iaload (hx : p.tables.exec = Jvm.exec) (hb : c.code = cc) (hK : va_K D mCls (mTys cA) s) {a n : Nat} {rs : List Nat} {i : Int} (hdg : decode cc pc = .ok (.iaload, 1)) (hs : mNth sg.1 a = some (.inr (0, n, rs))) (h : mInA i n ∧ Sim p l e R s m args below meth c Qf D cA kd h0 n0 ad0 nL (pc + 1) L (vI (sg.2.2 a i.toNat) :: r) sg b) : Sim p l e R s m args below meth c Qf D cA kd h0 n0 ad0 nL pc L (vI i :: vR a :: r) sg b := by
  intro ad H locs cells slots ls hR
  obtain ⟨oi, ok⟩ := List.forall_mem_cons.mp hR.ok
  obtain ⟨oa, ok⟩ := List.forall_mem_cons.mp ok
  refine va_iald hx hb hK hR.1 a 0 (cW_at hs) rfl (vin_of oi h.1) hdg ?_
  have h1 := h.2 ad H locs cells slots ls (hR.st' (List.forall_mem_cons.mpr ⟨(hR.okS a _ hs).2.2.2.1 (by decide) _, ok⟩))
  rw [cl_of oi]
  exact h1

theorem sm_baloadB (hx : p.tables.exec = Jvm.exec) (hb : c.code = cc) (hK : va_K D mCls (mTys cA) s) {a n : Nat} {rs : List Nat} {i : Int} (hdg : decode cc pc = .ok (.baload, 1)) (hs : mNth sg.1 a = some (.inr (2, n, rs))) (h : mInA i n ∧ Sim p l e R s m args below meth c Qf D cA kd h0 n0 ad0 nL (pc + 1) L (vI (sg.2.2 a i.toNat) :: r) sg b) : Sim p l e R s m args below meth c Qf D cA kd h0 n0 ad0 nL pc L (vI i :: vR a :: r) sg b := by
  intro ad H locs cells slots ls hR
  obtain ⟨oi, ok⟩ := List.forall_mem_cons.mp hR.ok
  obtain ⟨oa, ok⟩ := List.forall_mem_cons.mp ok
  refine va_bald hx hb hK hR.1 a 2 (cW_at hs) rfl (vin_of oi h.1) hdg ?_
  have h1 := h.2 ad H locs cells slots ls (hR.st' (List.forall_mem_cons.mpr ⟨(hR.okS a _ hs).2.2.2.1 (by decide) _, ok⟩))
  rw [cl_of oi]
  exact h1

theorem sm_baloadZ (hx : p.tables.exec = Jvm.exec) (hb : c.code = cc) (hK : va_K D mCls (mTys cA) s) {a n : Nat} {rs : List Nat} {i : Int} (hdg : decode cc pc = .ok (.baload, 1)) (hs : mNth sg.1 a = some (.inr (3, n, rs))) (h : mInA i n ∧ Sim p l e R s m args below meth c Qf D cA kd h0 n0 ad0 nL (pc + 1) L (vI (sg.2.2 a i.toNat) :: r) sg b) : Sim p l e R s m args below meth c Qf D cA kd h0 n0 ad0 nL pc L (vI i :: vR a :: r) sg b := by
  intro ad H locs cells slots ls hR
  obtain ⟨oi, ok⟩ := List.forall_mem_cons.mp hR.ok
  obtain ⟨oa, ok⟩ := List.forall_mem_cons.mp ok
  refine va_zald hx hb hK hR.1 a 3 (cW_at hs) rfl (vin_of oi h.1) hdg ?_
  have h1 := h.2 ad H locs cells slots ls (hR.st' (List.forall_mem_cons.mpr ⟨(hR.okS a _ hs).2.2.2.1 (by decide) _, ok⟩))
  rw [cl_of oi]
  exact h1

theorem sm_laload (hx : p.tables.exec = Jvm.exec) (hb : c.code = cc) (hK : va_K D mCls (mTys cA) s) {a n : Nat} {rs : List Nat} {i : Int} (hdg : decode cc pc = .ok (.laload, 1)) (hs : mNth sg.1 a = some (.inr (1, n, rs))) (h : mInA i n ∧ Sim p l e R s m args below meth c Qf D cA kd h0 n0 ad0 nL (pc + 1) L (vL (sg.2.2 a i.toNat) :: r) sg b) : Sim p l e R s m args below meth c Qf D cA kd h0 n0 ad0 nL pc L (vI i :: vR a :: r) sg b := by
  intro ad H locs cells slots ls hR
  obtain ⟨oi, ok⟩ := List.forall_mem_cons.mp hR.ok
  obtain ⟨oa, ok⟩ := List.forall_mem_cons.mp ok
  refine va_lald hx hb hK hR.1 a 1 (cW_at hs) rfl (vin_of oi h.1) hdg ?_
  have h1 := h.2 ad H locs cells slots ls (hR.st' (List.forall_mem_cons.mpr ⟨(hR.okS a _ hs).2.2.2.2.1 rfl _, ok⟩))
  rw [cl_of oi]
  exact h1

theorem sm_iastore (hx : p.tables.exec = Jvm.exec) (hb : c.code = cc) (hK : va_K D mCls (mTys cA) s) {a n : Nat} {rs : List Nat} {i v : Int} (hdg : decode cc pc = .ok (.iastore, 1)) (hs : mNth sg.1 a = some (.inr (0, n, rs))) (h : mInA i n ∧ Sim p l e R s m args below meth c Qf D cA kd h0 n0 ad0 nL (pc + 1) L r (sg.1, sg.2.1, mUp sg.2.2 a i.toNat (v)) b) : Sim p l e R s m args below meth c Qf D cA kd h0 n0 ad0 nL pc L (vI v :: vI i :: vR a :: r) sg b := by
  intro ad H locs cells slots ls hR
  obtain ⟨ov, ok⟩ := List.forall_mem_cons.mp hR.ok
  obtain ⟨oi, ok⟩ := List.forall_mem_cons.mp ok
  obtain ⟨oa, ok⟩ := List.forall_mem_cons.mp ok
  have hset : (cW ad cA sg).set a (ad a, .inl (cA 0, n, .inl (upd (fun j => Int32.ofInt (sg.2.2 a j)) (Int32.ofInt i).toNatClampNeg (Int32.ofInt v)))) = cW ad cA (sg.1, sg.2.1, mUp sg.2.2 a i.toNat (v)) :=
    cW_set rfl hs (by rw [← e_upd oi]; rfl) (fun q hq => ⟨rfl, rfl, up_else hq⟩)
  refine va_iast hx hb hK hR.1 hR.2.1 hR.2.2.1 a 0 (cW_at hs) rfl (vin_of oi h.1) hdg (fun H1 locs1 g1 g2 g3 => ?_)
  rw [hset] at g1 g2
  exact h.2 ad H1 locs1 cells slots ls (hR.world rfl g1 g2 g3 (okS_el hR.okS hs ⟨fun _ => ov, fun q => absurd q (by decide)⟩) ok)

theorem sm_lastore (hx : p.tables.exec = Jvm.exec) (hb : c.code = cc) (hK : va_K D mCls (mTys cA) s) {a n : Nat} {rs : List Nat} {i v : Int} (hdg : decode cc pc = .ok (.lastore, 1)) (hs : mNth sg.1 a = some (.inr (1, n, rs))) (h : mInA i n ∧ Sim p l e R s m args below meth c Qf D cA kd h0 n0 ad0 nL (pc + 1) L r (sg.1, sg.2.1, mUp sg.2.2 a i.toNat (v)) b) : Sim p l e R s m args below meth c Qf D cA kd h0 n0 ad0 nL pc L (vL v :: vI i :: vR a :: r) sg b := by
  intro ad H locs cells slots ls hR
  obtain ⟨ov, ok⟩ := List.forall_mem_cons.mp hR.ok
  obtain ⟨oi, ok⟩ := List.forall_mem_cons.mp ok
  obtain ⟨oa, ok⟩ := List.forall_mem_cons.mp ok
  have hset : (cW ad cA sg).set a (ad a, .inl (cA 1, n, .inr (.inl (vp_updL (fun j => Int64.ofInt (sg.2.2 a j)) (Int32.ofInt i).toNatClampNeg (Int64.ofInt v))))) = cW ad cA (sg.1, sg.2.1, mUp sg.2.2 a i.toNat (v)) :=
    cW_set rfl hs (by rw [← e_updL oi]; rfl) (fun q hq => ⟨rfl, rfl, up_else hq⟩)
  refine va_last hx hb hK hR.1 hR.2.1 hR.2.2.1 a 1 (cW_at hs) rfl (vin_of oi h.1) hdg (fun H1 locs1 g1 g2 g3 => ?_)
  rw [hset] at g1 g2
  exact h.2 ad H1 locs1 cells slots ls (hR.world rfl g1 g2 g3 (okS_el hR.okS hs ⟨fun q => absurd rfl q, fun _ => ov⟩) ok)

theorem sm_bastoreB (hx : p.tables.exec = Jvm.exec) (hb : c.code = cc) (hK : va_K D mCls (mTys cA) s) {a n : Nat} {rs : List Nat} {i v : Int} (hdg : decode cc pc = .ok (.bastore, 1)) (hs : mNth sg.1 a = some (.inr (2, n, rs))) (h : mInA i n ∧ Sim p l e R s m args below meth c Qf D cA kd h0 n0 ad0 nL (pc + 1) L r (sg.1, sg.2.1, mUp sg.2.2 a i.toNat (iB v)) b) : Sim p l e R s m args below meth c Qf D cA kd h0 n0 ad0 nL pc L (vI v :: vI i :: vR a :: r) sg b := by
  intro ad H locs cells slots ls hR
  obtain ⟨ov, ok⟩ := List.forall_mem_cons.mp hR.ok
  obtain ⟨oi, ok⟩ := List.forall_mem_cons.mp ok
  obtain ⟨oa, ok⟩ := List.forall_mem_cons.mp ok
  have hset : (cW ad cA sg).set a (ad a, .inl (cA 2, n, .inl (upd (fun j => Int32.ofInt (sg.2.2 a j)) (Int32.ofInt i).toNatClampNeg (vp_nar .byte (Int32.ofInt v))))) = cW ad cA (sg.1, sg.2.1, mUp sg.2.2 a i.toNat (iB v)) :=
    cW_set rfl hs (by rw [vp_nar_byte, ← of_i32 (Int32.ofInt v).toInt8.toInt32, ← e_upd oi]; rfl) (fun q hq => ⟨rfl, rfl, up_else hq⟩)
  refine va_bast hx hb hK hR.1 hR.2.1 hR.2.2.1 a 2 (cW_at hs) rfl (vin_of oi h.1) hdg (fun H1 locs1 g1 g2 g3 => ?_)
  rw [hset] at g1 g2
  exact h.2 ad H1 locs1 cells slots ls (hR.world rfl g1 g2 g3 (okS_el hR.okS hs ⟨fun _ => i32_r _, fun q => absurd q (by decide)⟩) ok)

theorem sm_bastoreZ (hx : p.tables.exec = Jvm.exec) (hb : c.code = cc) (hK : va_K D mCls (mTys cA) s) {a n : Nat} {rs : List Nat} {i v : Int} (hdg : decode cc pc = .ok (.bastore, 1)) (hs : mNth sg.1 a = some (.inr (3, n, rs))) (h : mInA i n ∧ (v = 0 ∨ v = 1) ∧ Sim p l e R s m args below meth c Qf D cA kd h0 n0 ad0 nL (pc + 1) L r (sg.1, sg.2.1, mUp sg.2.2 a i.toNat (v)) b) : Sim p l e R s m args below meth c Qf D cA kd h0 n0 ad0 nL pc L (vI v :: vI i :: vR a :: r) sg b := by
  intro ad H locs cells slots ls hR
  obtain ⟨ov, ok⟩ := List.forall_mem_cons.mp hR.ok
  obtain ⟨oi, ok⟩ := List.forall_mem_cons.mp ok
  obtain ⟨oa, ok⟩ := List.forall_mem_cons.mp ok
  have hset : (cW ad cA sg).set a (ad a, .inl (cA 3, n, .inl (upd (fun j => Int32.ofInt (sg.2.2 a j)) (Int32.ofInt i).toNatClampNeg (vp_nar .boolean (Int32.ofInt v))))) = cW ad cA (sg.1, sg.2.1, mUp sg.2.2 a i.toNat (v)) :=
    cW_set rfl hs (by rw [show vp_nar .boolean (Int32.ofInt v) = Int32.ofInt v by rcases h.2.1 with rfl | rfl <;> decide, ← e_upd oi]; rfl) (fun q hq => ⟨rfl, rfl, up_else hq⟩)
  refine va_zast hx hb hK hR.1 hR.2.1 hR.2.2.1 a 3 (cW_at hs) rfl (vin_of oi h.1) hdg (fun H1 locs1 g1 g2 g3 => ?_)
  rw [hset] at g1 g2
  exact h.2.2 ad H1 locs1 cells slots ls (hR.world rfl g1 g2 g3 (okS_el hR.okS hs ⟨fun _ => ov, fun q => absurd q (by decide)⟩) ok)


theorem sm_alen (hx : p.tables.exec = Jvm.exec) (hb : c.code = cc) (hK : va_K D mCls (mTys cA) s) {a t n : Nat} {rs : List Nat} (hdg : decode cc pc = .ok (.arraylength, 1)) (hs : mNth sg.1 a = some (.inr (t, n, rs))) (h : Sim p l e R s m args below meth c Qf D cA kd h0 n0 ad0 nL (pc + 1) L (vI (n : Int) :: r) sg b) : Sim p l e R s m args below meth c Qf D cA kd h0 n0 ad0 nL pc L (vR a :: r) sg b := by
  intro ad H locs cells slots ls hR
  obtain ⟨oa, ok⟩ := List.forall_mem_cons.mp hR.ok
  have hok := hR.okS a _ hs
  have hn : r32 (n : Int) := by have := hok.2.1; unfold r32; omega
  have h1 := h ad H locs cells slots ls (hR.st' (List.forall_mem_cons.mpr ⟨hn, ok⟩))
  have e1 : Int32.ofNat n = Int32.ofInt (n : Int) := by rw [Int32.ofInt_eq_ofNat]
  rcases t with _ | _ | _ | _ | _ | t
  · exact va_alen hx hb hK hR.1 a 0 (cW_at hs) rfl e1 hdg h1
  · exact va_alen hx hb hK hR.1 a 1 (cW_at hs) rfl e1 hdg h1
  · exact va_alen hx hb hK hR.1 a 2 (cW_at hs) rfl e1 hdg h1
  · exact va_alen hx hb hK hR.1 a 3 (cW_at hs) rfl e1 hdg h1
  · exact va_alen hx hb hK hR.1 a 4 (cW_at hs) rfl e1 hdg h1
  · exact absurd hok.1 (by omega)
theorem cQ_fld {ad : Nat → Nat} {kd : Nat → Value} (h0 : kd 0 = .null) {q : Nat} (h : 3 ≤ q) : va_rf (cQ ad (some q)) = cV ad kd (mFldOf q 0) := by
  rcases q with _ | _ | _ | _ | q
  · omega
  · omega
  · omega
  · exact h0.symm
  · rfl
theorem sm_aaload (hx : p.tables.exec = Jvm.exec) (hb : c.code = cc) (hK : va_K D mCls (mTys cA) s) (hk0 : kd 0 = .null) {a n q : Nat} {rs : List Nat} {i : Int} (hdg : decode cc pc = .ok (.aaload, 1)) (hs : mNth sg.1 a = some (.inr (4, n, rs))) (hi : mInA i n) (hq : mFld rs i.toNat = some q) (h : Sim p l e R s m args below meth c Qf D cA kd h0 n0 ad0 nL (pc + 1) L (mFldOf q 0 :: r) sg b) : Sim p l e R s m args below meth c Qf D cA kd h0 n0 ad0 nL pc L (vI i :: vR a :: r) sg b := by
  intro ad H locs cells slots ls hR
  obtain ⟨oi, ok⟩ := List.forall_mem_cons.mp hR.ok
  obtain ⟨oa, ok⟩ := List.forall_mem_cons.mp ok
  obtain ⟨q3, qr⟩ := (hR.okS a _ hs).2.2.1 rfl _ q hq
  have hv : okV sg.1.length (mFldOf q 0) := by
    rcases q with _ | _ | _ | _ | q
    · omega
    · omega
    · omega
    · trivial
    · exact qr q rfl
  refine va_aldq hx hb hK hR.1 a 4 (cW_at hs) rfl (vin_of oi hi) hdg ?_
  have h1 := h ad H locs cells slots ls (hR.st' (List.forall_mem_cons.mpr ⟨hv, ok⟩))
  rw [List.map_cons, ← cQ_fld (ad := ad) hk0 q3, ← hq] at h1
  rw [cl_of oi]
  exact h1
theorem okS_aref {S : List mSh} {f g : Nat → Nat → Int} (h : okS (S, f, g)) {a n i v : Nat} {rs : List Nat} (ha : mNth S a = some (.inr (4, n, rs))) (hv : v < S.length) : okS (S.set a (.inr (4, n, rs.set i (v + 4))), f, g) := by
  intro x sh hx
  rw [mNth_eq] at hx
  simp only [List.getElem?_set] at hx
  show okSh (S.set a _).length (f x) (g x) sh
  rw [List.length_set]
  by_cases e : a = x
  · subst e
    rw [if_pos rfl, if_pos (mNth_lt ha)] at hx
    cases hx
    have h1 := h a _ ha
    refine ⟨h1.1, h1.2.1, fun _ j z hj => ?_, h1.2.2.2.1, h1.2.2.2.2.1, fun _ => by rw [List.length_set]; exact h1.2.2.2.2.2 rfl⟩
    rw [mFld_eq, List.getElem?_set] at hj
    by_cases ej : i = j
    · rw [if_pos ej] at hj
      split at hj
      · cases hj
        exact ⟨by omega, fun r hr => by omega⟩
      · cases hj
    · rw [if_neg ej] at hj
      exact h1.2.2.1 rfl j z (by rw [mFld_eq]; exact hj)
  · rw [if_neg e] at hx
    exact h x sh (by rw [mNth_eq]; exact hx)
theorem sm_aastore (hx : p.tables.exec = Jvm.exec) (hb : c.code = cc) (hK : va_K D mCls (mTys cA) s) {a n v : Nat} {rs vs : List Nat} {i : Int} (hdg : decode cc pc = .ok (.aastore, 1)) (hs : mNth sg.1 a = some (.inr (4, n, rs))) (hrs : i.toNat < rs.length) (hi : mInA i n) (hv : mNth sg.1 v = some (.inl (7, vs))) (h : Sim p l e R s m args below meth c Qf D cA kd h0 n0 ad0 nL (pc + 1) L r (sg.1.set a (.inr (4, n, rs.set i.toNat (v + 4))), sg.2.1, sg.2.2) b) : Sim p l e R s m args below meth c Qf D cA kd h0 n0 ad0 nL pc L (vR v :: vI i :: vR a :: r) sg b := by
  intro ad H locs cells slots ls hR
  obtain ⟨ov, ok⟩ := List.forall_mem_cons.mp hR.ok
  obtain ⟨oi, ok⟩ := List.forall_mem_cons.mp ok
  obtain ⟨oa, ok⟩ := List.forall_mem_cons.mp ok
  have hfe : (fun j => cQ ad (mFld (rs.set i.toNat (v + 4)) j)) = va_up (fun j => cQ ad (mFld rs j)) (Int32.ofInt i).toNatClampNeg (some (ad v)) := by
    funext j
    rw [cl_of oi]
    unfold va_up
    rw [mFld_eq, List.getElem?_set]
    by_cases e : i.toNat = j
    · rw [if_pos e, if_pos hrs, if_pos e.symm]; rfl
    · rw [if_neg e, if_neg (fun q => e q.symm)]
      show _ = cQ ad (mFld rs j)
      rw [mFld_eq]
  have hset : (cW ad cA sg).set a (ad a, .inl (cA 4, n, .inr (.inr (.inr (.inr (va_up (fun j => cQ ad (mFld rs j)) (Int32.ofInt i).toNatClampNeg (some (ad v)))))))) = cW ad cA (sg.1.set a (.inr (4, n, rs.set i.toNat (v + 4))), sg.2.1, sg.2.2) :=
    cW_set (by simp) (by rw [mNth_eq, List.getElem?_set_self (mNth_lt hs)]) (by rw [← hfe]; rfl) (fun q hq => ⟨List.getElem?_set_ne (fun e => hq e.symm), rfl, rfl⟩)
  refine va_astq (r := mClsOf 7) hx hb hK hR.1 hR.2.1 hR.2.2.1 a 4 v 7 (cW_at hs) rfl (cW_at hv) (cls_at 7 (by omega)) (vin_of oi hi) hdg (fun H1 locs1 g1 g2 g3 => ?_)
  rw [hset] at g1 g2
  exact h ad H1 locs1 cells slots ls (hR.world (by simp) g1 g2 g3 (okS_aref hR.okS hs ov) ok)

end SIMB
end
section
/-! The small machine in the real one: constants, the JDK's numbers, new cells -/
theorem g_max1 : Cond.static Lib.Math.max.name ∈ gt := tb_mem (i := 3134) (by decide +kernel)
theorem g_max2 : Cond.code Lib.Math.max.name Lib.Math.max.code 2 (some .int) ∈ gt := tb_mem (i := 3135) (by decide +kernel)
theorem g_min1 : Cond.static Lib.Math.min.name ∈ gt := tb_mem (i := 3137) (by decide +kernel)
theorem g_min2 : Cond.code Lib.Math.min.name Lib.Math.min.code 2 (some .int) ∈ gt := tb_mem (i := 3138) (by decide +kernel)
theorem g_abs1 : Cond.static Lib.Math.abs.name ∈ gt := tb_mem (i := 4067) (by decide +kernel)
theorem g_abs2 : Cond.code Lib.Math.abs.name Lib.Math.abs.code 1 (some .int) ∈ gt := tb_mem (i := 4068) (by decide +kernel)
theorem g_math : Cond.initialized "java/lang/Math" ∈ gt := tb_mem (i := 1019) (by decide +kernel)
theorem g_sys : Cond.initialized "java/lang/System" ∈ gt := tb_mem (i := 1021) (by decide +kernel)
theorem g_ac1 : Cond.native arraycopyName ∈ gt := tb_mem (i := 4049) (by decide +kernel)
theorem g_ac2 : Cond.static arraycopyName ∈ gt := tb_mem (i := 4048) (by decide +kernel)
theorem g_oi1 : Cond.instanceMethod Lib.objectInit ∈ gt := tb_mem (i := 1032) (by decide +kernel)
theorem g_oi2 : Cond.code Lib.objectInit ⟨#[0xb1]⟩ 1 none ∈ gt := tb_mem (i := 1033) (by decide +kernel)
theorem g_arr_int : Cond.arrayClass .int ∈ gt := tb_mem (i := 1094) (by decide +kernel)
theorem g_arr_byte : Cond.arrayClass .byte ∈ gt := tb_mem (i := 1064) (by decide +kernel)
theorem g_arr_boolean : Cond.arrayClass .boolean ∈ gt := tb_mem (i := 2204) (by decide +kernel)
theorem g_arr_long : Cond.arrayClass .long ∈ gt := tb_mem (i := 6139) (by decide +kernel)
theorem g_inst0 : Cond.instantiable (mClsOf 0).1 (mClsOf 0).2.2 ∈ gt ∧ Cond.initialized (mClsOf 0).1 ∈ gt := ⟨tb_mem (i := 1072) (by decide +kernel), tb_mem (i := 1004) (by decide +kernel)⟩
theorem g_inst1 : Cond.instantiable (mClsOf 1).1 (mClsOf 1).2.2 ∈ gt ∧ Cond.initialized (mClsOf 1).1 ∈ gt := ⟨tb_mem (i := 2089) (by decide +kernel), tb_mem (i := 1009) (by decide +kernel)⟩
theorem g_inst2 : Cond.instantiable (mClsOf 2).1 (mClsOf 2).2.2 ∈ gt ∧ Cond.initialized (mClsOf 2).1 ∈ gt := ⟨tb_mem (i := 2175) (by decide +kernel), tb_mem (i := 1012) (by decide +kernel)⟩
theorem g_inst3 : Cond.instantiable (mClsOf 3).1 (mClsOf 3).2.2 ∈ gt ∧ Cond.initialized (mClsOf 3).1 ∈ gt := ⟨tb_mem (i := 2131) (by decide +kernel), tb_mem (i := 1011) (by decide +kernel)⟩
theorem g_inst4 : Cond.instantiable (mClsOf 4).1 (mClsOf 4).2.2 ∈ gt ∧ Cond.initialized (mClsOf 4).1 ∈ gt := ⟨tb_mem (i := 1078) (by decide +kernel), tb_mem (i := 1005) (by decide +kernel)⟩
theorem g_inst5 : Cond.instantiable (mClsOf 5).1 (mClsOf 5).2.2 ∈ gt ∧ Cond.initialized (mClsOf 5).1 ∈ gt := ⟨tb_mem (i := 2109) (by decide +kernel), tb_mem (i := 1010) (by decide +kernel)⟩
theorem g_inst6 : Cond.instantiable (mClsOf 6).1 (mClsOf 6).2.2 ∈ gt ∧ Cond.initialized (mClsOf 6).1 ∈ gt := ⟨tb_mem (i := 2068) (by decide +kernel), tb_mem (i := 1008) (by decide +kernel)⟩
theorem g_inst7 : Cond.instantiable (mClsOf 7).1 (mClsOf 7).2.2 ∈ gt ∧ Cond.initialized (mClsOf 7).1 ∈ gt := ⟨tb_mem (i := 2004) (by decide +kernel), tb_mem (i := 1007) (by decide +kernel)⟩
theorem g_inst8 : Cond.instantiable (mClsOf 8).1 (mClsOf 8).2.2 ∈ gt ∧ Cond.initialized (mClsOf 8).1 ∈ gt := ⟨tb_mem (i := 2206) (by decide +kernel), tb_mem (i := 1013) (by decide +kernel)⟩
theorem g_inst9 : Cond.instantiable (mClsOf 9).1 (mClsOf 9).2.2 ∈ gt ∧ Cond.initialized (mClsOf 9).1 ∈ gt := ⟨tb_mem (i := 1035) (by decide +kernel), tb_mem (i := 1002) (by decide +kernel)⟩
theorem g_inst10 : Cond.instantiable (mClsOf 10).1 (mClsOf 10).2.2 ∈ gt ∧ Cond.initialized (mClsOf 10).1 ∈ gt := ⟨tb_mem (i := 1066) (by decide +kernel), tb_mem (i := 1003) (by decide +kernel)⟩
theorem g_inst11 : Cond.instantiable (mClsOf 11).1 (mClsOf 11).2.2 ∈ gt ∧ Cond.initialized (mClsOf 11).1 ∈ gt := ⟨tb_mem (i := 1027) (by decide +kernel), tb_mem (i := 1001) (by decide +kernel)⟩
theorem g_inst12 : Cond.instantiable (mClsOf 12).1 (mClsOf 12).2.2 ∈ gt ∧ Cond.initialized (mClsOf 12).1 ∈ gt := ⟨tb_mem (i := 5236) (by decide +kernel), tb_mem (i := 1014) (by decide +kernel)⟩
theorem g_inst : ∀ ci, ci < 13 → Cond.instantiable (mClsOf ci).1 (mClsOf ci).2.2 ∈ gt ∧ Cond.initialized (mClsOf ci).1 ∈ gt := by
  intro ci h
  match ci, h with
  | 0, _ => exact g_inst0
  | 1, _ => exact g_inst1
  | 2, _ => exact g_inst2
  | 3, _ => exact g_inst3
  | 4, _ => exact g_inst4
  | 5, _ => exact g_inst5
  | 6, _ => exact g_inst6
  | 7, _ => exact g_inst7
  | 8, _ => exact g_inst8
  | 9, _ => exact g_inst9
  | 10, _ => exact g_inst10
  | 11, _ => exact g_inst11
  | 12, _ => exact g_inst12
  | n + 13, h => omega

def txW : String := "bay     rock    shoal   boat    cable   swell   wish    gales   loose   at      hold    pull    trust   strong  plain   slow    oar     old     keen    not     and     or      fish    rough   room    far     x       y       hour    "
def txS : String := "()<=+-*;"
/-- the constants of a run -/
def KC (kA : mKA) (kd : Nat → Value) (h0 : Nat) (U : State) : Prop :=
  kd 0 = .null ∧ (∀ k, kd k = .null ∨ ∃ a, kd k = .ref a) ∧
  (∀ k, (kA k).1 = 0 → ∃ a, kd k = .ref a ∧ va_T .int a (kA k).2.1 (fun j => .int (Int32.ofInt ((kA k).2.2 j))) (AA h0) U U.heap) ∧
  (∀ k, (kA k).1 = 2 → ∃ a, kd k = .ref a ∧ va_T .byte a (kA k).2.1 (fun j => .int (Int32.ofInt ((kA k).2.2 j))) (AA h0) U U.heap) ∧
  (∀ k, (kA k).2.1 < 2147483648 ∧ ∀ j, r32 ((kA k).2.2 j)) ∧
  va_Z "OneCable" "WAY_X" "[I" (kd 1) (AA h0) U U.heap ∧ va_Z "OneCable" "WAY_Y" "[I" (kd 2) (AA h0) U U.heap ∧
  va_Z "java/lang/String" "COMPACT_STRINGS" "Z" (.int 1) (AA h0) U U.heap ∧ va_Z "jdk/internal/util/Preconditions" "SIOOBE_FORMATTER" "Ljava/util/function/BiFunction;" (kd 9) (AA h0) U U.heap ∧
  (∃ a4 a5, kd 4 = .ref a4 ∧ kd 5 = .ref a5 ∧ vk_R "OneCable$Tape" 51 txW a4 U ∧ vk_R "OneCable$Tape" 43 txS a5 U ∧
    va_O "java/lang/String" a4 (AA h0) U U.heap ∧ va_O "java/lang/String" a5 (AA h0) U U.heap ∧
    va_OF "java/lang/String" "coder" "B" (.int 0) a4 (AA h0) U U.heap ∧ va_OF "java/lang/String" "coder" "B" (.int 0) a5 (AA h0) U U.heap ∧
    va_OF "java/lang/String" "value" "[B" (kd 6) a4 (AA h0) U U.heap ∧ va_OF "java/lang/String" "value" "[B" (kd 7) a5 (AA h0) U U.heap) ∧
  (∀ w ∈ nw, va_Nw w U) ∧ va_AO RX7 U
theorem nw_warm {w : Cond} (hw : w ∈ nw) {s U : State} (hW : s.WarmedH U.vm) (h : va_Nw w s) : va_Nw w U := by
  have h1 := (List.mem_filter.mp hw).2
  cases w <;> simp only [isNest] at h1 <;> first | exact va_Nw.warmF hW h | exact va_Nw.warmM hW h | cases h1
theorem KC.go {kA : mKA} {kd : Nat → Value} {h0 : Nat} {s U : State} (hW : s.WarmedH U.vm) (hq : ∀ a : Nat, a < s.heap.size → ¬ AA h0 a → U.heap[a]? = s.heap[a]?) (h : KC kA kd h0 s) : KC kA kd h0 U := by
  obtain ⟨h1, h2, h3, h4, h5, h6, h7, h8, h9, ⟨a4, a5, e4, e5, q1, q2, q3, q4, q5, q6, q7, q8⟩, h11, h12⟩ := h
  have hA := hW.alike
  refine ⟨h1, h2, fun k hk => ?_, fun k hk => ?_, h5, (va_Z.moved hA h6).kept hq, (va_Z.moved hA h7).kept hq, (va_Z.moved hA h8).kept hq, (va_Z.moved hA h9).kept hq, ⟨a4, a5, e4, e5, q1.warm hW, q2.warm hW, (va_O.moved hA q3).kept hq, (va_O.moved hA q4).kept hq, (va_OF.moved hA q5).kept hq, (va_OF.moved hA q6).kept hq, (va_OF.moved hA q7).kept hq, (va_OF.moved hA q8).kept hq⟩, fun w hw => nw_warm hw hW (h11 w hw), va_AO.moved hA h12⟩
  · obtain ⟨a, e, t⟩ := h3 k hk
    exact ⟨a, e, (va_T.moved hA t).kept hq⟩
  · obtain ⟨a, e, t⟩ := h4 k hk
    exact ⟨a, e, (va_T.moved hA t).kept hq⟩
theorem KC.cat {kA : mKA} {kd : Nat → Value} {h0 : Nat} {s : State} (h : KC kA kd h0 s) : ∀ k, (kd k).category = 1 := by
  intro k
  rcases h.2.1 k with e | ⟨a, e⟩ <;> rw [e] <;> rfl
theorem e_max {x y : Int} (hx : r32 x) (hy : r32 y) : (if Int32.ofInt x < Int32.ofInt y then Int32.ofInt y else Int32.ofInt x) = Int32.ofInt (max x y) := by
  by_cases h : x < y
  · rw [if_pos ((lt32 hx hy).mpr h), Int.max_eq_right (by omega)]
  · rw [if_neg (fun q => h ((lt32 hx hy).mp q)), Int.max_eq_left (by omega)]
theorem le32 {x y : Int} (hx : r32 x) (hy : r32 y) : Int32.ofInt x ≤ Int32.ofInt y ↔ x ≤ y := by
  rw [Int32.le_iff_toInt_le, i32_of hx, i32_of hy]
theorem e_min {x y : Int} (hx : r32 x) (hy : r32 y) : (if Int32.ofInt y < Int32.ofInt x then Int32.ofInt y else Int32.ofInt x) = Int32.ofInt (min x y) := by
  by_cases h : y < x
  · rw [if_pos ((lt32 hy hx).mpr h), Int.min_eq_right (by omega)]
  · rw [if_neg (fun q => h ((lt32 hy hx).mp q)), Int.min_eq_left (by omega)]
theorem e_abs {x : Int} (hx : r32 x) : (if 0 ≤ Int32.ofInt x then Int32.ofInt x else 0 - Int32.ofInt x) = Int32.ofInt (if x < 0 then wr (-x) else x) := by
  have h0 : (0 ≤ Int32.ofInt x) ↔ 0 ≤ x := by rw [z32]; exact le32 r32_0 hx
  by_cases h : x < 0
  · rw [if_neg (fun q => by have := h0.mp q; omega), if_pos h, z32, e_sub]; congr 2; omega
  · rw [if_pos (h0.mpr (by omega)), if_neg h]
theorem cats_eq {ad : Nat → Nat} {kd : Nat → Value} (hk : ∀ k, (kd k).category = 1) : ∀ r : List mV, ((r.map (cV ad kd)).map fun v => v.category).sum = mCats r
  | [] => rfl
  | v :: r => by
    simp only [List.map_cons, List.sum_cons, mCats]
    rw [← cats_eq hk r]
    congr 1
    rcases v with n | n | n | n
    · rfl
    · rfl
    · rfl
    · exact hk n
def dflt : Nat → Value
  | 0 => .int 0
  | 1 => .long 0
  | 2 => .int 0
  | _ => .null
theorem new_ok : ∀ ci, ci < 13 → ∀ j, j < (mClsOf ci).2.2 → defaultValue (mTy ci j) = vp_V ((mNew ci).map dflt) j := by decide +kernel
theorem new_len : ∀ ci, ci < 13 → (mNew ci).length = (mClsOf ci).2.2 := by decide +kernel
theorem new_le3 : ∀ ci, ci < 13 → ∀ q ∈ mNew ci, q ≤ 3 := by decide +kernel
def kTyB : FieldType → Option Nat → Bool
  | .int, some 0 => true
  | .long, some 1 => true
  | .boolean, some 2 => true
  | .object _, some 3 => true
  | .array _, some 3 => true
  | _, _ => false
theorem new_ktyB : ∀ ci, ci < 13 → ∀ k, k < (mClsOf ci).2.2 → kTyB (mTy ci k) (mFld (mNew ci) k) = true := by decide +kernel
theorem new_kty : ∀ ci, ci < 13 → ∀ k q, mFld (mNew ci) k = some q → kTy (mTy ci k) q := by
  intro ci hci k q hq
  have h1 := new_ktyB ci hci k (by rw [← new_len ci hci]; rw [mFld_eq] at hq; exact (List.getElem?_eq_some_iff.mp hq).1)
  rw [hq] at h1
  revert h1
  rcases q with _ | _ | _ | _ | q <;> cases mTy ci k <;> intro h1 <;> simp [kTyB, kTy] at h1 ⊢
theorem new_map {ad : Nat → Nat} {f : Nat → Int} (hf : ∀ k, f k = 0) {ci : Nat} (hci : ci < 13) : (mNew ci).mapIdx (fun k q => cF ad (f k) q) = (mNew ci).map dflt := by
  apply List.ext_getElem?
  intro j
  simp only [List.getElem?_mapIdx, List.getElem?_map]
  cases hj : (mNew ci)[j]? with
  | none => rfl
  | some q =>
    have hq := new_le3 ci hci q (List.mem_of_getElem? hj)
    simp only [Option.map_some, hf]
    rcases q with _ | _ | _ | _ | q
    · rfl
    · rfl
    · rfl
    · rfl
    · omega

section SIMB
variable {p : Program} {l : Launch} {e : Env} {R : Room} {s : State} {m : MethodId} {args : Array Value} {below : List Frame} {meth : Method} {c : Code} {Qf : State → Prop}
variable {D : va_G} {cA : Nat → ClassId} {kd : Nat → Value} {h0 n0 nL : Nat} {ad0 : Nat → Nat} {cc : ByteArray} {pc : Nat} {L : mL} {r st : List mV} {sg : mS} {b : mB}


variable {kA : mKA}
theorem Rl.S {ad : Nat → Nat} {H : Heap} {locs : List Loc} {cells slots : Nat} {ls : Array Slot} (h : Rl R s D cA kd h0 n0 ad0 nL L st sg b ad H locs cells slots ls) : va_S (AA h0) s.heap H locs := h.2.2.1
theorem sm_ldcW (hx : p.tables.exec = Jvm.exec) (hb : c.code = cc) (hC : KC kA kd h0 s) (hown : s.vm.findClass "OneCable$Tape" = some m.cls) (hdg : decode cc pc = .ok (.ldc 51, 2)) (h : Sim p l e R s m args below meth c Qf D cA kd h0 n0 ad0 nL (pc + 2) L (vK 4 :: st) sg b) : Sim p l e R s m args below meth c Qf D cA kd h0 n0 ad0 nL pc L st sg b := by
  intro ad H locs cells slots ls hR
  have h1 := h ad H locs cells slots ls (hR.st' (List.forall_mem_cons.mpr ⟨trivial, hR.ok⟩))
  obtain ⟨a4, a5, e4, e5, q1, q2, -⟩ := hC.2.2.2.2.2.2.2.2.2.1
  rw [List.map_cons, show cV ad kd (vK 4) = .ref a4 from e4] at h1
  exact va_ldcS hx hb hown q1 hdg h1
theorem sm_ldcS (hx : p.tables.exec = Jvm.exec) (hb : c.code = cc) (hC : KC kA kd h0 s) (hown : s.vm.findClass "OneCable$Tape" = some m.cls) (hdg : decode cc pc = .ok (.ldc 43, 2)) (h : Sim p l e R s m args below meth c Qf D cA kd h0 n0 ad0 nL (pc + 2) L (vK 5 :: st) sg b) : Sim p l e R s m args below meth c Qf D cA kd h0 n0 ad0 nL pc L st sg b := by
  intro ad H locs cells slots ls hR
  have h1 := h ad H locs cells slots ls (hR.st' (List.forall_mem_cons.mpr ⟨trivial, hR.ok⟩))
  obtain ⟨a4, a5, e4, e5, q1, q2, -⟩ := hC.2.2.2.2.2.2.2.2.2.1
  rw [List.map_cons, show cV ad kd (vK 5) = .ref a5 from e5] at h1
  exact va_ldcS hx hb hown q2 hdg h1
theorem sm_gets (hx : p.tables.exec = Jvm.exec) (hb : c.code = cc) {own C n d : String} {idx : Nat} {v : mV} {z : Value} (hz : ∀ ad, cV ad kd v = z) (hv : ∀ k, okV k v) (hZ : va_Z C n d z (AA h0) s s.heap) (hown : s.vm.findClass own = some m.cls) (hl : (Cond.fieldLink own idx C n d).before args s = true) (hdg : decode cc pc = .ok (.getstatic idx, 3)) (h : Sim p l e R s m args below meth c Qf D cA kd h0 n0 ad0 nL (pc + 3) L (v :: st) sg b) : Sim p l e R s m args below meth c Qf D cA kd h0 n0 ad0 nL pc L st sg b := by
  intro ad H locs cells slots ls hR
  have h1 := h ad H locs cells slots ls (hR.st' (List.forall_mem_cons.mpr ⟨hv _, hR.ok⟩))
  rw [List.map_cons, hz ad] at h1
  exact va_gets hx hb hZ hR.S hown hl (fun _ h => h) hdg h1
theorem sm_getsN (hx : p.tables.exec = Jvm.exec) (hb : c.code = cc) {own C n d host : String} {idx : Nat} {v : mV} {z : Value} (hz : ∀ ad, cV ad kd v = z) (hv : ∀ k, okV k v) (hZ : va_Z C n d z (AA h0) s s.heap) (hown : s.vm.findClass own = some m.cls) (hl : (Cond.fieldLinkNest own idx C n d host).before args s = true) (hdg : decode cc pc = .ok (.getstatic idx, 3)) (h : Sim p l e R s m args below meth c Qf D cA kd h0 n0 ad0 nL (pc + 3) L (v :: st) sg b) : Sim p l e R s m args below meth c Qf D cA kd h0 n0 ad0 nL pc L st sg b := by
  intro ad H locs cells slots ls hR
  have h1 := h ad H locs cells slots ls (hR.st' (List.forall_mem_cons.mpr ⟨hv _, hR.ok⟩))
  rw [List.map_cons, hz ad] at h1
  exact va_getsN hx hb hZ hR.S hown hl (fun _ h => h) hdg h1
theorem sm_kget (hx : p.tables.exec = Jvm.exec) (hb : c.code = cc) (hC : KC kA kd h0 s) {own n d : String} {idx k f : Nat} (hk : k = 4 ∨ k = 5) (hf : (f = 0 ∧ n = "value" ∧ d = "[B") ∨ (f = 1 ∧ n = "coder" ∧ d = "B")) (hown : s.vm.findClass own = some m.cls) (hl : (Cond.fieldLink own idx "java/lang/String" n d).before args s = true) (hdg : decode cc pc = .ok (.getfield idx, 3)) (h : Sim p l e R s m args below meth c Qf D cA kd h0 n0 ad0 nL (pc + 3) L (mKF k f :: r) sg b) : Sim p l e R s m args below meth c Qf D cA kd h0 n0 ad0 nL pc L (vK k :: r) sg b := by
  intro ad H locs cells slots ls hR
  obtain ⟨oa, ok⟩ := List.forall_mem_cons.mp hR.ok
  have hv : okV sg.1.length (mKF k f) := by
    rcases hk with rfl | rfl <;> rcases hf with ⟨rfl, -, -⟩ | ⟨rfl, -, -⟩
    · trivial
    · exact r32_0
    · trivial
    · exact r32_0
  have h1 := h ad H locs cells slots ls (hR.st' (List.forall_mem_cons.mpr ⟨hv, ok⟩))
  obtain ⟨a4, a5, e4, e5, q1, q2, q3, q4, q5, q6, q7, q8⟩ := hC.2.2.2.2.2.2.2.2.2.1
  rw [List.map_cons] at h1 ⊢
  rcases hk with rfl | rfl <;> rcases hf with ⟨rfl, rfl, rfl⟩ | ⟨rfl, rfl, rfl⟩
  · rw [show cV ad kd (vK 4) = .ref a4 from e4]
    exact vk_getf hx hb q7 hR.S hown hl (fun _ h => h) hdg h1
  · rw [show cV ad kd (vK 4) = .ref a4 from e4]
    exact vk_getf hx hb q5 hR.S hown hl (fun _ h => h) hdg h1
  · rw [show cV ad kd (vK 5) = .ref a5 from e5]
    exact vk_getf hx hb q8 hR.S hown hl (fun _ h => h) hdg h1
  · rw [show cV ad kd (vK 5) = .ref a5 from e5]
    exact vk_getf hx hb q6 hR.S hown hl (fun _ h => h) hdg h1
theorem sm_kiald (hx : p.tables.exec = Jvm.exec) (hb : c.code = cc) (hC : KC kA kd h0 s) {k n : Nat} {f : Nat → Int} {i : Int} (hk : kA k = (0, n, f)) (hdg : decode cc pc = .ok (.iaload, 1)) (h : mInA i n ∧ Sim p l e R s m args below meth c Qf D cA kd h0 n0 ad0 nL (pc + 1) L (vI (f i.toNat) :: r) sg b) : Sim p l e R s m args below meth c Qf D cA kd h0 n0 ad0 nL pc L (vI i :: vK k :: r) sg b := by
  intro ad H locs cells slots ls hR
  obtain ⟨oi, ok⟩ := List.forall_mem_cons.mp hR.ok
  obtain ⟨oa, ok⟩ := List.forall_mem_cons.mp ok
  obtain ⟨a, ea, t⟩ := hC.2.2.1 k (by rw [hk])
  have hf := (hC.2.2.2.2.1 k).2
  rw [hk] at t hf
  have h1 := h.2 ad H locs cells slots ls (hR.st' (List.forall_mem_cons.mpr ⟨hf _, ok⟩))
  simp only [List.map_cons] at h1 ⊢
  rw [show cV ad kd (vK k) = .ref a from ea]
  exact va_ti hx hb t hR.S (vin_of oi h.1) (by rw [cl_of oi]; rfl) hdg h1
theorem sm_kbald (hx : p.tables.exec = Jvm.exec) (hb : c.code = cc) (hC : KC kA kd h0 s) {k n : Nat} {f : Nat → Int} {i : Int} (hk : kA k = (2, n, f)) (hdg : decode cc pc = .ok (.baload, 1)) (h : mInA i n ∧ Sim p l e R s m args below meth c Qf D cA kd h0 n0 ad0 nL (pc + 1) L (vI (f i.toNat) :: r) sg b) : Sim p l e R s m args below meth c Qf D cA kd h0 n0 ad0 nL pc L (vI i :: vK k :: r) sg b := by
  intro ad H locs cells slots ls hR
  obtain ⟨oi, ok⟩ := List.forall_mem_cons.mp hR.ok
  obtain ⟨oa, ok⟩ := List.forall_mem_cons.mp ok
  obtain ⟨a, ea, t⟩ := hC.2.2.2.1 k (by rw [hk])
  have hf := (hC.2.2.2.2.1 k).2
  rw [hk] at t hf
  have h1 := h.2 ad H locs cells slots ls (hR.st' (List.forall_mem_cons.mpr ⟨hf _, ok⟩))
  simp only [List.map_cons] at h1 ⊢
  rw [show cV ad kd (vK k) = .ref a from ea]
  exact va_tb hx hb t hR.S (vin_of oi h.1) (by rw [cl_of oi]; rfl) hdg h1
theorem sm_klen (hx : p.tables.exec = Jvm.exec) (hb : c.code = cc) (hC : KC kA kd h0 s) {k t n : Nat} {f : Nat → Int} (hk : kA k = (t, n, f)) (ht : t = 0 ∨ t = 2) (hdg : decode cc pc = .ok (.arraylength, 1)) (h : Sim p l e R s m args below meth c Qf D cA kd h0 n0 ad0 nL (pc + 1) L (vI (n : Int) :: r) sg b) : Sim p l e R s m args below meth c Qf D cA kd h0 n0 ad0 nL pc L (vK k :: r) sg b := by
  intro ad H locs cells slots ls hR
  obtain ⟨oa, ok⟩ := List.forall_mem_cons.mp hR.ok
  have hn := (hC.2.2.2.2.1 k).1
  rw [hk] at hn
  have hn2 : n < 2147483648 := hn
  have h1 := h ad H locs cells slots ls (hR.st' (List.forall_mem_cons.mpr ⟨(by unfold okV r32; omega), ok⟩))
  simp only [List.map_cons] at h1 ⊢
  have e1 : Int32.ofNat n = Int32.ofInt (n : Int) := by rw [Int32.ofInt_eq_ofNat]
  rcases ht with rfl | rfl
  · obtain ⟨a, ea, t⟩ := hC.2.2.1 k (by rw [hk])
    rw [hk] at t
    rw [show cV ad kd (vK k) = .ref a from ea]
    exact va_tlen hx hb t hR.S e1 hdg h1
  · obtain ⟨a, ea, t⟩ := hC.2.2.2.1 k (by rw [hk])
    rw [hk] at t
    rw [show cV ad kd (vK k) = .ref a from ea]
    exact va_tlen hx hb t hR.S e1 hdg h1
theorem Rl.room {ad : Nat → Nat} {H : Heap} {locs : List Loc} {cells slots : Nat} {ls : Array Slot} (h : Rl R s D cA kd h0 n0 ad0 nL L st sg b ad H locs cells slots ls) : cells + b.1 ≤ R.cells ∧ slots + b.2 ≤ R.slots := h.2.2.2.2.2.2.2.1

theorem sm_max (hx : p.tables.exec = Jvm.exec) (hb : c.code = cc) (hts : ∀ w ∈ gt, w.before args s = true) (hk1 : ∀ k, (kd k).category = 1) (hml : c.maxLocals = nL) (hRm : 1 ≤ R.frames ∧ 200 ≤ R.locals) {own : String} (hown : s.vm.findClass own = some m.cls) {x y : Int} {idx : Nat} (hl : (Cond.methodLink own idx Lib.Math.max.name).before args s = true) (hc : mCats r ≤ 8) (hdg : decode cc pc = .ok (.invokestatic idx, 3)) (h : Sim p l e R s m args below meth c Qf D cA kd h0 n0 ad0 nL (pc + 3) L (vI (max x y) :: r) sg b) : Sim p l e R s m args below meth c Qf D cA kd h0 n0 ad0 nL pc L (vI y :: vI x :: r) sg b := by
  intro ad H locs cells slots ls hR
  obtain ⟨oy, ok⟩ := List.forall_mem_cons.mp hR.ok
  obtain ⟨ox, ok⟩ := List.forall_mem_cons.mp ok
  have oy : r32 y := oy
  have ox : r32 x := ox
  have h1 := h ad H locs cells slots ls (hR.st' (List.forall_mem_cons.mpr ⟨(by show r32 (max x y); unfold r32 at ox oy ⊢; omega), ok⟩))
  refine va_mmax hx hb (by rw [hml]; exact hR.lv.1.symm) hown hl (hts _ g_max1) (hts _ g_math) (hts _ g_max2) hRm.1 (by rw [cats_eq hk1]; omega) (by have := hR.room; omega) (by have := hR.room; omega) hdg ?_
  rw [e_max ox oy]
  exact h1

theorem sm_min (hx : p.tables.exec = Jvm.exec) (hb : c.code = cc) (hts : ∀ w ∈ gt, w.before args s = true) (hk1 : ∀ k, (kd k).category = 1) (hml : c.maxLocals = nL) (hRm : 1 ≤ R.frames ∧ 200 ≤ R.locals) {own : String} (hown : s.vm.findClass own = some m.cls) {x y : Int} {idx : Nat} (hl : (Cond.methodLink own idx Lib.Math.min.name).before args s = true) (hc : mCats r ≤ 8) (hdg : decode cc pc = .ok (.invokestatic idx, 3)) (h : Sim p l e R s m args below meth c Qf D cA kd h0 n0 ad0 nL (pc + 3) L (vI (min x y) :: r) sg b) : Sim p l e R s m args below meth c Qf D cA kd h0 n0 ad0 nL pc L (vI y :: vI x :: r) sg b := by
  intro ad H locs cells slots ls hR
  obtain ⟨oy, ok⟩ := List.forall_mem_cons.mp hR.ok
  obtain ⟨ox, ok⟩ := List.forall_mem_cons.mp ok
  have oy : r32 y := oy
  have ox : r32 x := ox
  have h1 := h ad H locs cells slots ls (hR.st' (List.forall_mem_cons.mpr ⟨(by show r32 (min x y); unfold r32 at ox oy ⊢; omega), ok⟩))
  refine va_mmin hx hb (by rw [hml]; exact hR.lv.1.symm) hown hl (hts _ g_min1) (hts _ g_math) (hts _ g_min2) hRm.1 (by rw [cats_eq hk1]; omega) (by have := hR.room; omega) (by have := hR.room; omega) hdg ?_
  rw [e_min ox oy]
  exact h1


theorem sm_abs (hx : p.tables.exec = Jvm.exec) (hb : c.code = cc) (hts : ∀ w ∈ gt, w.before args s = true) (hk1 : ∀ k, (kd k).category = 1) (hml : c.maxLocals = nL) (hRm : 1 ≤ R.frames ∧ 200 ≤ R.locals) {own : String} (hown : s.vm.findClass own = some m.cls) {x : Int} {idx : Nat} (hl : (Cond.methodLink own idx Lib.Math.abs.name).before args s = true) (hc : mCats r ≤ 8) (hdg : decode cc pc = .ok (.invokestatic idx, 3)) (h : Sim p l e R s m args below meth c Qf D cA kd h0 n0 ad0 nL (pc + 3) L (vI (if x < 0 then wr (-x) else x) :: r) sg b) : Sim p l e R s m args below meth c Qf D cA kd h0 n0 ad0 nL pc L (vI x :: r) sg b := by
  intro ad H locs cells slots ls hR
  obtain ⟨ox, ok⟩ := List.forall_mem_cons.mp hR.ok
  have ox : r32 x := ox
  have h1 := h ad H locs cells slots ls (hR.st' (List.forall_mem_cons.mpr ⟨(by show r32 _; split; exact wr_r _; exact ox), ok⟩))
  refine va_mabs hx hb (by rw [hml]; exact hR.lv.1.symm) hown hl (hts _ g_abs1) (hts _ g_math) (hts _ g_abs2) hRm.1 (by rw [cats_eq hk1]; omega) (by have := hR.room; omega) (by have := hR.room; omega) hdg ?_
  rw [e_abs ox]
  exact h1
theorem sm_copy (hx : p.tables.exec = Jvm.exec) (hb : c.code = cc) (hts : ∀ w ∈ gt, w.before args s = true) (hK : va_K D mCls (mTys cA) s) (hk1 : ∀ k, (kd k).category = 1) (hml : c.maxLocals = nL) (hRm : 1 ≤ R.frames ∧ 200 ≤ R.locals) {own : String} (hown : s.vm.findClass own = some m.cls) {n dp sp : Int} {a d na nd idx : Nat} {ra rd : List Nat} (hl : (Cond.methodLink own idx arraycopyName).before args s = true) (hc : mCats r ≤ 8) (ha : mNth sg.1 a = some (.inr (0, na, ra))) (hd : mNth sg.1 d = some (.inr (0, nd, rd))) (hdg : decode cc pc = .ok (.invokestatic idx, 3)) (hr : 0 ≤ n ∧ 0 ≤ sp ∧ 0 ≤ dp ∧ sp + n ≤ (na : Int) ∧ dp + n ≤ (nd : Int)) (h : Sim p l e R s m args below meth c Qf D cA kd h0 n0 ad0 nL (pc + 3) L r (sg.1, sg.2.1, mCp sg.2.2 a sp.toNat d dp.toNat n.toNat) b) : Sim p l e R s m args below meth c Qf D cA kd h0 n0 ad0 nL pc L (vI n :: vI dp :: vR d :: vI sp :: vR a :: r) sg b := by
  intro ad H locs cells slots ls hR
  obtain ⟨on, ok⟩ := List.forall_mem_cons.mp hR.ok
  obtain ⟨odp, ok⟩ := List.forall_mem_cons.mp ok
  obtain ⟨od, ok⟩ := List.forall_mem_cons.mp ok
  obtain ⟨osp, ok⟩ := List.forall_mem_cons.mp ok
  obtain ⟨oa, ok⟩ := List.forall_mem_cons.mp ok
  have nn : ∀ {z : Int}, r32 z → 0 ≤ z → ¬ Int32.ofInt z < 0 := fun hz h0 q => by
    rw [z32, lt32 hz r32_0] at q; omega
  have hset : (cW ad cA sg).set d (ad d, .inl (cA 0, nd, .inl (va_cpy (fun j => Int32.ofInt (sg.2.2 a j)) (fun j => Int32.ofInt (sg.2.2 d j)) (Int32.ofInt sp).toNatClampNeg (Int32.ofInt dp).toNatClampNeg (Int32.ofInt n).toNatClampNeg))) = cW ad cA (sg.1, sg.2.1, mCp sg.2.2 a sp.toNat d dp.toNat n.toNat) := by
    refine cW_set rfl hd ?_ (fun q hq => ⟨rfl, rfl, by funext y; simp [mCp, hq]⟩)
    show Sum.inl _ = Sum.inl _
    congr 4
    funext j
    rw [cl_of osp, cl_of odp, cl_of on]
    show Int32.ofInt (mCp sg.2.2 a sp.toNat d dp.toNat n.toNat d j) = _
    rw [show mCp sg.2.2 a sp.toNat d dp.toNat n.toNat d j = (if dp.toNat ≤ j ∧ j < dp.toNat + n.toNat then sg.2.2 a (sp.toNat + (j - dp.toNat)) else sg.2.2 d j) from if_pos rfl]
    unfold va_cpy
    split <;> rfl
  have h5 : nativeFrameWords "java/lang/System" "arraycopy" 5 ≤ 100 := by decide +kernel
  refine va_copyi (ty := .int) hx hb (by rw [hml]; exact hR.lv.1.symm) hown hl (hts _ g_ac1) (hts _ g_ac2) (hts _ g_sys) hK hR.1 hR.2.1 hR.2.2.1 a d 0 0 (cW_at ha) (cW_at hd) rfl rfl rfl (nn osp hr.2.1) (nn odp hr.2.2.1) (nn on hr.1) (by rw [cl_of osp, cl_of on]; omega) (by rw [cl_of odp, cl_of on]; omega) (fun _ _ => rfl) hRm.1 (by rw [cats_eq hk1]; omega) hdg (fun H1 locs1 g1 g2 g3 => ?_)
  rw [hset] at g1 g2
  exact h ad H1 locs1 cells slots ls (hR.world rfl g1 g2 g3 (okS_cp hR.okS ha hd) ok)
theorem sm_objInit (hx : p.tables.exec = Jvm.exec) (hb : c.code = cc) (hts : ∀ w ∈ gt, w.before args s = true) (hk1 : ∀ k, (kd k).category = 1) (hml : c.maxLocals = nL) (hRm : 1 ≤ R.frames ∧ 200 ≤ R.locals) {own : String} (hown : s.vm.findClass own = some m.cls) {a idx : Nat} (hl : (Cond.methodLink own idx Lib.objectInit).before args s = true) (hc : mCats r ≤ 8) (hdg : decode cc pc = .ok (.invokespecial idx, 3)) (h : Sim p l e R s m args below meth c Qf D cA kd h0 n0 ad0 nL (pc + 3) L r sg b) : Sim p l e R s m args below meth c Qf D cA kd h0 n0 ad0 nL pc L (vR a :: r) sg b := by
  intro ad H locs cells slots ls hR
  obtain ⟨oa, ok⟩ := List.forall_mem_cons.mp hR.ok
  have h1 := h ad H locs cells slots ls (hR.st' ok)
  refine W.objInit hx hb hown hl (hts _ g_oi1) (hts _ g_oi2) rfl (by rw [hml]; exact hR.lv.1) rfl hdg hRm.1 ?_ h1
  show 2 * 0 + ((r.map (cV ad kd)).map fun v => v.category).sum + 12 ≤ R.locals
  rw [cats_eq hk1]; omega
/-- a new cell -/
theorem Rl.push {ad : Nat → Nat} {H H1 : Heap} {locs : List Loc} {cells slots k : Nat} {ls : Array Slot} {st' : List mV} {sh : mSh} {f' g' : Nat → Nat → Int} {q : Nat} {E : va_E} (h : Rl R s D cA kd h0 n0 ad0 nL L st sg b ad H locs cells slots ls) (hok' : ∀ v ∈ st', okV sg.1.length v) (hE : cE (fun i => if i = sg.1.length then q else ad i) cA (f' sg.1.length) (g' sg.1.length) sh = E) (ho : ∀ i, i < sg.1.length → f' i = sg.2.1 i ∧ g' i = sg.2.2 i) (hsh : okSh (sg.1.length + 1) (f' sg.1.length) (g' sg.1.length) sh) (hP : va_P D mCls (cW ad cA sg ++ [(q, E)]) H1) (hD : va_D (AA h0) (cW ad cA sg ++ [(q, E)])) (hS : va_S (AA h0) s.heap H1 locs) (hb1 : 1 ≤ b.1) (hb2 : k ≤ b.2) :
    Rl R s D cA kd h0 n0 ad0 nL L (vR sg.1.length :: st') (sg.1 ++ [sh], f', g') (b.1 - 1, b.2 - k) (fun i => if i = sg.1.length then q else ad i) H1 locs (cells + 1) (slots + k) ls := by
  have hne : ∀ i, i < sg.1.length → (fun i => if i = sg.1.length then q else ad i) i = ad i := fun i hi => if_neg (Nat.ne_of_lt hi)
  have he := cW_push (cA := cA) (S := sg.1) (f := sg.2.1) (g := sg.2.2) (f' := f') (g' := g') (sh := sh) (q := q) (ad := ad) h.okS hE ho
  have hup : ∀ v, okV sg.1.length v → okV (sg.1.length + 1) v := fun v hv => by
    rcases v with z | z | z | z
    · exact hv
    · exact hv
    · exact Nat.lt_succ_of_lt hv
    · trivial
  have hll : (sg.1 ++ [sh]).length = sg.1.length + 1 := by simp
  refine ⟨?_, ?_, hS, ?_, ?_, ?_, ?_, ?_, ?_, ?_⟩
  · rw [he]; exact hP
  · rw [he]; exact hD
  · refine ⟨h.lv.1, h.lv.2.1, fun i v hv => ?_⟩
    rw [cV_ext hne (h.okl i v hv)]
    exact h.lv.2.2 i v hv
  · intro x shx hx
    show okSh (sg.1 ++ [sh]).length (f' x) (g' x) shx
    rw [hll]
    rw [mNth_eq] at hx
    by_cases hxl : x < sg.1.length
    · have hx' : sg.1[x]? = some shx := by rw [← hx]; exact (List.getElem?_append_left hxl).symm
      have h1 := h.okS x shx (by rw [mNth_eq]; exact hx')
      rw [(ho x hxl).1, (ho x hxl).2]
      rcases shx with ⟨c1, fs⟩ | ⟨t, len, rs⟩
      · refine ⟨h1.1, h1.2.1, fun k z hz => ⟨?_, (h1.2.2 k z hz).2⟩⟩
        have h2 := (h1.2.2 k z hz).1
        rcases z with _ | _ | _ | _ | z
        · exact h2
        · exact h2
        · exact h2
        · trivial
        · exact Nat.lt_succ_of_lt h2
      · exact ⟨h1.1, h1.2.1, fun ht j z hz => ⟨(h1.2.2.1 ht j z hz).1, fun r hr => Nat.lt_succ_of_lt ((h1.2.2.1 ht j z hz).2 r hr)⟩, h1.2.2.2⟩
    · have hxe : x = sg.1.length := by
        have := (List.getElem?_eq_some_iff.mp hx).1
        simp at this
        omega
      subst hxe
      have : shx = sh := by simpa using hx.symm
      subst this
      exact hsh
  · intro i v hv
    rw [hll]
    exact hup v (h.okl i v hv)
  · rw [hll]
    exact List.forall_mem_cons.mpr ⟨Nat.lt_succ_self _, fun v hv => hup v (hok' v hv)⟩
  · have := h.room
    show cells + 1 + (b.1 - 1) ≤ R.cells ∧ slots + k + (b.2 - k) ≤ R.slots
    omega
  · rw [hll]; have := h.2.2.2.2.2.2.2.2.1; omega
  · intro i hi
    have h5 := h.2.2.2.2.2.2.2.2.1
    rw [hne i (by omega)]
    exact h.2.2.2.2.2.2.2.2.2 i hi
theorem Rl.pushV {ad : Nat → Nat} {q : Nat} {st' : List mV} (hok' : ∀ v ∈ st', okV sg.1.length v) : (vR sg.1.length :: st').map (cV (fun i => if i = sg.1.length then q else ad i) kd) = .ref q :: st'.map (cV ad kd) := by
  rw [List.map_cons, cVs_ext (n := sg.1.length) (ad := ad) (fun i hi => if_neg (Nat.ne_of_lt hi)) hok']
  congr 1
  show Value.ref (if sg.1.length = sg.1.length then q else ad sg.1.length) = .ref q
  rw [if_pos rfl]
theorem tys_inj {cA : Nat → ClassId} {cB : ClassId} {ty : FieldType} {t : Nat} (hK : va_K D mCls (mTys cA) s) (hK' : va_K D mCls (mTys cA ++ [(cB, ty)]) s) (ht : (mTys cA)[t]? = some (cA t, ty)) (hp : ∀ C, ty ≠ .object C) : cB = cA t := by
  have h1 := (hK.2 t _ ht).2
  have h2 := (hK'.2 5 (cB, ty) rfl).2
  cases ty <;> first | exact absurd rfl (hp _) | (simp only [va_RA] at h1 h2; exact Option.some.inj (h2.symm.trans h1))
theorem tys_injO {cA : Nat → ClassId} {cB : ClassId} (hK : va_K D mCls (mTys cA) s) (hK' : va_K D mCls (mTys cA ++ [(cB, .object RX7)]) s) : cB = cA 4 := by
  obtain ⟨_, _, _, _, _, h1⟩ := (hK.2 4 (cA 4, .object RX7) rfl).2
  obtain ⟨_, _, _, _, _, h2⟩ := (hK'.2 5 (cB, .object RX7) rfl).2
  exact Option.some.inj (h2.symm.trans h1)

theorem sm_newarr_int (hx : p.tables.exec = Jvm.exec) (hb : c.code = cc) (hts : ∀ w ∈ gt, w.before args s = true) (hK : va_K D mCls (mTys cA) s) (hh : h0 ≤ s.heap.size) {n : Int} (hdg : decode cc pc = .ok (.newarray .int, 2)) (hn : 0 ≤ n ∧ n ≤ 65536 ∧ 1 ≤ b.1 ∧ n.toNat ≤ b.2) (h : Sim p l e R s m args below meth c Qf D cA kd h0 n0 ad0 nL (pc + 2) L (vR sg.1.length :: r) (sg.1 ++ [.inr (0, n.toNat, [])], sg.2.1, fun x y => if x = sg.1.length then 0 else sg.2.2 x y) (b.1 - 1, b.2 - n.toNat)) : Sim p l e R s m args below meth c Qf D cA kd h0 n0 ad0 nL pc L (vI n :: r) sg b := by
  intro ad H locs cells slots ls hR
  obtain ⟨on, ok⟩ := List.forall_mem_cons.mp hR.ok
  have on : r32 n := on
  refine va_newa (atype := .int) (ty := .int) (a0 := (n.toNat, .inl (fun _ => 0))) (N' := n.toNat) hx hb (hts _ g_arr_int) rfl hK hR.1 hR.2.1 hR.2.2.1 (fun q hq => Nat.le_trans hh hq) (fun _ => rfl) (by rw [z32, lt32 on r32_0]; omega) (cl_of on) (by simp only [componentBytes]; omega) (by have := hR.room; omega) (by have := hR.room; omega) hdg (fun q cB H1 k1 g1 g2 g3 => ?_)
  have e := tys_inj (t := 0) hK k1 rfl (fun C z => by cases z)
  subst e
  have h1 := h _ _ _ _ _ _ (hR.push (st' := r) (sh := .inr (0, n.toNat, [])) (f' := sg.2.1) (g' := fun x y => if x = sg.1.length then 0 else sg.2.2 x y) ok (by simp only [cE, if_pos]; rfl) (fun i hi => ⟨rfl, by funext y; rw [if_neg (Nat.ne_of_lt hi)]⟩) ⟨by omega, by omega, fun ht => absurd ht (by decide), fun _ j => by simp only [if_pos]; exact r32_0, fun _ j => by simp only [if_pos]; exact r64_0, fun ht => absurd ht (by decide)⟩ g1 g2 g3 hn.2.2.1 hn.2.2.2)
  rw [Rl.pushV ok] at h1
  exact h1

theorem sm_newarr_long (hx : p.tables.exec = Jvm.exec) (hb : c.code = cc) (hts : ∀ w ∈ gt, w.before args s = true) (hK : va_K D mCls (mTys cA) s) (hh : h0 ≤ s.heap.size) {n : Int} (hdg : decode cc pc = .ok (.newarray .long, 2)) (hn : 0 ≤ n ∧ n ≤ 65536 ∧ 1 ≤ b.1 ∧ n.toNat ≤ b.2) (h : Sim p l e R s m args below meth c Qf D cA kd h0 n0 ad0 nL (pc + 2) L (vR sg.1.length :: r) (sg.1 ++ [.inr (1, n.toNat, [])], sg.2.1, fun x y => if x = sg.1.length then 0 else sg.2.2 x y) (b.1 - 1, b.2 - n.toNat)) : Sim p l e R s m args below meth c Qf D cA kd h0 n0 ad0 nL pc L (vI n :: r) sg b := by
  intro ad H locs cells slots ls hR
  obtain ⟨on, ok⟩ := List.forall_mem_cons.mp hR.ok
  have on : r32 n := on
  refine va_newa (atype := .long) (ty := .long) (a0 := (n.toNat, .inr (.inl (fun _ => 0)))) (N' := n.toNat) hx hb (hts _ g_arr_long) rfl hK hR.1 hR.2.1 hR.2.2.1 (fun q hq => Nat.le_trans hh hq) (fun _ => rfl) (by rw [z32, lt32 on r32_0]; omega) (cl_of on) (by simp only [componentBytes]; omega) (by have := hR.room; omega) (by have := hR.room; omega) hdg (fun q cB H1 k1 g1 g2 g3 => ?_)
  have e := tys_inj (t := 1) hK k1 rfl (fun C z => by cases z)
  subst e
  have h1 := h _ _ _ _ _ _ (hR.push (st' := r) (sh := .inr (1, n.toNat, [])) (f' := sg.2.1) (g' := fun x y => if x = sg.1.length then 0 else sg.2.2 x y) ok (by simp only [cE, if_pos]; rfl) (fun i hi => ⟨rfl, by funext y; rw [if_neg (Nat.ne_of_lt hi)]⟩) ⟨by omega, by omega, fun ht => absurd ht (by decide), fun _ j => by simp only [if_pos]; exact r32_0, fun _ j => by simp only [if_pos]; exact r64_0, fun ht => absurd ht (by decide)⟩ g1 g2 g3 hn.2.2.1 hn.2.2.2)
  rw [Rl.pushV ok] at h1
  exact h1

theorem sm_newarr_byte (hx : p.tables.exec = Jvm.exec) (hb : c.code = cc) (hts : ∀ w ∈ gt, w.before args s = true) (hK : va_K D mCls (mTys cA) s) (hh : h0 ≤ s.heap.size) {n : Int} (hdg : decode cc pc = .ok (.newarray .byte, 2)) (hn : 0 ≤ n ∧ n ≤ 65536 ∧ 1 ≤ b.1 ∧ n.toNat ≤ b.2) (h : Sim p l e R s m args below meth c Qf D cA kd h0 n0 ad0 nL (pc + 2) L (vR sg.1.length :: r) (sg.1 ++ [.inr (2, n.toNat, [])], sg.2.1, fun x y => if x = sg.1.length then 0 else sg.2.2 x y) (b.1 - 1, b.2 - n.toNat)) : Sim p l e R s m args below meth c Qf D cA kd h0 n0 ad0 nL pc L (vI n :: r) sg b := by
  intro ad H locs cells slots ls hR
  obtain ⟨on, ok⟩ := List.forall_mem_cons.mp hR.ok
  have on : r32 n := on
  refine va_newa (atype := .byte) (ty := .byte) (a0 := (n.toNat, .inl (fun _ => 0))) (N' := n.toNat) hx hb (hts _ g_arr_byte) rfl hK hR.1 hR.2.1 hR.2.2.1 (fun q hq => Nat.le_trans hh hq) (fun _ => rfl) (by rw [z32, lt32 on r32_0]; omega) (cl_of on) (by simp only [componentBytes]; omega) (by have := hR.room; omega) (by have := hR.room; omega) hdg (fun q cB H1 k1 g1 g2 g3 => ?_)
  have e := tys_inj (t := 2) hK k1 rfl (fun C z => by cases z)
  subst e
  have h1 := h _ _ _ _ _ _ (hR.push (st' := r) (sh := .inr (2, n.toNat, [])) (f' := sg.2.1) (g' := fun x y => if x = sg.1.length then 0 else sg.2.2 x y) ok (by simp only [cE, if_pos]; rfl) (fun i hi => ⟨rfl, by funext y; rw [if_neg (Nat.ne_of_lt hi)]⟩) ⟨by omega, by omega, fun ht => absurd ht (by decide), fun _ j => by simp only [if_pos]; exact r32_0, fun _ j => by simp only [if_pos]; exact r64_0, fun ht => absurd ht (by decide)⟩ g1 g2 g3 hn.2.2.1 hn.2.2.2)
  rw [Rl.pushV ok] at h1
  exact h1

theorem sm_newarr_boolean (hx : p.tables.exec = Jvm.exec) (hb : c.code = cc) (hts : ∀ w ∈ gt, w.before args s = true) (hK : va_K D mCls (mTys cA) s) (hh : h0 ≤ s.heap.size) {n : Int} (hdg : decode cc pc = .ok (.newarray .boolean, 2)) (hn : 0 ≤ n ∧ n ≤ 65536 ∧ 1 ≤ b.1 ∧ n.toNat ≤ b.2) (h : Sim p l e R s m args below meth c Qf D cA kd h0 n0 ad0 nL (pc + 2) L (vR sg.1.length :: r) (sg.1 ++ [.inr (3, n.toNat, [])], sg.2.1, fun x y => if x = sg.1.length then 0 else sg.2.2 x y) (b.1 - 1, b.2 - n.toNat)) : Sim p l e R s m args below meth c Qf D cA kd h0 n0 ad0 nL pc L (vI n :: r) sg b := by
  intro ad H locs cells slots ls hR
  obtain ⟨on, ok⟩ := List.forall_mem_cons.mp hR.ok
  have on : r32 n := on
  refine va_newa (atype := .boolean) (ty := .boolean) (a0 := (n.toNat, .inl (fun _ => 0))) (N' := n.toNat) hx hb (hts _ g_arr_boolean) rfl hK hR.1 hR.2.1 hR.2.2.1 (fun q hq => Nat.le_trans hh hq) (fun _ => rfl) (by rw [z32, lt32 on r32_0]; omega) (cl_of on) (by simp only [componentBytes]; omega) (by have := hR.room; omega) (by have := hR.room; omega) hdg (fun q cB H1 k1 g1 g2 g3 => ?_)
  have e := tys_inj (t := 3) hK k1 rfl (fun C z => by cases z)
  subst e
  have h1 := h _ _ _ _ _ _ (hR.push (st' := r) (sh := .inr (3, n.toNat, [])) (f' := sg.2.1) (g' := fun x y => if x = sg.1.length then 0 else sg.2.2 x y) ok (by simp only [cE, if_pos]; rfl) (fun i hi => ⟨rfl, by funext y; rw [if_neg (Nat.ne_of_lt hi)]⟩) ⟨by omega, by omega, fun ht => absurd ht (by decide), fun _ j => by simp only [if_pos]; exact r32_0, fun _ j => by simp only [if_pos]; exact r64_0, fun ht => absurd ht (by decide)⟩ g1 g2 g3 hn.2.2.1 hn.2.2.2)
  rw [Rl.pushV ok] at h1
  exact h1


theorem sm_anewarr (hx : p.tables.exec = Jvm.exec) (hb : c.code = cc) (hK : va_K D mCls (mTys cA) s) (hC : KC kA kd h0 s) (hh : h0 ≤ s.heap.size) {own : String} (hown : s.vm.findClass own = some m.cls) {n : Int} {idx : Nat} (hl : (Cond.classLink own idx RX7).before args s = true) (hdg : decode cc pc = .ok (.anewarray idx, 3)) (hn : 0 ≤ n ∧ n ≤ 65536 ∧ 1 ≤ b.1 ∧ n.toNat ≤ b.2) (h : Sim p l e R s m args below meth c Qf D cA kd h0 n0 ad0 nL (pc + 3) L (vR sg.1.length :: r) (sg.1 ++ [.inr (4, n.toNat, List.replicate n.toNat 3)], sg.2.1, sg.2.2) (b.1 - 1, b.2 - n.toNat)) : Sim p l e R s m args below meth c Qf D cA kd h0 n0 ad0 nL pc L (vI n :: r) sg b := by
  intro ad H locs cells slots ls hR
  obtain ⟨on, ok⟩ := List.forall_mem_cons.mp hR.ok
  have on : r32 n := on
  refine va_newq (N' := n.toNat) hx hb hown hl hC.2.2.2.2.2.2.2.2.2.2.2 hK hR.1 hR.2.1 hR.2.2.1 (fun q hq => Nat.le_trans hh hq) (by rw [z32, lt32 on r32_0]; omega) (cl_of on) (by omega) (by have := hR.room; omega) (by have := hR.room; omega) hdg (fun q cB H1 k1 g1 g2 g3 => ?_)
  have e := tys_injO hK k1
  subst e
  have hrep : ∀ j z, mFld (List.replicate n.toNat 3) j = some z → z = 3 := fun j z hz => by
    rw [mFld_eq, List.getElem?_replicate] at hz
    split at hz
    · exact (Option.some.inj hz).symm
    · cases hz
  have h1 := h _ _ _ _ _ _ (hR.push (st' := r) (sh := .inr (4, n.toNat, List.replicate n.toNat 3)) (f' := sg.2.1) (g' := sg.2.2) ok (by
      simp only [cE]
      congr 7
      funext j
      cases hj : mFld (List.replicate n.toNat 3) j with
      | none => rfl
      | some z => rw [hrep j z hj]; rfl) (fun i hi => ⟨rfl, rfl⟩) ⟨by omega, by omega, fun _ j z hz => ⟨by rw [hrep j z hz]; omega, fun r hr => by rw [hrep j z hz] at hr; omega⟩, fun ht => absurd rfl ht.2, fun ht => absurd ht (by decide), fun _ => List.length_replicate⟩ g1 g2 g3 hn.2.2.1 hn.2.2.2)
  rw [Rl.pushV ok] at h1
  exact h1
theorem sm_new (hx : p.tables.exec = Jvm.exec) (hb : c.code = cc) (hts : ∀ w ∈ gt, w.before args s = true) (hK : va_K D mCls (mTys cA) s) (hh : h0 ≤ s.heap.size) {own : String} (hown : s.vm.findClass own = some m.cls) {ci idx : Nat} (hci : ci ≤ 12) (hl : (Cond.classLink own idx (mClsOf ci).1).before args s = true) (hdg : decode cc pc = .ok (.new idx, 3)) (hn : 1 ≤ b.1 ∧ (mNew ci).length ≤ b.2) (h : Sim p l e R s m args below meth c Qf D cA kd h0 n0 ad0 nL (pc + 3) L (vR sg.1.length :: st) (sg.1 ++ [.inl (ci, mNew ci)], (fun x y => if x = sg.1.length then 0 else sg.2.1 x y), sg.2.2) (b.1 - 1, b.2 - (mNew ci).length)) : Sim p l e R s m args below meth c Qf D cA kd h0 n0 ad0 nL pc L st sg b := by
  intro ad H locs cells slots ls hR
  have hci' : ci < 13 := by omega
  have hlen := new_len ci hci'
  refine va_new (ci := ci) (fs := (mNew ci).map dflt) hx hb hts (cls_in ci hci') (mTy ci) (cls_ty ci hci') hown hl (hts _ (g_inst ci hci').1) (hts _ (g_inst ci hci').2) hK hR.1 hR.2.1 hR.2.2.1 (fun q hq => Nat.le_trans hh hq) (cls_at ci hci') (new_ok ci hci') (by have := hR.room; omega) (by have := hR.room; omega) hdg (fun q H1 g1 g2 g3 => ?_)
  have h1 := h _ _ _ _ _ _ (hR.push (st' := st) (sh := .inl (ci, mNew ci)) (f' := fun x y => if x = sg.1.length then 0 else sg.2.1 x y) (g' := sg.2.2) hR.ok (by
      have e := new_map (ad := fun i => if i = sg.1.length then q else ad i) (f := fun k => if sg.1.length = sg.1.length then 0 else sg.2.1 sg.1.length k) (fun _ => if_pos rfl) hci'
      show Sum.inr (ci, _) = Sum.inr (ci, _)
      rw [← e]) (fun i hi => ⟨by funext y; rw [if_neg (Nat.ne_of_lt hi)], rfl⟩) ⟨hci, hlen, fun k z hz => ⟨by
        simp only [if_pos]
        have hz3 := new_le3 ci hci' z (by rw [mFld_eq] at hz; exact List.mem_of_getElem? hz)
        rcases z with _ | _ | _ | _ | z
        · exact r32_0
        · exact r64_0
        · exact r32_0
        · trivial
        · omega, new_kty ci hci' k z hz⟩⟩ g1 g2 g3 hn.1 hn.2)
  rw [Rl.pushV hR.ok] at h1
  rw [hlen] at h1
  exact h1

end SIMB
end
section
/-! The small machine in the real one: calls, and all instructions together -/

theorem look1_ok {mi : Nat} : ∀ (l : List (Nat × mOp)) (pc : Nat), l.all (fun o => okOp mi o.1 o.2) = true → mLook1 l pc = (.nop, 0, 0, 0) ∨ okOp mi pc (mLook1 l pc) = true
  | [], _, _ => Or.inl rfl
  | (q, o) :: t, pc, h => by
    simp only [List.all_cons, Bool.and_eq_true] at h
    unfold mLook1
    cases hc : Nat.beq q pc with
    | true =>
      have e : q = pc := Nat.eq_of_beq_eq_true hc
      subst e
      exact Or.inr h.1
    | false => exact look1_ok t pc h.2
theorem look_ok {mi : Nat} : ∀ (l : List (Nat × List (Nat × mOp))) (pc : Nat), l.all (fun q => q.2.all (fun o => okOp mi o.1 o.2)) = true → mLook l pc = (.nop, 0, 0, 0) ∨ okOp mi pc (mLook l pc) = true
  | [], _, _ => Or.inl rfl
  | (q, c) :: t, pc, h => by
    simp only [List.all_cons, Bool.and_eq_true] at h
    unfold mLook
    cases hc : Nat.ble pc q with
    | true => exact look1_ok c pc h.1
    | false => exact look_ok t pc h.2
def mRk : Nat → Option mV → Prop
  | 0, r => r = none
  | 1, r => ∃ n, r = some (vI n)
  | 2, r => ∃ n, r = some (vL n)
  | _, _ => False
def mRm (d : Nat) (b : mB) : Room := { frames := d, cells := b.1, slots := b.2, locals := 300 * d }
def mWs (mi : Nat) : List Cond := .code (mMet mi).1 (mMet mi).2.1 (mInf mi).1 (mMet mi).2.2 :: gt
def mPc (D : va_G) (cA : Nat → ClassId) (kd : Nat → Value) (kA : mKA) (h0 : Nat) (av : List mV) (sg : mS) (ad : Nat → Nat) : Array Value → State → Prop := fun v U =>
  v = (av.map (cV ad kd)).toArray ∧ h0 ≤ U.heap.size ∧ va_P D mCls (cW ad cA sg) U.heap ∧ va_D (AA h0) (cW ad cA sg) ∧ va_K D mCls (mTys cA) U ∧ KC kA kd h0 U
def mEnd (D : va_G) (cA : Nat → ClassId) (kd : Nat → Value) (h0 : Nat) (sg : mS) (ad : Nat → Nat) (r : Option mV) (sg' : mS) (ad' : Nat → Nat) (t : State) : Prop :=
  (∀ v, r = some v → okV sg'.1.length v) ∧ okS sg' ∧ sg.1.length ≤ sg'.1.length ∧ (∀ i, i < sg.1.length → ad' i = ad i) ∧ va_P D mCls (cW ad' cA sg') t.heap ∧ va_D (AA h0) (cW ad' cA sg')
def mQc (D : va_G) (cA : Nat → ClassId) (kd : Nat → Value) (h0 mi : Nat) (sg : mS) (ad : Nat → Nat) (Q : Option mV → mS → Prop) : Array Value → State → Outcome → State → Prop := fun _ st oc t =>
  (∃ (r : Option mV) (sg' : mS) (ad' : Nat → Nat), oc = .returned (r.map (cV ad' kd)) ∧ mRk (mInf mi).2.1 r ∧ Q r sg' ∧ mEnd D cA kd h0 sg ad r sg' ad' t) ∧ va_F (AA h0) st t
theorem mPc_blind {D : va_G} {cA : Nat → ClassId} {kd : Nat → Value} {kA : mKA} {h0 : Nat} {av : List mV} {sg : mS} {ad : Nat → Nat} : FrameBlind (mPc D cA kd kA h0 av sg ad) := by
  intro a U g mk q
  obtain ⟨q1, q2, q3, q4, q5, q6⟩ := q
  exact ⟨q1, q2, q3, q4, va_K.moved (u := U) (U := U.calling g mk a) (Vm.Alike.refl U.vm) q5, KC.go (s := U) (U := U.calling g mk a) (State.WarmedH.refl U) (fun _ _ _ => rfl) q6⟩
/-- every method's contract, with calls up to d deep -/
def mAll (l : Launch) (D : va_G) (cA : Nat → ClassId) (kd : Nat → Value) (kA : mKA) (pr : mPr) (h0 d : Nat) : Prop :=
  ∀ (mi : Nat) (av : List mV) (sg : mS) (b : mB) (Q : Option mV → mS → Prop), okCallee mi = true → mCats av ≤ (mInf mi).1 → goD kA pr d mi 0 (mEnt av (mInf mi).1) [] sg b Q → okS sg → (∀ v ∈ av, okV sg.1.length v) → ∀ ad, Met l (mMet mi).1 (mWs mi) (mRm d b) (mPc D cA kd kA h0 av sg ad) (mQc D cA kd h0 mi sg ad Q) b.1 b.2 (AA h0)
theorem take_spec : ∀ {n : Nat} {st acc as rest : List mV}, mTake n st acc = some (as, rest) → ∃ l, l.length = n ∧ st = l ++ rest ∧ as = l.reverse ++ acc
  | 0, st, acc, as, rest, h => by
    simp [mTake] at h
    exact ⟨[], rfl, by simp [h.2], by simp [h.1]⟩
  | n + 1, [], acc, as, rest, h => by simp [mTake] at h
  | n + 1, v :: st, acc, as, rest, h => by
    obtain ⟨l, h1, h2, h3⟩ := take_spec (n := n) (st := st) (acc := v :: acc) (by simpa [mTake] using h)
    exact ⟨v :: l, by simp [h1], by simp [h2], by simp [h3]⟩
theorem callee_spec {mi : Nat} (h : okCallee mi = true) : Cond.code (mMet mi).1 (mMet mi).2.1 (mInf mi).1 (mMet mi).2.2 ∈ gt ∧ (bif mIsS mi then Cond.static (mMet mi).1 else .instanceMethod (mMet mi).1) ∈ gt ∧ Cond.initialized (mMet mi).1.cls ∈ gt ∧ (mMet mi).1.cls ≠ "java/lang/invoke/MethodHandle" ∧ (mMet mi).1.cls ≠ "java/lang/invoke/VarHandle" ∧ plainName (mMet mi).1.cls = true ∧ (mInf mi).1 ≤ 40 ∧ (match (mMet mi).2.2 with | none => Nat.beq (mInf mi).2.1 0 | some .int => Nat.beq (mInf mi).2.1 1 | some .boolean => Nat.beq (mInf mi).2.1 1 | some .char => Nat.beq (mInf mi).2.1 1 | some .byte => Nat.beq (mInf mi).2.1 1 | _ => false) = true ∧ (Nat.beq (mInf mi).2.2 30 || (Nat.beq (mInf mi).2.2 20 && decide ((mMet mi).1.cls = "java/lang/String")) || (Nat.ble (mInf mi).2.2 12 && decide ((mMet mi).1.cls = (mClsOf (mInf mi).2.2).1))) = true := by
  unfold okCallee at h
  rw [Bool.and_eq_true, Bool.and_eq_true, Bool.and_eq_true, Bool.and_eq_true, Bool.and_eq_true, Bool.and_eq_true, Bool.and_eq_true, Bool.and_eq_true] at h
  obtain ⟨⟨⟨⟨⟨⟨⟨⟨h1, h2⟩, h3⟩, h4⟩, h5⟩, h6⟩, h7⟩, h8⟩, h9⟩ := h
  exact ⟨tb_mem h1, tb_mem h2, tb_mem h3, of_decide_eq_true h4, of_decide_eq_true h5, h6, Nat.le_of_ble_eq_true h7, h8, h9⟩

section SIMB
variable {p : Program} {l : Launch} {e : Env} {R : Room} {s : State} {m : MethodId} {args : Array Value} {below : List Frame} {meth : Method} {c : Code} {Qf : State → Prop}
variable {D : va_G} {cA : Nat → ClassId} {kd : Nat → Value} {h0 n0 nL : Nat} {ad0 : Nat → Nat} {pc : Nat} {L : mL} {r st : List mV} {sg : mS} {b : mB}


variable {kA : mKA} {pr : mPr} {d mi : Nat}
def Fr (p : Program) (R : Room) (s : State) (m : MethodId) (args : Array Value) (meth : Method) (c : Code) (D : va_G) (cA : Nat → ClassId) (kd : Nat → Value) (kA : mKA) (h0 d mi : Nat) : Prop :=
  p.tables.exec = Jvm.exec ∧ c.code = (mMet mi).2.1 ∧ c.maxLocals = (mInf mi).1 ∧ s.vm.findClass (mMet mi).1.cls = some m.cls ∧ (∀ w ∈ gt, w.before args s = true) ∧ va_K D mCls (mTys cA) s ∧ KC kA kd h0 s ∧ h0 ≤ s.heap.size ∧ ((mMet mi).1.name = "<init>" → meth.name = "<init>") ∧ (d + 1 ≤ R.frames ∧ 300 * (d + 1) ≤ R.locals)
/-- behind a call -/
theorem va_callG {ad : Nat → Nat} {H : Heap} {locs : List Loc} {cells slots mk : Nat} {ls : Array Slot} {rest : List Value} {st0 : List Value} {bb : mB} {Q : Option mV → mS → Prop} {a : Array Value}
    (hr : va_Run p l e R s m args below meth c H locs cells slots bb.1 bb.2 (F0 m pc ls st0) rest (mQc D cA kd h0 mk sg ad Q a) (AA h0)) (hS : va_S (AA h0) s.heap H locs)
    (kk : ∀ (r : Option mV) (sg' : mS) (ad' : Nat → Nat) (t : State) (locs1 : List Loc), mRk (mInf mk).2.1 r → Q r sg' → mEnd D cA kd h0 sg ad r sg' ad' t → va_S (AA h0) s.heap t.heap locs1 → W p l e R s m args below meth c t.heap locs1 (cells + bb.1) (slots + bb.2) Qf (F0 m (pc + 3) ls ((r.map (cV ad' kd)).toList ++ rest))) : W p l e R s m args below meth c H locs cells slots Qf (F0 m pc ls st0) := by
  intro T hT X
  obtain ⟨v, st₀, t, T', L, h0', X', hL, e1, e2, ⟨⟨r, sg', ad', hv, hk, hq, he⟩, hz, hkp⟩, stp⟩ := hr T hT X
  cases hv
  rw [h0'] at hz hkp
  have hS' : va_S (AA h0) s.heap t.heap (locs ++ L) := ⟨Nat.le_trans hS.1 hz, fun q h1 h2 => by
      rw [hkp q (Nat.lt_of_lt_of_le h1 hS.1) h2]; exact hS.2.1 q h1 h2, fun q hq => by
      rcases List.mem_append.mp hq with h | h
      · exact hS.2.2 q h
      · exact hL q h⟩
  obtain ⟨t2, a1, b1⟩ := kk r sg' ad' t (locs ++ L) hk hq he hS' T' e1 X'
  exact ⟨t2, stp t2 a1, b1⟩
theorem Rl.back {ad ad' : Nat → Nat} {H : Heap} {locs locs1 : List Loc} {cells slots : Nat} {ls : Array Slot} {rest v : List mV} {r0 : Option mV} {sg' : mS} {t : State} {mc ms : Nat} (h : Rl R s D cA kd h0 n0 ad0 nL L st sg b ad H locs cells slots ls) (hok : ∀ v ∈ rest, okV sg.1.length v) (he : mEnd D cA kd h0 sg ad r0 sg' ad' t) (hv : ∀ z ∈ v, r0 = some z) (hS : va_S (AA h0) s.heap t.heap locs1) (hm : mc ≤ b.1 ∧ ms ≤ b.2) : Rl R s D cA kd h0 n0 ad0 nL L (v ++ rest) sg' (b.1 - mc, b.2 - ms) ad' t.heap locs1 (cells + mc) (slots + ms) ls := by
  obtain ⟨e1, e2, e3, e4, e5, e6⟩ := he
  have hup : ∀ v, okV sg.1.length v → okV sg'.1.length v := fun v hv => by
    rcases v with z | z | z | z
    · exact hv
    · exact hv
    · exact Nat.lt_of_lt_of_le hv e3
    · trivial
  refine ⟨e5, e6, hS, ⟨h.lv.1, h.lv.2.1, fun i w hw => ?_⟩, e2, fun i w hw => hup w (h.okl i w hw), ?_, ?_, Nat.le_trans h.2.2.2.2.2.2.2.2.1 e3, fun i hi => ?_⟩
  · rw [cV_ext e4 (h.okl i w hw)]; exact h.lv.2.2 i w hw
  · intro w hw
    rcases List.mem_append.mp hw with h1 | h1
    · exact e1 w (hv w h1)
    · exact hup w (hok w h1)
  · have := h.room
    show cells + mc + (b.1 - mc) ≤ R.cells ∧ slots + ms + (b.2 - ms) ≤ R.slots
    omega
  · rw [e4 i (Nat.lt_of_lt_of_le hi h.2.2.2.2.2.2.2.2.1)]
    exact h.2.2.2.2.2.2.2.2.2 i hi
theorem ans_use {k : Nat} {r0 : Option mV} {K : List mV → Prop} (hk : mRk k r0) (h : mAns k r0 K) : ∃ v, K v ∧ (∀ z ∈ v, r0 = some z) ∧ ∀ f : mV → Value, v.map f = (r0.map f).toList := by
  match k, hk, h with
  | 0, hk, h =>
    simp only [mRk] at hk
    subst hk
    exact ⟨[], h, by simp, fun _ => rfl⟩
  | 1, hk, h =>
    obtain ⟨n, rfl⟩ := hk
    exact ⟨[vI n], h, by simp, fun _ => rfl⟩
  | 2, hk, h =>
    obtain ⟨n, rfl⟩ := hk
    exact ⟨[vL n], h, by simp, fun _ => rfl⟩
  | k + 3, hk, h => exact hk.elim
/-- a call that runs goes on -/
theorem sm_after {ad : Nat → Nat} {H : Heap} {locs : List Loc} {cells slots mk mc ms : Nat} {ls : Array Slot} {rest : List mV} {st0 : List Value} {a : Array Value} (hR : Rl R s D cA kd h0 n0 ad0 nL L st sg b ad H locs cells slots ls) (hok : ∀ v ∈ rest, okV sg.1.length v) (hm : mc ≤ b.1 ∧ ms ≤ b.2)
    (hr : va_Run p l e R s m args below meth c H locs cells slots mc ms (F0 m pc ls st0) (rest.map (cV ad kd)) (mQc D cA kd h0 mk sg ad (fun r s' => mAns (mInf mk).2.1 r (fun v => Sim p l e R s m args below meth c Qf D cA kd h0 n0 ad0 nL (pc + 3) L (v ++ rest) s' (b.1 - mc, b.2 - ms))) a) (AA h0)) : W p l e R s m args below meth c H locs cells slots Qf (F0 m pc ls st0) := by
  refine va_callG (bb := (mc, ms)) hr hR.S (fun r sg' ad' t locs1 hk hq he hS => ?_)
  obtain ⟨v, hv, h1, h2⟩ := ans_use hk hq
  have h3 := hv ad' t.heap locs1 (cells + mc) (slots + ms) ls (hR.back hok he h1 hS hm)
  rw [List.map_append, h2, cVs_ext he.2.2.2.1 hok] at h3
  exact h3
theorem okParS {k n : Nat} (h : okPar k n = true) : ∀ sig, parseMethodDescriptor (mMet k).1.desc = some sig → n = sig.parameters.length := by
  intro sig hs
  have h1 := of_decide_eq_true h
  rw [hs] at h1
  exact (Option.some.inj h1).symm
/-- a callee's words in a caller -/
theorem mCallB {k n idx mc ms : Nat} (F : Fr p R s m args meth c D cA kd kA h0 d mi) (hc : okCallee k = true) (hp : okPar k n = true) (hl : (Cond.methodLink (mMet mi).1.cls idx (mMet k).1).before args s = true) : CallB R s args (mMet mi).1.cls idx (mMet k).1 (mMet k).2.1 (mInf k).1 (mMet k).2.2 (mWs k) (mRm d (mc, ms)) mc ms n := by
  obtain ⟨hx, hb, hml, hown, hts, hK, hC, hh, hin, hRm⟩ := F
  obtain ⟨c1, c2, c3, c4, c5, c6, c7, -⟩ := callee_spec hc
  refine ⟨rfl, rfl, hRm.1, ?_, ?_, List.mem_cons_self, hts _ c1, hts _ c3, ⟨c4, c5⟩, okParS hp, hl⟩
  · show 8 + ((mInf k).1 + 11) + 300 * d ≤ R.locals
    omega
  · exact pay_in hts (fun w hw => by
      rcases List.mem_cons.mp hw with rfl | hw
      · exact gt_good _ c1
      · exact gt_good _ hw)
theorem mCallN {k n idx mc ms : Nat} {host : String} (F : Fr p R s m args meth c D cA kd kA h0 d mi) (hc : okCallee k = true) (hp : okPar k n = true) (hl : (Cond.methodLinkNest (mMet mi).1.cls idx (mMet k).1 host).before args s = true) : va_CN R s args (mMet mi).1.cls idx (mMet k).1 host (mMet k).2.1 (mInf k).1 (mMet k).2.2 (mWs k) (mRm d (mc, ms)) mc ms n := by
  obtain ⟨hx, hb, hml, hown, hts, hK, hC, hh, hin, hRm⟩ := F
  obtain ⟨c1, c2, c3, c4, c5, c6, c7, -⟩ := callee_spec hc
  refine ⟨⟨rfl, rfl, hRm.1, ?_, ?_, List.mem_cons_self⟩, hts _ c1, hts _ c3, ⟨c4, c5⟩, okParS hp, hl⟩
  · show 8 + ((mInf k).1 + 11) + 300 * d ≤ R.locals
    omega
  · exact pay_in hts (fun w hw => by
      rcases List.mem_cons.mp hw with rfl | hw
      · exact gt_good _ c1
      · exact gt_good _ hw)
theorem mPre {ad : Nat → Nat} {H : Heap} {locs : List Loc} {cells slots : Nat} {ls : Array Slot} {av : List mV} (F : Fr p R s m args meth c D cA kd kA h0 d mi) (hR : Rl R s D cA kd h0 n0 ad0 nL L st sg b ad H locs cells slots ls) : ∀ U : State, U.heap = H → s.WarmedH U.vm → mPc D cA kd kA h0 av sg ad (av.map (cV ad kd)).toArray U := by
  obtain ⟨hx, hb, hml, hown, hts, hK, hC, hh, hin, hRm⟩ := F
  intro U hU hW
  refine ⟨rfl, by rw [hU]; exact Nat.le_trans hh hR.S.1, by rw [hU]; exact hR.1, hR.2.1, va_K.moved hW.alike hK, KC.go hW (fun q h1 h2 => by rw [hU]; exact hR.S.2.1 q h1 h2) hC⟩
theorem sm_static {k n idx : Nat} {av rest : List mV} (F : Fr p R s m args meth c D cA kd kA h0 d mi) (hnL : nL = (mInf mi).1) (IH : mAll l D cA kd kA pr h0 d) (hc : okCallee k = true) (hs : mIsS k = true) (hp : okPar k n = true) (hl : (Cond.methodLink (mMet mi).1.cls idx (mMet k).1).before args s = true ∨ ∃ host, (Cond.methodLinkNest (mMet mi).1.cls idx (mMet k).1 host).before args s = true) (hcat : mCats rest ≤ 8) (hav : mCats av ≤ (mInf k).1) (hn : av.length = n) (hst : st = av.reverse ++ rest) (hdg : decode (mMet mi).2.1 pc = .ok (.invokestatic idx, 3)) (h : ∃ mc ms : Nat, mc ≤ b.1 ∧ ms ≤ b.2 ∧ goD kA pr d k 0 (mEnt av (mInf k).1) [] sg (mc, ms) (fun r s' => mAns (mInf k).2.1 r (fun v => Sim p l e R s m args below meth c Qf D cA kd h0 n0 ad0 nL (pc + 3) L (v ++ rest) s' (b.1 - mc, b.2 - ms)))) : Sim p l e R s m args below meth c Qf D cA kd h0 n0 ad0 nL pc L st sg b := by
  intro ad H locs cells slots ls hR
  obtain ⟨mc, ms, m1, m2, hg⟩ := h
  have ok := hR.ok
  rw [hst] at ok
  have oka : ∀ v ∈ av, okV sg.1.length v := fun v hv => ok v (List.mem_append_left _ (List.mem_reverse.mpr hv))
  have okr : ∀ v ∈ rest, okV sg.1.length v := fun v hv => ok v (List.mem_append_right _ hv)
  have hM := IH k av sg (mc, ms) _ hc hav hg hR.okS oka ad
  have F' := F
  obtain ⟨hx, hb, hml, hown, hts, hK, hC, hh, hin, hRm⟩ := F
  have hstat : (Cond.static (mMet k).1).before args s = true := hts _ (by have := (callee_spec hc).2.1; rw [hs] at this; exact this)
  have hW : 2 * (F0 m pc ls (st.map (cV ad kd))).monitorRoom + ((rest.map (cV ad kd)).map fun v => v.category).sum ≤ 8 := by
    show 2 * 0 + _ ≤ 8
    rw [cats_eq hC.cat]; omega
  have hroom := hR.room
  have hS0 : CallFix p m c (mMet mi).2.1 (mInf mi).1 s args gt (mMet mi).1.cls := ⟨hx, hb, hml, hown, hts⟩
  have hstk : (F0 m pc ls (st.map (cV ad kd))).stack = (av.map (cV ad kd)).reverse ++ rest.map (cV ad kd) := by
    show st.map (cV ad kd) = _
    rw [hst, List.map_append, List.map_reverse]
  refine sm_after (mk := k) hR okr ⟨m1, m2⟩ (a := (av.map (cV ad kd)).toArray) ?_
  rcases hl with hl | ⟨host, hl⟩
  · exact va_runS hS0 hM ⟨mCallB F' hc hp hl, hstat⟩ ⟨mPc_blind, mPre F' hR⟩ rfl (by rw [List.length_map]; exact hn) (by rw [← hnL]; exact hR.lv.1) hstk hW hdg ⟨by omega, by omega⟩
  · exact va_runSN hS0 hM ⟨mCallN F' hc hp hl, hstat, trivial⟩ ⟨mPc_blind, mPre F' hR⟩ rfl (by rw [List.length_map]; exact hn) (by rw [← hnL]; exact hR.lv.1) hstk hW hdg ⟨by omega, by omega⟩
theorem sm_init {k n idx a : Nat} {av rest : List mV} (F : Fr p R s m args meth c D cA kd kA h0 d mi) (hnL : nL = (mInf mi).1) (IH : mAll l D cA kd kA pr h0 d) (hc : okCallee k = true) (hs : mIsS k = false) (hi : (mMet k).1.name = "<init>") (hr0 : (mMet k).2.2 = none) (hp : okPar k n = true) (hl : (Cond.methodLink (mMet mi).1.cls idx (mMet k).1).before args s = true ∨ ∃ host, (Cond.methodLinkNest (mMet mi).1.cls idx (mMet k).1 host).before args s = true) (hcat : mCats rest ≤ 8) (hav : mCats (vR a :: av) ≤ (mInf k).1) (hn : av.length = n) (hst : st = av.reverse ++ vR a :: rest) (hdg : decode (mMet mi).2.1 pc = .ok (.invokespecial idx, 3)) (h : ∃ mc ms : Nat, mc ≤ b.1 ∧ ms ≤ b.2 ∧ goD kA pr d k 0 (mEnt (vR a :: av) (mInf k).1) [] sg (mc, ms) (fun r s' => mAns (mInf k).2.1 r (fun v => Sim p l e R s m args below meth c Qf D cA kd h0 n0 ad0 nL (pc + 3) L (v ++ rest) s' (b.1 - mc, b.2 - ms)))) : Sim p l e R s m args below meth c Qf D cA kd h0 n0 ad0 nL pc L st sg b := by
  intro ad H locs cells slots ls hR
  obtain ⟨mc, ms, m1, m2, hg⟩ := h
  have ok := hR.ok
  rw [hst] at ok
  have oka : ∀ v ∈ vR a :: av, okV sg.1.length v := fun v hv => by
    rcases List.mem_cons.mp hv with rfl | hv
    · exact ok _ (List.mem_append_right _ List.mem_cons_self)
    · exact ok v (List.mem_append_left _ (List.mem_reverse.mpr hv))
  have okr : ∀ v ∈ rest, okV sg.1.length v := fun v hv => ok v (List.mem_append_right _ (List.mem_cons_of_mem _ hv))
  have hM := IH k (vR a :: av) sg (mc, ms) _ hc hav hg hR.okS oka ad
  have F' := F
  obtain ⟨hx, hb, hml, hown, hts, hK, hC, hh, hin, hRm⟩ := F
  have hinst : (Cond.instanceMethod (mMet k).1).before args s = true := hts _ (by have := (callee_spec hc).2.1; rw [hs] at this; exact this)
  have hW : 2 * (F0 m pc ls (st.map (cV ad kd))).monitorRoom + ((rest.map (cV ad kd)).map fun v => v.category).sum ≤ 8 := by
    show 2 * 0 + _ ≤ 8
    rw [cats_eq hC.cat]; omega
  have hroom := hR.room
  have hS0 : CallFix p m c (mMet mi).2.1 (mInf mi).1 s args gt (mMet mi).1.cls := ⟨hx, hb, hml, hown, hts⟩
  have hstk : (F0 m pc ls (st.map (cV ad kd))).stack = (av.map (cV ad kd)).reverse ++ .ref (ad a) :: rest.map (cV ad kd) := by
    show st.map (cV ad kd) = _
    rw [hst, List.map_append, List.map_reverse]
    rfl
  refine sm_after (mk := k) hR okr ⟨m1, m2⟩ (a := ((vR a :: av).map (cV ad kd)).toArray) ?_
  rcases hl with hl | ⟨host, hl⟩
  · have hB := mCallB (mc := mc) (ms := ms) F' hc hp hl
    rw [hr0] at hB
    exact va_runI hS0 hM ⟨hB, hi, hinst⟩ ⟨mPc_blind, mPre F' hR⟩ rfl (by rw [List.length_map]; exact hn) (by rw [← hnL]; exact hR.lv.1) hstk hW hdg ⟨by omega, by omega⟩
  · have hB := mCallN (mc := mc) (ms := ms) F' hc hp hl
    rw [hr0] at hB
    exact va_runIN hS0 hM ⟨hB, hi, hinst⟩ ⟨mPc_blind, mPre F' hR⟩ rfl (by rw [List.length_map]; exact hn) (by rw [← hnL]; exact hR.lv.1) hstk hW hdg ⟨by omega, by omega⟩
theorem sm_virtual {k n idx : Nat} {rv : mV} {av rest : List mV} (F : Fr p R s m args meth c D cA kd kA h0 d mi) (hnL : nL = (mInf mi).1) (IH : mAll l D cA kd kA pr h0 d) (hc : okCallee k = true) (hs : mIsS k = false) (hp : okPar k n = true) (hl : (Cond.methodLink (mMet mi).1.cls idx (mMet k).1).before args s = true) (hsel : (Cond.selects (mMet k).1.cls (mMet k).1 (mMet k).1).before args s = true) (hrv : mRcv sg.1 (mInf k).2.2 rv = true) (hcat : mCats rest ≤ 8) (hav : mCats (rv :: av) ≤ (mInf k).1) (hn : av.length = n) (hst : st = av.reverse ++ rv :: rest) (hdg : decode (mMet mi).2.1 pc = .ok (.invokevirtual idx, 3)) (h : ∃ mc ms : Nat, mc ≤ b.1 ∧ ms ≤ b.2 ∧ goD kA pr d k 0 (mEnt (rv :: av) (mInf k).1) [] sg (mc, ms) (fun r s' => mAns (mInf k).2.1 r (fun v => Sim p l e R s m args below meth c Qf D cA kd h0 n0 ad0 nL (pc + 3) L (v ++ rest) s' (b.1 - mc, b.2 - ms)))) : Sim p l e R s m args below meth c Qf D cA kd h0 n0 ad0 nL pc L st sg b := by
  intro ad H locs cells slots ls hR
  obtain ⟨mc, ms, m1, m2, hg⟩ := h
  have ok := hR.ok
  rw [hst] at ok
  have oka : ∀ v ∈ rv :: av, okV sg.1.length v := fun v hv => by
    rcases List.mem_cons.mp hv with rfl | hv
    · exact ok _ (List.mem_append_right _ List.mem_cons_self)
    · exact ok v (List.mem_append_left _ (List.mem_reverse.mpr hv))
  have okr : ∀ v ∈ rest, okV sg.1.length v := fun v hv => ok v (List.mem_append_right _ (List.mem_cons_of_mem _ hv))
  have hM := IH k (rv :: av) sg (mc, ms) _ hc hav hg hR.okS oka ad
  have F' := F
  obtain ⟨hx, hb, hml, hown, hts, hK, hC, hh, hin, hRm⟩ := F
  obtain ⟨c1, c2, c3, c4, c5, c6, c7, c8, c9⟩ := callee_spec hc
  have hinst : (Cond.instanceMethod (mMet k).1).before args s = true := hts _ (by rw [hs] at c2; exact c2)
  -- the receiver
  have hrec : ∃ a, cV ad kd rv = .ref a ∧ ∃ cell : Cell, H[a]? = some cell ∧ cell.vm.isStatics = false ∧ s.vm.findClass (mMet k).1.cls = some cell.cls := by
    rcases rv with z | z | a | q
    · simp [mRcv] at hrv
    · simp [mRcv] at hrv
    · simp only [mRcv] at hrv
      cases hsh : mNth sg.1 a with
      | none => rw [hsh] at hrv; simp at hrv
      | some sh =>
        rw [hsh] at hrv
        rcases sh with ⟨ci, fs⟩ | z
        · have e : ci = (mInf k).2.2 := Nat.eq_of_beq_eq_true hrv
          have hci : ci ≤ 12 := (hR.okS a _ hsh).1
          subst e
          have hcls : (mMet k).1.cls = (mClsOf (mInf k).2.2).1 := by
            simp only [Bool.or_eq_true, Bool.and_eq_true, decide_eq_true_eq] at c9
            rcases c9 with (h1 | h1) | h1
            · have := Nat.eq_of_beq_eq_true h1; omega
            · have := Nat.eq_of_beq_eq_true h1.1; omega
            · exact h1.2
          rw [hcls]
          exact ⟨ad a, rfl, va_recv hK hR.1 (cls_at _ (by omega)) (cW_at hsh)⟩
        · simp at hrv
    · simp only [mRcv, Bool.and_eq_true, Bool.or_eq_true] at hrv
      have e20 : (mInf k).2.2 = 20 := Nat.eq_of_beq_eq_true hrv.1
      have hcls : (mMet k).1.cls = "java/lang/String" := by
        simp only [Bool.or_eq_true, Bool.and_eq_true, decide_eq_true_eq] at c9
        rcases c9 with (h1 | h1) | h1
        · have := Nat.eq_of_beq_eq_true h1; omega
        · exact h1.2
        · have := Nat.le_of_ble_eq_true h1.1; omega
      obtain ⟨a4, a5, e4, e5, q1, q2, q3, q4, -⟩ := hC.2.2.2.2.2.2.2.2.2.1
      have use : ∀ a, va_O "java/lang/String" a (AA h0) s s.heap → ∃ cell : Cell, H[a]? = some cell ∧ cell.vm.isStatics = false ∧ s.vm.findClass (mMet k).1.cls = some cell.cls := by
        intro a hO
        obtain ⟨cell, w1, w2, w3, w4⟩ := hO.kept hR.S.2.1
        exact ⟨cell, w1, w2, by rw [hcls]; exact w3⟩
      rcases hrv.2 with h1 | h1
      · have : q = 4 := Nat.eq_of_beq_eq_true h1
        subst this
        exact ⟨a4, e4, use a4 q3⟩
      · have : q = 5 := Nat.eq_of_beq_eq_true h1
        subst this
        exact ⟨a5, e5, use a5 q4⟩
  obtain ⟨a, ea, hcell⟩ := hrec
  have hW : 2 * (F0 m pc ls (st.map (cV ad kd))).monitorRoom + ((rest.map (cV ad kd)).map fun v => v.category).sum ≤ 8 := by
    show 2 * 0 + _ ≤ 8
    rw [cats_eq hC.cat]; omega
  have hroom := hR.room
  have hS0 : CallFix p m c (mMet mi).2.1 (mInf mi).1 s args gt (mMet mi).1.cls := ⟨hx, hb, hml, hown, hts⟩
  have hstk : (F0 m pc ls (st.map (cV ad kd))).stack = (av.map (cV ad kd)).reverse ++ .ref a :: rest.map (cV ad kd) := by
    show st.map (cV ad kd) = _
    rw [hst, List.map_append, List.map_reverse, List.map_cons, ea]
  have hpre := mPre (av := rv :: av) F' hR
  rw [List.map_cons, ea] at hpre
  refine sm_after (mk := k) hR okr ⟨m1, m2⟩ (a := (Value.ref a :: av.map (cV ad kd)).toArray) ?_
  exact va_runV hS0 hM ⟨mCallB F' hc hp hl, hinst, hsel⟩ ⟨mPc_blind, hcell, hpre⟩ rfl (by rw [List.length_map]; exact hn) (by rw [← hnL]; exact hR.lv.1) hstk hW hdg ⟨by omega, by omega⟩
end SIMB
end
section
/-! The small machine in the real one: a step -/
section SIMB
variable {p : Program} {l : Launch} {e : Env} {R : Room} {s : State} {m : MethodId} {args : Array Value} {below : List Frame} {meth : Method} {c : Code} {Qf : State → Prop}
variable {D : va_G} {cA : Nat → ClassId} {kd : Nat → Value} {h0 n0 nL : Nat} {ad0 : Nat → Nat} {pc : Nat} {L : mL} {r st : List mV} {sg : mS} {b : mB}


theorem no1005 : okCallee 1005 = false := by decide +kernel
theorem nar_bool {z : Int} (h : z = 0 ∨ z = 1) : narrow .boolean (.int (Int32.ofInt z)) = .int (Int32.ofInt z) := by
  rcases h with rfl | rfl <;> decide
theorem nar_byte {z : Int} (h : -128 ≤ z ∧ z < 128) : narrow .byte (.int (Int32.ofInt z)) = .int (Int32.ofInt z) := by
  have e : (Int32.ofInt z).toInt8.toInt32 = Int32.ofInt z := by
    apply Int32.toInt_inj.mp
    rw [Int8.toInt_toInt32, Int32.toInt_toInt8, i32_of (by unfold r32; omega), Int.bmod_def]
    omega
  show Value.int (vp_nar .byte (Int32.ofInt z)) = _
  rw [vp_nar_byte, e]
theorem nar_char {z : Int} (h : 0 ≤ z ∧ z < 65536) : narrow .char (.int (Int32.ofInt z)) = .int (Int32.ofInt z) := by
  obtain ⟨q, rfl⟩ := Int.eq_ofNat_of_zero_le h.1
  have := (pk_charN (q := q) (by omega)).1
  rw [show Int32.ofInt (q : Int) = nI q from Int32.ofInt_eq_ofNat]
  exact this


variable {kA : mKA} {pr : mPr} {d mi : Nat}
set_option maxHeartbeats 8000000 in
theorem sim_step {Q : Option mV → mS → Prop} (F : Fr p R s m args meth c D cA kd kA h0 d mi) (hnL : nL = (mInf mi).1) (hok : okM mi = true) (IH : mAll l D cA kd kA pr h0 d)
    (hprim : ∀ (pc : Nat) (L : mL) (av rest : List mV) (sg : mS) (b : mB) (idx k : Nat) (n : Int), mLook (mOps mi) pc = (.invokestatic idx, 1005, k, n) → decode (mMet mi).2.1 pc = .ok (.invokestatic idx, 3) → mCats rest ≤ 8 → ∀ {st : List mV}, st = av.reverse ++ rest → mCall kA pr d 1005 av sg b (fun r s' b' => mAns (mInf 1005).2.1 r (fun v => Sim p l e R s m args below meth c Qf D cA kd h0 n0 ad0 nL (pc + 3) L (v ++ rest) s' b')) → Sim p l e R s m args below meth c Qf D cA kd h0 n0 ad0 nL pc L st sg b)
    (hretI : ∀ (pc : Nat) (L : mL) (z : Int) (sg : mS) (b : mB) (ty : FieldType), decode (mMet mi).2.1 pc = .ok (.ireturn, 1) → (mMet mi).2.2 = some ty → narrow ty (.int (Int32.ofInt z)) = .int (Int32.ofInt z) → Q (some (vI z)) sg → Sim p l e R s m args below meth c Qf D cA kd h0 n0 ad0 nL pc L [vI z] sg b)
    (hretV : ∀ (pc : Nat) (L : mL) (sg : mS) (b : mB), decode (mMet mi).2.1 pc = .ok (.return_, 1) → (mMet mi).2.2 = none → Q none sg → Sim p l e R s m args below meth c Qf D cA kd h0 n0 ad0 nL pc L [] sg b) :
    ∀ (pc : Nat) (L : mL) (st : List mV) (sg : mS) (b : mB), stp kA (mCall kA pr d) (Sim p l e R s m args below meth c Qf D cA kd h0 n0 ad0 nL) Q (mLook (mOps mi) pc) pc L st sg b → Sim p l e R s m args below meth c Qf D cA kd h0 n0 ad0 nL pc L st sg b := by
  intro pc L st sg b h
  have F' := F
  obtain ⟨hx, hb, hml, hown, hts, hK, hC, hh, hin, hRm⟩ := F'
  have hRm1 : 1 ≤ R.frames ∧ 200 ≤ R.locals := ⟨by omega, by omega⟩
  have hlook := look_ok (mi := mi) (mOps mi) pc hok
  generalize hlk : mLook (mOps mi) pc = op at h hlook
  obtain ⟨i, a, k, n⟩ := op
  rcases hlook with hn | hop
  · cases hn
    exact h.elim
  unfold okOp at hop
  rw [Bool.and_eq_true] at hop
  obtain ⟨hD, hX⟩ := hop
  cases i with
  | iconst i =>
    have hdg : decode (mMet mi).2.1 pc = .ok (.iconst i, 1) := of_decide_eq_true hD
    exact sm_iconst hx hb hdg (b32_r hX) h
  | bipush i =>
    have hdg : decode (mMet mi).2.1 pc = .ok (.bipush i, 2) := of_decide_eq_true hD
    have hX : (b32 i && decide ((Int8.ofInt i).toInt32 = Int32.ofInt i)) = true := hX
    rw [Bool.and_eq_true] at hX
    exact sm_bipush hx hb hdg (b32_r hX.1) (of_decide_eq_true hX.2) h
  | sipush i =>
    have hdg : decode (mMet mi).2.1 pc = .ok (.sipush i, 3) := of_decide_eq_true hD
    have hX : (b32 i && decide ((Int16.ofInt i).toInt32 = Int32.ofInt i)) = true := hX
    rw [Bool.and_eq_true] at hX
    exact sm_sipush hx hb hdg (b32_r hX.1) (of_decide_eq_true hX.2) h
  | lconst i =>
    have hdg : decode (mMet mi).2.1 pc = .ok (.lconst i, 1) := of_decide_eq_true hD
    exact sm_lconst hx hb hdg h
  | ldc idx =>
    have hdg : decode (mMet mi).2.1 pc = .ok (.ldc idx, 2) := of_decide_eq_true hD
    match a, hX, h with
    | 0, hX, h =>
      have hX : (b32 n && tb k (.constant (mMet mi).1.cls idx (Int32.ofInt n))) = true := hX
      rw [Bool.and_eq_true] at hX
      exact sm_ldc hx hb hdg (b32_r hX.1) hown (hts _ (tb_mem hX.2)) h
    | 4, hX, h =>
      have hX : (Nat.beq idx 51 && decide ((mMet mi).1.cls = "OneCable$Tape")) = true := hX
      rw [Bool.and_eq_true] at hX
      have e := Nat.eq_of_beq_eq_true hX.1
      subst e
      exact sm_ldcW hx hb hC (by rw [← of_decide_eq_true hX.2]; exact hown) hdg h
    | 5, hX, h =>
      have hX : (Nat.beq idx 43 && decide ((mMet mi).1.cls = "OneCable$Tape")) = true := hX
      rw [Bool.and_eq_true] at hX
      have e := Nat.eq_of_beq_eq_true hX.1
      subst e
      exact sm_ldcS hx hb hC (by rw [← of_decide_eq_true hX.2]; exact hown) hdg h
    | 1, hX, h => cases hX
    | 2, hX, h => cases hX
    | 3, hX, h => cases hX
    | a + 6, hX, h => cases hX
  | ldc_w idx =>
    have hdg : decode (mMet mi).2.1 pc = .ok (.ldc_w idx, 3) := of_decide_eq_true hD
    have hX : (Nat.beq a 0 && b32 n && tb k (.constant (mMet mi).1.cls idx (Int32.ofInt n))) = true := hX
    rw [Bool.and_eq_true, Bool.and_eq_true] at hX
    have e := Nat.eq_of_beq_eq_true hX.1.1
    subst e
    exact sm_ldc_w hx hb hdg (b32_r hX.1.2) hown (hts _ (tb_mem hX.2)) h
  | ldc2_w idx =>
    have hdg : decode (mMet mi).2.1 pc = .ok (.ldc2_w idx, 3) := of_decide_eq_true hD
    have hX : (b64 n && tb k (.constantLong (mMet mi).1.cls idx (Int64.ofInt n))) = true := hX
    rw [Bool.and_eq_true] at hX
    exact sm_ldc2_w hx hb hdg (b64_r hX.1) hown (hts _ (tb_mem hX.2)) h
  | iload i =>
    have hdg : decode (mMet mi).2.1 pc = .ok (.iload i, 2) := of_decide_eq_true hD
    have h := h
    simp only [stp] at h
    split at h
    · rename_i hg
      exact sm_iload hx hb hdg hg h
    · exact h.elim
  | iload_n i =>
    have hdg : decode (mMet mi).2.1 pc = .ok (.iload_n i, 1) := of_decide_eq_true hD
    have h := h
    simp only [stp] at h
    split at h
    · rename_i hg
      exact sm_iload_n hx hb hdg hg h
    · exact h.elim
  | lload i =>
    have hdg : decode (mMet mi).2.1 pc = .ok (.lload i, 2) := of_decide_eq_true hD
    have h := h
    simp only [stp] at h
    split at h
    · rename_i hg
      exact sm_lload hx hb hdg hg h
    · exact h.elim
  | lload_n i =>
    have hdg : decode (mMet mi).2.1 pc = .ok (.lload_n i, 1) := of_decide_eq_true hD
    have h := h
    simp only [stp] at h
    split at h
    · rename_i hg
      exact sm_lload_n hx hb hdg hg h
    · exact h.elim
  | aload i =>
    have hdg : decode (mMet mi).2.1 pc = .ok (.aload i, 2) := of_decide_eq_true hD
    simp only [stp] at h
    split at h
    · rename_i hg
      exact sm_aload hx hb hC.2.1 hdg hg h
    · exact h.elim
  | aload_n i =>
    have hdg : decode (mMet mi).2.1 pc = .ok (.aload_n i, 1) := of_decide_eq_true hD
    simp only [stp] at h
    split at h
    · rename_i hg
      exact sm_aload_n hx hb hC.2.1 hdg hg h
    · exact h.elim
  | istore i =>
    have hdg : decode (mMet mi).2.1 pc = .ok (.istore i, 2) := of_decide_eq_true hD
    have hX2 : i < nL := by
      have := Nat.le_of_ble_eq_true hX
      omega
    simp only [stp] at h
    split at h
    · exact sm_istore hx hb hC.cat hdg hX2 h
    · exact h.elim
  | istore_n i =>
    have hdg : decode (mMet mi).2.1 pc = .ok (.istore_n i, 1) := of_decide_eq_true hD
    have hX2 : i.val < nL := by
      have := Nat.le_of_ble_eq_true hX
      omega
    simp only [stp] at h
    split at h
    · exact sm_istore_n hx hb hC.cat hdg hX2 h
    · exact h.elim
  | lstore i =>
    have hdg : decode (mMet mi).2.1 pc = .ok (.lstore i, 2) := of_decide_eq_true hD
    have hX2 : i + 1 < nL := by
      have := Nat.le_of_ble_eq_true hX
      omega
    simp only [stp] at h
    split at h
    · exact sm_lstore hx hb hC.cat hdg hX2 h
    · exact h.elim
  | lstore_n i =>
    have hdg : decode (mMet mi).2.1 pc = .ok (.lstore_n i, 1) := of_decide_eq_true hD
    have hX2 : i.val + 1 < nL := by
      have := Nat.le_of_ble_eq_true hX
      omega
    simp only [stp] at h
    split at h
    · exact sm_lstore_n hx hb hC.cat hdg hX2 h
    · exact h.elim
  | astore i =>
    have hdg : decode (mMet mi).2.1 pc = .ok (.astore i, 2) := of_decide_eq_true hD
    have hX2 : i < nL := by
      have := Nat.le_of_ble_eq_true hX
      omega
    simp only [stp] at h
    split at h
    · exact sm_astore hx hb hC.2.1 hC.cat hdg hX2 h
    · exact h.elim
  | astore_n i =>
    have hdg : decode (mMet mi).2.1 pc = .ok (.astore_n i, 1) := of_decide_eq_true hD
    have hX2 : i.val < nL := by
      have := Nat.le_of_ble_eq_true hX
      omega
    simp only [stp] at h
    split at h
    · exact sm_astore_n hx hb hC.2.1 hC.cat hdg hX2 h
    · exact h.elim
  | iinc i q =>
    have hdg : decode (mMet mi).2.1 pc = .ok (.iinc i q, 3) := of_decide_eq_true hD
    have hX2 : i < nL := by
      have := Nat.le_of_ble_eq_true hX
      omega
    simp only [stp] at h
    split at h
    · rename_i hg
      exact sm_iinc hx hb hC.cat hdg hg hX2 h
    · exact h.elim
  | pop =>
    have hdg : decode (mMet mi).2.1 pc = .ok (.pop, 1) := of_decide_eq_true hD
    simp only [stp] at h
    split at h
    · exact h.elim
    · rename_i v r hne
      exact sm_pop hx hb hC.cat (fun z hz => hne z (by rw [hz])) hdg h
    · exact h.elim
  | dup =>
    have hdg : decode (mMet mi).2.1 pc = .ok (.dup, 1) := of_decide_eq_true hD
    simp only [stp] at h
    split at h
    · exact h.elim
    · rename_i v r hne
      exact sm_dup hx hb hC.cat (fun z hz => hne z (by rw [hz])) hdg h
    · exact h.elim
  | dup2 =>
    have hdg : decode (mMet mi).2.1 pc = .ok (.dup2, 1) := of_decide_eq_true hD
    simp only [stp] at h
    split at h
    · split at h
      · exact h.elim
      · rename_i hne
        exact sm_dup2 hx hb hC.cat (fun z hz => hne z hz) hdg h
    · exact h.elim
  | iadd =>
    have hdg : decode (mMet mi).2.1 pc = .ok (.iadd, 1) := of_decide_eq_true hD
    simp only [stp] at h
    split at h
    · exact sm_iadd hx hb hdg h
    · exact h.elim
  | isub =>
    have hdg : decode (mMet mi).2.1 pc = .ok (.isub, 1) := of_decide_eq_true hD
    simp only [stp] at h
    split at h
    · exact sm_isub hx hb hdg h
    · exact h.elim
  | imul =>
    have hdg : decode (mMet mi).2.1 pc = .ok (.imul, 1) := of_decide_eq_true hD
    simp only [stp] at h
    split at h
    · exact sm_imul hx hb hdg h
    · exact h.elim
  | idiv =>
    have hdg : decode (mMet mi).2.1 pc = .ok (.idiv, 1) := of_decide_eq_true hD
    simp only [stp] at h
    split at h
    · exact sm_idiv hx hb hdg h
    · exact h.elim
  | irem =>
    have hdg : decode (mMet mi).2.1 pc = .ok (.irem, 1) := of_decide_eq_true hD
    simp only [stp] at h
    split at h
    · exact sm_irem hx hb hdg h
    · exact h.elim
  | iand =>
    have hdg : decode (mMet mi).2.1 pc = .ok (.iand, 1) := of_decide_eq_true hD
    simp only [stp] at h
    split at h
    · exact sm_iand hx hb hdg h
    · exact h.elim
  | ior =>
    have hdg : decode (mMet mi).2.1 pc = .ok (.ior, 1) := of_decide_eq_true hD
    simp only [stp] at h
    split at h
    · exact sm_ior hx hb hdg h
    · exact h.elim
  | ishl =>
    have hdg : decode (mMet mi).2.1 pc = .ok (.ishl, 1) := of_decide_eq_true hD
    simp only [stp] at h
    split at h
    · exact sm_ishl hx hb hdg h
    · exact h.elim
  | ishr =>
    have hdg : decode (mMet mi).2.1 pc = .ok (.ishr, 1) := of_decide_eq_true hD
    simp only [stp] at h
    split at h
    · exact sm_ishr hx hb hdg h
    · exact h.elim
  | ladd =>
    have hdg : decode (mMet mi).2.1 pc = .ok (.ladd, 1) := of_decide_eq_true hD
    simp only [stp] at h
    split at h
    · exact sm_ladd hx hb hdg h
    · exact h.elim
  | lsub =>
    have hdg : decode (mMet mi).2.1 pc = .ok (.lsub, 1) := of_decide_eq_true hD
    simp only [stp] at h
    split at h
    · exact sm_lsub hx hb hdg h
    · exact h.elim
  | lmul =>
    have hdg : decode (mMet mi).2.1 pc = .ok (.lmul, 1) := of_decide_eq_true hD
    simp only [stp] at h
    split at h
    · exact sm_lmul hx hb hdg h
    · exact h.elim
  | ldiv =>
    have hdg : decode (mMet mi).2.1 pc = .ok (.ldiv, 1) := of_decide_eq_true hD
    simp only [stp] at h
    split at h
    · exact sm_ldiv hx hb hdg h
    · exact h.elim
  | lrem =>
    have hdg : decode (mMet mi).2.1 pc = .ok (.lrem, 1) := of_decide_eq_true hD
    simp only [stp] at h
    split at h
    · exact sm_lrem hx hb hdg h
    · exact h.elim
  | land =>
    have hdg : decode (mMet mi).2.1 pc = .ok (.land, 1) := of_decide_eq_true hD
    simp only [stp] at h
    split at h
    · exact sm_land hx hb hdg h
    · exact h.elim
  | lor =>
    have hdg : decode (mMet mi).2.1 pc = .ok (.lor, 1) := of_decide_eq_true hD
    simp only [stp] at h
    split at h
    · exact sm_lor hx hb hdg h
    · exact h.elim
  | lshl =>
    have hdg : decode (mMet mi).2.1 pc = .ok (.lshl, 1) := of_decide_eq_true hD
    simp only [stp] at h
    split at h
    · exact sm_lshl hx hb hdg h
    · exact h.elim
  | lshr =>
    have hdg : decode (mMet mi).2.1 pc = .ok (.lshr, 1) := of_decide_eq_true hD
    simp only [stp] at h
    split at h
    · exact sm_lshr hx hb hdg h
    · exact h.elim
  | lushr =>
    have hdg : decode (mMet mi).2.1 pc = .ok (.lushr, 1) := of_decide_eq_true hD
    simp only [stp] at h
    split at h
    · exact sm_lushr hx hb hdg h
    · exact h.elim
  | lcmp =>
    have hdg : decode (mMet mi).2.1 pc = .ok (.lcmp, 1) := of_decide_eq_true hD
    simp only [stp] at h
    split at h
    · exact sm_lcmp hx hb hdg h
    · exact h.elim
  | ineg =>
    have hdg : decode (mMet mi).2.1 pc = .ok (.ineg, 1) := of_decide_eq_true hD
    simp only [stp] at h
    split at h
    · exact sm_ineg hx hb hdg h
    · exact h.elim
  | i2l =>
    have hdg : decode (mMet mi).2.1 pc = .ok (.i2l, 1) := of_decide_eq_true hD
    simp only [stp] at h
    split at h
    · exact sm_i2l hx hb hdg h
    · exact h.elim
  | l2i =>
    have hdg : decode (mMet mi).2.1 pc = .ok (.l2i, 1) := of_decide_eq_true hD
    simp only [stp] at h
    split at h
    · exact sm_l2i hx hb hdg h
    · exact h.elim
  | i2b =>
    have hdg : decode (mMet mi).2.1 pc = .ok (.i2b, 1) := of_decide_eq_true hD
    simp only [stp] at h
    split at h
    · exact sm_i2b hx hb hdg h
    · exact h.elim
  | i2c =>
    have hdg : decode (mMet mi).2.1 pc = .ok (.i2c, 1) := of_decide_eq_true hD
    simp only [stp] at h
    split at h
    · exact sm_i2c hx hb hdg h
    · exact h.elim
  | ifCond q o =>
    have hdg : decode (mMet mi).2.1 pc = .ok (.ifCond q o, 3) := of_decide_eq_true hD
    have ht : (pc : Int) + o = (a : Int) := of_decide_eq_true hX
    simp only [stp] at h
    split at h
    · cases q
      · exact sm_if_eq hx hb hdg ht h
      · exact sm_if_ne hx hb hdg ht h
      · exact sm_if_lt hx hb hdg ht h
      · exact sm_if_ge hx hb hdg ht h
      · exact sm_if_gt hx hb hdg ht h
      · exact sm_if_le hx hb hdg ht h
    · exact h.elim
  | if_icmp q o =>
    have hdg : decode (mMet mi).2.1 pc = .ok (.if_icmp q o, 3) := of_decide_eq_true hD
    have ht : (pc : Int) + o = (a : Int) := of_decide_eq_true hX
    simp only [stp] at h
    split at h
    · cases q
      · exact sm_icmp_eq hx hb hdg ht h
      · exact sm_icmp_ne hx hb hdg ht h
      · exact sm_icmp_lt hx hb hdg ht h
      · exact sm_icmp_ge hx hb hdg ht h
      · exact sm_icmp_gt hx hb hdg ht h
      · exact sm_icmp_le hx hb hdg ht h
    · exact h.elim
  | goto o =>
    have hdg : decode (mMet mi).2.1 pc = .ok (.goto o, 3) := of_decide_eq_true hD
    exact sm_goto hx hb hdg (of_decide_eq_true hX) h
  | tableswitch dflt lo hi offs =>
    have hD : (match decode (mMet mi).2.1 pc with | .ok (j, _) => decide (j = Instr.tableswitch dflt lo hi offs) | _ => false) = true := hD
    have hX : (decide (0 ≤ (pc : Int) + dflt) && offs.toList.all (fun o => decide (0 ≤ (pc : Int) + o)) && decide ((offs.size : Int) = hi - lo + 1) && b32 lo && b32 hi) = true := hX
    rw [Bool.and_eq_true, Bool.and_eq_true, Bool.and_eq_true, Bool.and_eq_true] at hX
    obtain ⟨⟨⟨⟨x1, x2⟩, x3⟩, -⟩, -⟩ := hX
    cases hdc : decode (mMet mi).2.1 pc with
    | error z => rw [hdc] at hD; cases hD
    | ok jl =>
      obtain ⟨j, len⟩ := jl
      rw [hdc] at hD
      have e : j = Instr.tableswitch dflt lo hi offs := of_decide_eq_true hD
      subst e
      simp only [stp] at h
      split at h
      · exact sm_switch hx hb hdc (of_decide_eq_true x1) (fun o ho => of_decide_eq_true (List.all_eq_true.mp x2 o ho)) (of_decide_eq_true x3) h
      · exact h.elim
  | getstatic idx =>
    have hdg : decode (mMet mi).2.1 pc = .ok (.getstatic idx, 3) := of_decide_eq_true hD
    match k, hX, h with
    | 0, hX, h =>
      match a, hX, h with
      | 1, hX, h => exact sm_gets (v := vK 1) hx hb (fun _ => rfl) (fun _ => trivial) hC.2.2.2.2.2.1 hown (hts _ (tb_mem hX)) hdg h
      | 2, hX, h => exact sm_gets (v := vK 2) hx hb (fun _ => rfl) (fun _ => trivial) hC.2.2.2.2.2.2.1 hown (hts _ (tb_mem hX)) hdg h
      | 9, hX, h => exact sm_gets (v := vK 9) hx hb (fun _ => rfl) (fun _ => trivial) hC.2.2.2.2.2.2.2.2.1 hown (hts _ (tb_mem hX)) hdg h
      | 0, hX, h => cases hX
      | 3, hX, h => cases hX
      | 4, hX, h => cases hX
      | 5, hX, h => cases hX
      | 6, hX, h => cases hX
      | 7, hX, h => cases hX
      | 8, hX, h => cases hX
      | a + 10, hX, h => cases hX
    | 1, hX, h => exact sm_gets hx hb (z := .int 1) (fun _ => rfl) (fun _ => (by unfold okV r32; omega)) hC.2.2.2.2.2.2.2.1 hown (hts _ (tb_mem hX)) hdg h
    | 2, hX, h =>
      match a, hX, h with
      | 1, hX, h => exact sm_getsN (v := vK 1) hx hb (fun _ => rfl) (fun _ => trivial) hC.2.2.2.2.2.1 hown (va_Nw.use rfl (hC.2.2.2.2.2.2.2.2.2.2.1 _ (tn_mem hX))) hdg h
      | 2, hX, h => exact sm_getsN (v := vK 2) hx hb (fun _ => rfl) (fun _ => trivial) hC.2.2.2.2.2.2.1 hown (va_Nw.use rfl (hC.2.2.2.2.2.2.2.2.2.2.1 _ (tn_mem hX))) hdg h
      | 0, hX, h => cases hX
      | a + 3, hX, h => cases hX
    | k + 3, hX, h => cases hX
  | getfield idx =>
    have hdg : decode (mMet mi).2.1 pc = .ok (.getfield idx, 3) := of_decide_eq_true hD
    have hX0 : okF (mMet mi).1.cls idx (.getfield idx, a, k, n) = true := hX
    have hXc : a ≠ 20 → tb n.toNat (.fieldLink (mMet mi).1.cls idx ((mClsOf a).2.1 k).1 ((mClsOf a).2.1 k).2.1 ((mClsOf a).2.1 k).2.2.1) = true ∧ k < (mClsOf a).2.2 ∧ a ≤ 12 := by
      intro h20
      have hb20 : Nat.beq a 20 = false := by
        cases hb2 : Nat.beq a 20 with
        | false => rfl
        | true => exact absurd (Nat.eq_of_beq_eq_true hb2) h20
      simp only [okF, hb20, cond_false, Bool.and_eq_true] at hX0
      exact ⟨hX0.1.1, Nat.le_of_ble_eq_true hX0.1.2, Nat.le_of_ble_eq_true hX0.2⟩
    simp only [stp] at h
    split at h
    · rename_i q r
      split at h
      · rename_i ci fs hsh
        cases hc : Nat.beq ci a with
        | false => rw [hc] at h; exact h.elim
        | true =>
          rw [hc] at h
          have e := Nat.eq_of_beq_eq_true hc
          subst e
          have hci : ci ≤ 12 ∨ 12 < ci := by omega
          rcases hci with hci | hci
          · obtain ⟨t1, t2, t3⟩ := hXc (by omega)
            simp only [cond_true] at h
            split at h
            · rename_i f hf
              exact sm_getfield hx hb hts hK hC.1 hown t3 t2 (hts _ (tb_mem t1)) hdg hsh hf h
            · exact h.elim
          · intro ad H locs cells slots ls hR
            have := (hR.okS _ _ hsh).1
            omega
      · exact h.elim
    · rename_i q r
      cases hc : (Nat.beq a 20 && (Nat.beq q 4 || Nat.beq q 5)) with
      | false => rw [hc] at h; exact h.elim
      | true =>
        rw [hc] at h
        rw [Bool.and_eq_true, Bool.or_eq_true] at hc
        have e := Nat.eq_of_beq_eq_true hc.1
        subst e
        have hq : q = 4 ∨ q = 5 := hc.2.imp Nat.eq_of_beq_eq_true Nat.eq_of_beq_eq_true
        have hX1 : (bif Nat.beq k 0 then tb n.toNat (.fieldLink (mMet mi).1.cls idx "java/lang/String" "value" "[B") else Nat.beq k 1 && tb n.toNat (.fieldLink (mMet mi).1.cls idx "java/lang/String" "coder" "B")) = true := hX0
        have h : Sim p l e R s m args below meth c Qf D cA kd h0 n0 ad0 nL (pc + 3) L (mKF q k :: r) sg b := h
        match k, hX1, h with
        | 0, hX1, h => exact sm_kget hx hb hC hq (Or.inl ⟨rfl, rfl, rfl⟩) hown (hts _ (tb_mem hX1)) hdg h
        | 1, hX1, h => exact sm_kget hx hb hC hq (Or.inr ⟨rfl, rfl, rfl⟩) hown (hts _ (tb_mem hX1)) hdg h
        | k + 2, hX1, h => cases hX1
    · exact h.elim
  | putfield idx =>
    have hdg : decode (mMet mi).2.1 pc = .ok (.putfield idx, 3) := of_decide_eq_true hD
    have hX9 : (okF (mMet mi).1.cls idx (.putfield idx, a, k, n) && Nat.ble a 12 && (bif ((mClsOf a).2.1 k).2.2.2 then decide ((mMet mi).1.name = "<init>") && decide (((mClsOf a).2.1 k).1 = (mMet mi).1.cls) else true)) = true := hX
    rw [Bool.and_eq_true, Bool.and_eq_true] at hX9
    obtain ⟨⟨hX0, ha12⟩, hfin0⟩ := hX9
    have ha12 := Nat.le_of_ble_eq_true ha12
    have hfin : (((mClsOf a).2.1 k).2.2.2 = true) → meth.name = "<init>" ∧ ((mClsOf a).2.1 k).1 = (mMet mi).1.cls := by
      intro hf
      rw [hf] at hfin0
      simp only [cond_true, Bool.and_eq_true] at hfin0
      exact ⟨hin (of_decide_eq_true hfin0.1), of_decide_eq_true hfin0.2⟩
    have hX0 : okF (mMet mi).1.cls idx (.getfield idx, a, k, n) = true := hX0
    have hXc : a ≠ 20 → tb n.toNat (.fieldLink (mMet mi).1.cls idx ((mClsOf a).2.1 k).1 ((mClsOf a).2.1 k).2.1 ((mClsOf a).2.1 k).2.2.1) = true ∧ k < (mClsOf a).2.2 ∧ a ≤ 12 := by
      intro h20
      have hb20 : Nat.beq a 20 = false := by
        cases hb2 : Nat.beq a 20 with
        | false => rfl
        | true => exact absurd (Nat.eq_of_beq_eq_true hb2) h20
      simp only [okF, hb20, cond_false, Bool.and_eq_true] at hX0
      exact ⟨hX0.1.1, Nat.le_of_ble_eq_true hX0.1.2, Nat.le_of_ble_eq_true hX0.2⟩
    obtain ⟨t1, t2, t3⟩ := hXc (by omega)
    simp only [stp] at h
    split at h
    · rename_i v q r
      split at h
      · rename_i ci fs hsh
        cases hc : Nat.beq ci a with
        | false => rw [hc] at h; exact h.elim
        | true =>
          rw [hc] at h
          have e := Nat.eq_of_beq_eq_true hc
          subst e
          simp only [cond_true] at h
          split at h
          · rename_i f hf
            split at h
            · split at h
              · exact sm_put hx hb hts hK hown rfl t3 t2 (hts _ (tb_mem t1)) hfin hdg hsh hf (by omega) (fun z => by omega) h
              · exact sm_put hx hb hts hK hown rfl t3 t2 (hts _ (tb_mem t1)) hfin hdg hsh hf (by omega) (fun _ => h.1) h.2
              · exact h.elim
            · split at h
              · exact sm_put hx hb hts hK hown rfl t3 t2 (hts _ (tb_mem t1)) hfin hdg hsh hf (by omega) (fun z => by omega) h
              · exact h.elim
            · split at h
              · exact sm_putR hx hb hts hK hown t3 t2 (hts _ (tb_mem t1)) hfin hdg hsh hf (by omega) h
              · exact h.elim
            · exact h.elim
          · exact h.elim
      · exact h.elim
    · exact h.elim
  | iaload =>
    have hdg : decode (mMet mi).2.1 pc = .ok (.iaload, 1) := of_decide_eq_true hD
    simp only [stp] at h
    split at h
    · split at h
      · rename_i hsh
        exact sm_iaload hx hb hK hdg hsh h
      · exact h.elim
    · split at h
      · rename_i hk
        exact sm_kiald hx hb hC hk hdg h
      · exact h.elim
    · exact h.elim
  | baload =>
    have hdg : decode (mMet mi).2.1 pc = .ok (.baload, 1) := of_decide_eq_true hD
    simp only [stp] at h
    split at h
    · split at h
      · rename_i hsh
        exact sm_baloadB hx hb hK hdg hsh h
      · rename_i hsh
        exact sm_baloadZ hx hb hK hdg hsh h
      · exact h.elim
    · split at h
      · rename_i hk
        exact sm_kbald hx hb hC hk hdg h
      · exact h.elim
    · exact h.elim
  | laload =>
    have hdg : decode (mMet mi).2.1 pc = .ok (.laload, 1) := of_decide_eq_true hD
    simp only [stp] at h
    split at h
    · split at h
      · rename_i hsh
        exact sm_laload hx hb hK hdg hsh h
      · exact h.elim
    · exact h.elim
  | aaload =>
    have hdg : decode (mMet mi).2.1 pc = .ok (.aaload, 1) := of_decide_eq_true hD
    simp only [stp] at h
    split at h
    · split at h
      · rename_i hsh
        obtain ⟨h1, h2⟩ := h
        split at h2
        · rename_i hf
          exact sm_aaload hx hb hK hC.1 hdg hsh h1 hf h2
        · exact h2.elim
      · exact h.elim
    · exact h.elim
  | iastore =>
    have hdg : decode (mMet mi).2.1 pc = .ok (.iastore, 1) := of_decide_eq_true hD
    simp only [stp] at h
    split at h
    · split at h
      · rename_i hsh
        exact sm_iastore hx hb hK hdg hsh h
      · exact h.elim
    · exact h.elim
  | bastore =>
    have hdg : decode (mMet mi).2.1 pc = .ok (.bastore, 1) := of_decide_eq_true hD
    simp only [stp] at h
    split at h
    · split at h
      · rename_i hsh
        exact sm_bastoreB hx hb hK hdg hsh h
      · rename_i hsh
        exact sm_bastoreZ hx hb hK hdg hsh h
      · exact h.elim
    · exact h.elim
  | lastore =>
    have hdg : decode (mMet mi).2.1 pc = .ok (.lastore, 1) := of_decide_eq_true hD
    simp only [stp] at h
    split at h
    · split at h
      · rename_i hsh
        exact sm_lastore hx hb hK hdg hsh h
      · exact h.elim
    · exact h.elim
  | aastore =>
    have hdg : decode (mMet mi).2.1 pc = .ok (.aastore, 1) := of_decide_eq_true hD
    simp only [stp] at h
    split at h
    · split at h
      · rename_i v i q r sh len rs hsh
        obtain ⟨h1, h2⟩ := h
        split at h2
        · rename_i hv
          intro ad H locs cells slots ls hR
          have hl := (hR.okS _ _ hsh).2.2.2.2.2 rfl
          have hi : i.toNat < rs.length := by
            unfold mInA at h1
            omega
          exact sm_aastore hx hb hK hdg hsh hi h1 hv h2 ad H locs cells slots ls hR
        · exact h2.elim
      · exact h.elim
    · exact h.elim
  | arraylength =>
    have hdg : decode (mMet mi).2.1 pc = .ok (.arraylength, 1) := of_decide_eq_true hD
    simp only [stp] at h
    split at h
    · split at h
      · rename_i hsh
        exact sm_alen hx hb hK hdg hsh h
      · exact h.elim
    · split at h
      · rename_i hk
        exact sm_klen hx hb hC hk (Or.inl rfl) hdg h
      · rename_i hk
        exact sm_klen hx hb hC hk (Or.inr rfl) hdg h
      · exact h.elim
    · exact h.elim
  | newarray t =>
    have hdg : decode (mMet mi).2.1 pc = .ok (.newarray t, 2) := of_decide_eq_true hD
    simp only [stp] at h
    split at h
    · rename_i ty hty
      cases t <;> simp only [mAty] at hty <;> cases hty
      · exact sm_newarr_boolean hx hb hts hK hh hdg h.1 h.2
      · exact sm_newarr_byte hx hb hts hK hh hdg h.1 h.2
      · exact sm_newarr_int hx hb hts hK hh hdg h.1 h.2
      · exact sm_newarr_long hx hb hts hK hh hdg h.1 h.2
    · exact h.elim
  | anewarray idx =>
    have hdg : decode (mMet mi).2.1 pc = .ok (.anewarray idx, 3) := of_decide_eq_true hD
    have hX : (Nat.beq a 7 && tb n.toNat (.classLink (mMet mi).1.cls idx RX7)) = true := hX
    rw [Bool.and_eq_true] at hX
    simp only [stp] at h
    split at h
    · exact sm_anewarr hx hb hK hC hh hown (hts _ (tb_mem hX.2)) hdg h.1 h.2
    · exact h.elim
  | new idx =>
    have hdg : decode (mMet mi).2.1 pc = .ok (.new idx, 3) := of_decide_eq_true hD
    have hX : (Nat.ble a 12 && tb n.toNat (.classLink (mMet mi).1.cls idx (mClsOf a).1)) = true := hX
    rw [Bool.and_eq_true] at hX
    exact sm_new hx hb hts hK hh hown (Nat.le_of_ble_eq_true hX.1) (hts _ (tb_mem hX.2)) hdg h.1 h.2
  | invokevirtual idx =>
    have hdg : decode (mMet mi).2.1 pc = .ok (.invokevirtual idx, 3) := of_decide_eq_true hD
    have inv : ∀ {k' : Nat} {av rest : List mV}, mInvoke (mCall kA pr d) (Sim p l e R s m args below meth c Qf D cA kd h0 n0 ad0 nL) k' av rest pc L sg b → mCats rest ≤ 8 ∧ (k' ≠ 1005 → mCats av ≤ (mInf k').1) ∧ mCall kA pr d k' av sg b (fun r s' b' => mAns (mInf k').2.1 r (fun v => Sim p l e R s m args below meth c Qf D cA kd h0 n0 ad0 nL (pc + 3) L (v ++ rest) s' b')) := by
      intro k' av rest hi
      unfold mInvoke at hi
      cases hc : (Nat.ble (mCats rest) 8 && (Nat.ble (mCats av) (mInf k').1 || Nat.beq k' 1005)) with
      | false => rw [hc] at hi; exact hi.elim
      | true =>
        rw [hc] at hi
        rw [Bool.and_eq_true, Bool.or_eq_true] at hc
        refine ⟨Nat.le_of_ble_eq_true hc.1, fun hne => ?_, hi⟩
        rcases hc.2 with h1 | h1
        · exact Nat.le_of_ble_eq_true h1
        · exact absurd (Nat.eq_of_beq_eq_true h1) hne
    have mcx : ∀ {k' : Nat} {av : List mV} {K : Option mV → mS → mB → Prop}, k' ≠ 1005 → mCall kA pr d k' av sg b K → ∃ mc ms : Nat, mc ≤ b.1 ∧ ms ≤ b.2 ∧ goD kA pr d k' 0 (mEnt av (mInf k').1) [] sg (mc, ms) (fun r s' => K r s' (b.1 - mc, b.2 - ms)) := by
      intro k' av K hne hi
      unfold mCall at hi
      split at hi
      · exact absurd rfl hne
      · exact hi
    have hX : (tb n.toNat (.methodLink (mMet mi).1.cls idx (mMet a).1) && okCallee a && !(mIsS a) && Nat.ble 1 k && okPar a (k - 1) && tb (mPos a).2.2.1 (.selects (mMet a).1.cls (mMet a).1 (mMet a).1)) = true := hX
    rw [Bool.and_eq_true, Bool.and_eq_true, Bool.and_eq_true, Bool.and_eq_true, Bool.and_eq_true] at hX
    obtain ⟨⟨⟨⟨⟨x1, x2⟩, x3⟩, x4⟩, x5⟩, x6⟩ := hX
    have x3 : mIsS a = false := by
      cases hs : mIsS a with
      | false => rfl
      | true => rw [hs] at x3; cases x3
    simp only [stp] at h
    split at h
    · rename_i rv av rest ht
      cases hc : mRcv sg.1 (mInf a).2.2 rv with
      | false => rw [hc] at h; exact h.elim
      | true =>
        rw [hc] at h
        obtain ⟨i1, i2, i3⟩ := inv h
        have hne : a ≠ 1005 := by
          intro e
          rw [e, no1005] at x2
          cases x2
        obtain ⟨l0, e1, e2, e3⟩ := take_spec ht
        have e4 : l0 = av.reverse ++ [rv] := by
          have := congrArg List.reverse e3
          simp at this
          rw [this]
        exact sm_virtual F hnL IH x2 x3 x5 (hts _ (tb_mem x1)) (hts _ (tb_mem x6)) hc i1 (i2 hne) (by rw [e4] at e1; simp at e1; omega) (by rw [e2, e4]; simp) hdg (mcx hne i3)
    · exact h.elim
  | invokespecial idx =>
    have hdg : decode (mMet mi).2.1 pc = .ok (.invokespecial idx, 3) := of_decide_eq_true hD
    have inv : ∀ {k' : Nat} {av rest : List mV}, mInvoke (mCall kA pr d) (Sim p l e R s m args below meth c Qf D cA kd h0 n0 ad0 nL) k' av rest pc L sg b → mCats rest ≤ 8 ∧ (k' ≠ 1005 → mCats av ≤ (mInf k').1) ∧ mCall kA pr d k' av sg b (fun r s' b' => mAns (mInf k').2.1 r (fun v => Sim p l e R s m args below meth c Qf D cA kd h0 n0 ad0 nL (pc + 3) L (v ++ rest) s' b')) := by
      intro k' av rest hi
      unfold mInvoke at hi
      cases hc : (Nat.ble (mCats rest) 8 && (Nat.ble (mCats av) (mInf k').1 || Nat.beq k' 1005)) with
      | false => rw [hc] at hi; exact hi.elim
      | true =>
        rw [hc] at hi
        rw [Bool.and_eq_true, Bool.or_eq_true] at hc
        refine ⟨Nat.le_of_ble_eq_true hc.1, fun hne => ?_, hi⟩
        rcases hc.2 with h1 | h1
        · exact Nat.le_of_ble_eq_true h1
        · exact absurd (Nat.eq_of_beq_eq_true h1) hne
    have mcx : ∀ {k' : Nat} {av : List mV} {K : Option mV → mS → mB → Prop}, k' ≠ 1005 → mCall kA pr d k' av sg b K → ∃ mc ms : Nat, mc ≤ b.1 ∧ ms ≤ b.2 ∧ goD kA pr d k' 0 (mEnt av (mInf k').1) [] sg (mc, ms) (fun r s' => K r s' (b.1 - mc, b.2 - ms)) := by
      intro k' av K hne hi
      unfold mCall at hi
      split at hi
      · exact absurd rfl hne
      · exact hi
    simp only [stp] at h
    split at h
    · rename_i e0
      split at h
      · rename_i q r
        cases hc : Nat.ble (mCats r) 8 with
        | false => rw [hc] at h; exact h.elim
        | true =>
          rw [hc] at h
          exact sm_objInit hx hb hts hC.cat (by rw [hml, hnL]) hRm1 hown (hts _ (tb_mem hX)) (Nat.le_of_ble_eq_true hc) hdg h
      · exact h.elim
    · rename_i hne
      have hX' : (okCallee a && !(mIsS a) && Nat.ble 1 (k % 100) && okPar a (k % 100 - 1) && decide ((mMet a).1.name = "<init>") && Nat.beq (mInf a).2.1 0 && (bif Nat.ble 100 k then tn n.toNat (.methodLinkNest (mMet mi).1.cls idx (mMet a).1 "OneCable") else tb n.toNat (.methodLink (mMet mi).1.cls idx (mMet a).1))) = true := by
        unfold okX at hX
        simp only at hX
        first
          | exact hX
          | (split at hX
             · exact absurd rfl hne
             · exact hX)
      rw [Bool.and_eq_true, Bool.and_eq_true, Bool.and_eq_true, Bool.and_eq_true, Bool.and_eq_true, Bool.and_eq_true] at hX'
      obtain ⟨⟨⟨⟨⟨⟨x1, x2⟩, x3⟩, x4⟩, x5⟩, x6⟩, x7⟩ := hX'
      have x2 : mIsS a = false := by
        cases hs : mIsS a with
        | false => rfl
        | true => rw [hs] at x2; cases x2
      have hret0 : (mMet a).2.2 = none := by
        have c8 := (callee_spec x1).2.2.2.2.2.2.2.1
        have e := Nat.eq_of_beq_eq_true x6
        rw [e] at c8
        cases hm : (mMet a).2.2 with
        | none => rfl
        | some ty => rw [hm] at c8; cases ty <;> cases c8
      have hl : (Cond.methodLink (mMet mi).1.cls idx (mMet a).1).before args s = true ∨ ∃ host, (Cond.methodLinkNest (mMet mi).1.cls idx (mMet a).1 host).before args s = true := by
        cases hk : Nat.ble 100 k with
        | false => rw [hk] at x7; exact Or.inl (hts _ (tb_mem x7))
        | true => rw [hk] at x7; exact Or.inr ⟨_, va_Nw.use rfl (hC.2.2.2.2.2.2.2.2.2.2.1 _ (tn_mem x7))⟩
      split at h
      · rename_i q av rest ht
        have x3 := Nat.le_of_ble_eq_true x3
        obtain ⟨i1, i2, i3⟩ := inv h
        obtain ⟨l0, e1, e2, e3⟩ := take_spec ht
        have hne5 : a ≠ 1005 := by
          intro e
          rw [e, no1005] at x1
          cases x1
        rw [List.append_nil] at e3
        have hl0 : l0 = (vR q :: av).reverse := by rw [e3, List.reverse_reverse]
        have hst : st = av.reverse ++ vR q :: rest := by rw [e2, hl0]; simp
        exact sm_init F hnL IH x1 x2 (of_decide_eq_true x5) hret0 x4 hl i1 (i2 hne5) (by rw [hl0] at e1; simp at e1; omega) hst hdg (mcx hne5 i3)
      · exact h.elim
  | invokestatic idx =>
    have hdg : decode (mMet mi).2.1 pc = .ok (.invokestatic idx, 3) := of_decide_eq_true hD
    have inv : ∀ {k' : Nat} {av rest : List mV}, mInvoke (mCall kA pr d) (Sim p l e R s m args below meth c Qf D cA kd h0 n0 ad0 nL) k' av rest pc L sg b → mCats rest ≤ 8 ∧ (k' ≠ 1005 → mCats av ≤ (mInf k').1) ∧ mCall kA pr d k' av sg b (fun r s' b' => mAns (mInf k').2.1 r (fun v => Sim p l e R s m args below meth c Qf D cA kd h0 n0 ad0 nL (pc + 3) L (v ++ rest) s' b')) := by
      intro k' av rest hi
      unfold mInvoke at hi
      cases hc : (Nat.ble (mCats rest) 8 && (Nat.ble (mCats av) (mInf k').1 || Nat.beq k' 1005)) with
      | false => rw [hc] at hi; exact hi.elim
      | true =>
        rw [hc] at hi
        rw [Bool.and_eq_true, Bool.or_eq_true] at hc
        refine ⟨Nat.le_of_ble_eq_true hc.1, fun hne => ?_, hi⟩
        rcases hc.2 with h1 | h1
        · exact Nat.le_of_ble_eq_true h1
        · exact absurd (Nat.eq_of_beq_eq_true h1) hne
    have mcx : ∀ {k' : Nat} {av : List mV} {K : Option mV → mS → mB → Prop}, k' ≠ 1005 → mCall kA pr d k' av sg b K → ∃ mc ms : Nat, mc ≤ b.1 ∧ ms ≤ b.2 ∧ goD kA pr d k' 0 (mEnt av (mInf k').1) [] sg (mc, ms) (fun r s' => K r s' (b.1 - mc, b.2 - ms)) := by
      intro k' av K hne hi
      unfold mCall at hi
      split at hi
      · exact absurd rfl hne
      · exact hi
    simp only [stp] at h
    split at h
    · split at h
      · rename_i y x r
        cases hc : Nat.ble (mCats r) 8 with
        | false => rw [hc] at h; exact h.elim
        | true =>
          rw [hc] at h
          exact sm_max hx hb hts hC.cat (by rw [hml, hnL]) hRm1 hown (hts _ (tb_mem hX)) (Nat.le_of_ble_eq_true hc) hdg h
      · exact h.elim
    · split at h
      · rename_i y x r
        cases hc : Nat.ble (mCats r) 8 with
        | false => rw [hc] at h; exact h.elim
        | true =>
          rw [hc] at h
          exact sm_min hx hb hts hC.cat (by rw [hml, hnL]) hRm1 hown (hts _ (tb_mem hX)) (Nat.le_of_ble_eq_true hc) hdg h
      · exact h.elim
    · split at h
      · rename_i x r
        cases hc : Nat.ble (mCats r) 8 with
        | false => rw [hc] at h; exact h.elim
        | true =>
          rw [hc] at h
          exact sm_abs hx hb hts hC.cat (by rw [hml, hnL]) hRm1 hown (hts _ (tb_mem hX)) (Nat.le_of_ble_eq_true hc) hdg h
      · exact h.elim
    · split at h
      · rename_i q1 q2 q3 q4 q5 r
        split at h
        · rename_i ha hd
          cases hc : (Nat.ble (mCats r) 8 && !(Nat.beq q5 q3)) with
          | false => rw [hc] at h; exact h.elim
          | true =>
            rw [hc] at h
            rw [Bool.and_eq_true] at hc
            exact sm_copy hx hb hts hK hC.cat (by rw [hml, hnL]) hRm1 hown (hts _ (tb_mem hX)) (Nat.le_of_ble_eq_true hc.1) ha hd hdg h.1 h.2
        · exact h.elim
      · exact h.elim
    · rename_i n0' n1 n2 n3
      split at h
      · rename_i av rest ht
        obtain ⟨i1, i2, i3⟩ := inv h
        obtain ⟨l0, e1, e2, e3⟩ := take_spec ht
        rw [List.append_nil] at e3
        have hl0 : l0 = av.reverse := by rw [e3, List.reverse_reverse]
        by_cases h5 : a = 1005
        · subst h5
          exact hprim pc L av rest sg b idx k n hlk hdg i1 (by rw [e2, hl0]) i3
        · have hX' : (okCallee a && mIsS a && okPar a (k % 100) && (bif Nat.ble 100 k then tn n.toNat (.methodLinkNest (mMet mi).1.cls idx (mMet a).1 "OneCable") else tb n.toNat (.methodLink (mMet mi).1.cls idx (mMet a).1))) = true := by
            unfold okX at hX
            simp only at hX
            exact hX
          rw [Bool.and_eq_true, Bool.and_eq_true, Bool.and_eq_true] at hX'
          obtain ⟨⟨⟨x1, x2⟩, x4⟩, x7⟩ := hX'
          have hl : (Cond.methodLink (mMet mi).1.cls idx (mMet a).1).before args s = true ∨ ∃ host, (Cond.methodLinkNest (mMet mi).1.cls idx (mMet a).1 host).before args s = true := by
            cases hk : Nat.ble 100 k with
            | false => rw [hk] at x7; exact Or.inl (hts _ (tb_mem x7))
            | true => rw [hk] at x7; exact Or.inr ⟨_, va_Nw.use rfl (hC.2.2.2.2.2.2.2.2.2.2.1 _ (tn_mem x7))⟩
          exact sm_static F hnL IH x1 x2 x4 hl i1 (i2 h5) (by rw [hl0] at e1; simpa using e1) (by rw [e2, hl0]) hdg (mcx h5 i3)
      · exact h.elim
  | ireturn =>
    have hdg : decode (mMet mi).2.1 pc = .ok (.ireturn, 1) := of_decide_eq_true hD
    simp only [stp] at h
    split at h
    · rename_i z
      have hX1 : (match (mMet mi).2.2 with | some .int => Nat.beq a 0 | some .boolean => Nat.beq a 1 | some .char => Nat.beq a 2 | some .byte => Nat.beq a 3 | _ => false) = true := hX
      intro ad H locs cells slots ls hR
      have ov : r32 z := (List.forall_mem_cons.mp hR.ok).1
      have key : ∀ ty, (mMet mi).2.2 = some ty → narrow ty (.int (Int32.ofInt z)) = .int (Int32.ofInt z) → Q (some (vI z)) sg → W p l e R s m args below meth c H locs cells slots Qf (F0 m pc ls [.int (Int32.ofInt z)]) :=
        fun ty h1 h2 h3 => hretI pc L z sg b ty hdg h1 h2 h3 ad H locs cells slots ls hR
      cases hm : (mMet mi).2.2 with
      | none => rw [hm] at hX1; cases hX1
      | some ty =>
        rw [hm] at hX1
        cases ty <;> simp only at hX1 <;> first | (cases hX1; done) | skip
        all_goals
          have e := Nat.eq_of_beq_eq_true hX1
          subst e
        all_goals simp only at h
        · exact key _ hm (nar_byte h.1) h.2
        · exact key _ hm (nar_char h.1) h.2
        · exact key _ hm rfl h
        · exact key _ hm (nar_bool h.1) h.2
    · exact h.elim
  | return_ =>
    have hdg : decode (mMet mi).2.1 pc = .ok (.return_, 1) := of_decide_eq_true hD
    simp only [stp] at h
    split at h
    · have hX1 : (match (mMet mi).2.2 with | none => true | _ => false) = true := hX
      intro ad H locs cells slots ls hR
      cases hm : (mMet mi).2.2 with
      | none => exact hretV pc L sg b hdg hm h ad H locs cells slots ls hR
      | some ty => rw [hm] at hX1; cases hX1
    · exact h.elim
  | _ => exact h.elim
end SIMB
end
section
/-! Every method meets its run in the small machine -/
theorem callee_word {mi : Nat} (h : okCallee mi = true) : tb (mPos mi).1 (.code (mMet mi).1 (mMet mi).2.1 (mInf mi).1 (mMet mi).2.2) = true := by
  unfold okCallee at h
  rw [Bool.and_eq_true, Bool.and_eq_true, Bool.and_eq_true, Bool.and_eq_true, Bool.and_eq_true, Bool.and_eq_true, Bool.and_eq_true, Bool.and_eq_true] at h
  exact h.1.1.1.1.1.1.1.1
def noPr (mi : Nat) : Bool := (mOps mi).all (fun q => q.2.all (fun o => !(Nat.beq o.2.2.1 1005)))
theorem noPr_ok : ∀ mi, mi < 237 → noPr mi = true := by decide +kernel
theorem callee_lt {mi : Nat} (h : okCallee mi = true) : mi < 237 := by
  by_cases hl : mi < 237
  · exact hl
  · exfalso
    have hle : ∀ k, k < 237 → Nat.ble mi k = false := fun k hk => by
      cases hc : Nat.ble mi k with
      | false => rfl
      | true => have := Nat.le_of_ble_eq_true hc; omega
    have h1 : mPos mi = (0, 0, 0, 0) := by
      simp only [mPos, hle 118 (by omega), hle 177 (by omega), hle 207 (by omega), hle 222 (by omega), hle 229 (by omega), hle 233 (by omega), hle 235 (by omega), hle 236 (by omega), cond_false]
    have h2 := (callee_word h)
    rw [h1] at h2
    have h3 : mMet mi = mMet 237 := by
      have hle2 : ∀ k, k < 237 → Nat.ble 237 k = false := fun k hk => by
        cases hc : Nat.ble 237 k with
        | false => rfl
        | true => have := Nat.le_of_ble_eq_true hc; omega
      simp only [mMet, hle 118 (by omega), hle2 118 (by omega), hle 177 (by omega), hle2 177 (by omega), hle 207 (by omega), hle2 207 (by omega), hle 222 (by omega), hle2 222 (by omega), hle 229 (by omega), hle2 229 (by omega), hle 233 (by omega), hle2 233 (by omega), hle 235 (by omega), hle2 235 (by omega), hle 236 (by omega), hle2 236 (by omega), cond_false]
    rw [h3] at h2
    exact absurd h2 (by
      have : tb 0 (.code (mMet 237).1 (mMet 237).2.1 (mInf mi).1 (mMet 237).2.2) = false := by
        have e : nthC (lists 0) 0 = some (Cond.selects "OneCable$Tape" ⟨"OneCable$Tape", "pass", "(CC)V"⟩ ⟨"OneCable$Tape", "pass", "(CC)V"⟩) := by decide +kernel
        unfold tb
        rw [show (0 / 1000 : Nat) = 0 from rfl, show (0 % 1000 : Nat) = 0 from rfl, e]
        rfl
      rw [this]; decide)
set_option maxRecDepth 4000 in
theorem okM_all : ∀ mi, mi < 238 → okM mi = true := by
  intro mi h
  match mi, h with
  | 0, _ => exact okM0
  | 1, _ => exact okM1
  | 2, _ => exact okM2
  | 3, _ => exact okM3
  | 4, _ => exact okM4
  | 5, _ => exact okM5
  | 6, _ => exact okM6
  | 7, _ => exact okM7
  | 8, _ => exact okM8
  | 9, _ => exact okM9
  | 10, _ => exact okM10
  | 11, _ => exact okM11
  | 12, _ => exact okM12
  | 13, _ => exact okM13
  | 14, _ => exact okM14
  | 15, _ => exact okM15
  | 16, _ => exact okM16
  | 17, _ => exact okM17
  | 18, _ => exact okM18
  | 19, _ => exact okM19
  | 20, _ => exact okM20
  | 21, _ => exact okM21
  | 22, _ => exact okM22
  | 23, _ => exact okM23
  | 24, _ => exact okM24
  | 25, _ => exact okM25
  | 26, _ => exact okM26
  | 27, _ => exact okM27
  | 28, _ => exact okM28
  | 29, _ => exact okM29
  | 30, _ => exact okM30
  | 31, _ => exact okM31
  | 32, _ => exact okM32
  | 33, _ => exact okM33
  | 34, _ => exact okM34
  | 35, _ => exact okM35
  | 36, _ => exact okM36
  | 37, _ => exact okM37
  | 38, _ => exact okM38
  | 39, _ => exact okM39
  | 40, _ => exact okM40
  | 41, _ => exact okM41
  | 42, _ => exact okM42
  | 43, _ => exact okM43
  | 44, _ => exact okM44
  | 45, _ => exact okM45
  | 46, _ => exact okM46
  | 47, _ => exact okM47
  | 48, _ => exact okM48
  | 49, _ => exact okM49
  | 50, _ => exact okM50
  | 51, _ => exact okM51
  | 52, _ => exact okM52
  | 53, _ => exact okM53
  | 54, _ => exact okM54
  | 55, _ => exact okM55
  | 56, _ => exact okM56
  | 57, _ => exact okM57
  | 58, _ => exact okM58
  | 59, _ => exact okM59
  | 60, _ => exact okM60
  | 61, _ => exact okM61
  | 62, _ => exact okM62
  | 63, _ => exact okM63
  | 64, _ => exact okM64
  | 65, _ => exact okM65
  | 66, _ => exact okM66
  | 67, _ => exact okM67
  | 68, _ => exact okM68
  | 69, _ => exact okM69
  | 70, _ => exact okM70
  | 71, _ => exact okM71
  | 72, _ => exact okM72
  | 73, _ => exact okM73
  | 74, _ => exact okM74
  | 75, _ => exact okM75
  | 76, _ => exact okM76
  | 77, _ => exact okM77
  | 78, _ => exact okM78
  | 79, _ => exact okM79
  | 80, _ => exact okM80
  | 81, _ => exact okM81
  | 82, _ => exact okM82
  | 83, _ => exact okM83
  | 84, _ => exact okM84
  | 85, _ => exact okM85
  | 86, _ => exact okM86
  | 87, _ => exact okM87
  | 88, _ => exact okM88
  | 89, _ => exact okM89
  | 90, _ => exact okM90
  | 91, _ => exact okM91
  | 92, _ => exact okM92
  | 93, _ => exact okM93
  | 94, _ => exact okM94
  | 95, _ => exact okM95
  | 96, _ => exact okM96
  | 97, _ => exact okM97
  | 98, _ => exact okM98
  | 99, _ => exact okM99
  | 100, _ => exact okM100
  | 101, _ => exact okM101
  | 102, _ => exact okM102
  | 103, _ => exact okM103
  | 104, _ => exact okM104
  | 105, _ => exact okM105
  | 106, _ => exact okM106
  | 107, _ => exact okM107
  | 108, _ => exact okM108
  | 109, _ => exact okM109
  | 110, _ => exact okM110
  | 111, _ => exact okM111
  | 112, _ => exact okM112
  | 113, _ => exact okM113
  | 114, _ => exact okM114
  | 115, _ => exact okM115
  | 116, _ => exact okM116
  | 117, _ => exact okM117
  | 118, _ => exact okM118
  | 119, _ => exact okM119
  | 120, _ => exact okM120
  | 121, _ => exact okM121
  | 122, _ => exact okM122
  | 123, _ => exact okM123
  | 124, _ => exact okM124
  | 125, _ => exact okM125
  | 126, _ => exact okM126
  | 127, _ => exact okM127
  | 128, _ => exact okM128
  | 129, _ => exact okM129
  | 130, _ => exact okM130
  | 131, _ => exact okM131
  | 132, _ => exact okM132
  | 133, _ => exact okM133
  | 134, _ => exact okM134
  | 135, _ => exact okM135
  | 136, _ => exact okM136
  | 137, _ => exact okM137
  | 138, _ => exact okM138
  | 139, _ => exact okM139
  | 140, _ => exact okM140
  | 141, _ => exact okM141
  | 142, _ => exact okM142
  | 143, _ => exact okM143
  | 144, _ => exact okM144
  | 145, _ => exact okM145
  | 146, _ => exact okM146
  | 147, _ => exact okM147
  | 148, _ => exact okM148
  | 149, _ => exact okM149
  | 150, _ => exact okM150
  | 151, _ => exact okM151
  | 152, _ => exact okM152
  | 153, _ => exact okM153
  | 154, _ => exact okM154
  | 155, _ => exact okM155
  | 156, _ => exact okM156
  | 157, _ => exact okM157
  | 158, _ => exact okM158
  | 159, _ => exact okM159
  | 160, _ => exact okM160
  | 161, _ => exact okM161
  | 162, _ => exact okM162
  | 163, _ => exact okM163
  | 164, _ => exact okM164
  | 165, _ => exact okM165
  | 166, _ => exact okM166
  | 167, _ => exact okM167
  | 168, _ => exact okM168
  | 169, _ => exact okM169
  | 170, _ => exact okM170
  | 171, _ => exact okM171
  | 172, _ => exact okM172
  | 173, _ => exact okM173
  | 174, _ => exact okM174
  | 175, _ => exact okM175
  | 176, _ => exact okM176
  | 177, _ => exact okM177
  | 178, _ => exact okM178
  | 179, _ => exact okM179
  | 180, _ => exact okM180
  | 181, _ => exact okM181
  | 182, _ => exact okM182
  | 183, _ => exact okM183
  | 184, _ => exact okM184
  | 185, _ => exact okM185
  | 186, _ => exact okM186
  | 187, _ => exact okM187
  | 188, _ => exact okM188
  | 189, _ => exact okM189
  | 190, _ => exact okM190
  | 191, _ => exact okM191
  | 192, _ => exact okM192
  | 193, _ => exact okM193
  | 194, _ => exact okM194
  | 195, _ => exact okM195
  | 196, _ => exact okM196
  | 197, _ => exact okM197
  | 198, _ => exact okM198
  | 199, _ => exact okM199
  | 200, _ => exact okM200
  | 201, _ => exact okM201
  | 202, _ => exact okM202
  | 203, _ => exact okM203
  | 204, _ => exact okM204
  | 205, _ => exact okM205
  | 206, _ => exact okM206
  | 207, _ => exact okM207
  | 208, _ => exact okM208
  | 209, _ => exact okM209
  | 210, _ => exact okM210
  | 211, _ => exact okM211
  | 212, _ => exact okM212
  | 213, _ => exact okM213
  | 214, _ => exact okM214
  | 215, _ => exact okM215
  | 216, _ => exact okM216
  | 217, _ => exact okM217
  | 218, _ => exact okM218
  | 219, _ => exact okM219
  | 220, _ => exact okM220
  | 221, _ => exact okM221
  | 222, _ => exact okM222
  | 223, _ => exact okM223
  | 224, _ => exact okM224
  | 225, _ => exact okM225
  | 226, _ => exact okM226
  | 227, _ => exact okM227
  | 228, _ => exact okM228
  | 229, _ => exact okM229
  | 230, _ => exact okM230
  | 231, _ => exact okM231
  | 232, _ => exact okM232
  | 233, _ => exact okM233
  | 234, _ => exact okM234
  | 235, _ => exact okM235
  | 236, _ => exact okM236
  | 237, _ => exact okM237
  | n + 238, h => omega

theorem noPr_use {mi pc : Nat} (h : noPr mi = true) : (mLook (mOps mi) pc).2.1 ≠ 1005 := by
  have h1 : ∀ (l : List (Nat × mOp)), l.all (fun o => !(Nat.beq o.2.2.1 1005)) = true → (mLook1 l pc).2.1 ≠ 1005 := by
    intro l
    induction l with
    | nil => intro _ h; cases h
    | cons x t ih =>
      obtain ⟨q, o⟩ := x
      intro h
      simp only [List.all_cons, Bool.and_eq_true] at h
      unfold mLook1
      cases Nat.beq q pc with
      | true =>
        intro e
        have e' : o.2.1 = 1005 := e
        have h2 := h.1
        simp only [e'] at h2
        cases h2
      | false => exact ih h.2
  have h2 : ∀ (l : List (Nat × List (Nat × mOp))), l.all (fun q => q.2.all (fun o => !(Nat.beq o.2.2.1 1005))) = true → (mLook l pc).2.1 ≠ 1005 := by
    intro l
    induction l with
    | nil => intro _ h; cases h
    | cons x t ih =>
      obtain ⟨q, c⟩ := x
      intro h
      simp only [List.all_cons, Bool.and_eq_true] at h
      unfold mLook
      cases Nat.ble pc q with
      | true => exact h1 c h.1
      | false => exact ih h.2
  exact h2 _ h
theorem ent_args {ad : Nat → Nat} {kd : Nat → Value} (hk : ∀ k, (kd k).category = 1) : ∀ (av : List mV) (n o i : Nat) (v : mV), mGet (mEnt av n) i = some v → (o + i, cV ad kd v) ∈ lv_args o (av.map (cV ad kd))
  | _, 0, o, i, v, h => by simp [mEnt, mGet] at h
  | [], n + 1, o, i, v, h => by
    exfalso
    have : ∀ (n i : Nat), mGet (mEnt [] n) i = none := by
      intro n
      induction n with
      | zero => intro i; simp [mEnt, mGet]
      | succ n ih =>
        intro i
        rcases i with _ | i
        · simp [mEnt, mGet]
        · simp [mEnt, mGet, ih]
    rw [this] at h
    cases h
  | .inr (.inl x) :: t, 1, o, i, v, h => by
    rcases i with _ | i
    · simp [mEnt, mGet] at h
      subst h
      exact List.mem_cons_self
    · simp [mEnt, mGet] at h
  | .inr (.inl x) :: t, n + 2, o, i, v, h => by
    rcases i with _ | _ | i
    · simp [mEnt, mGet] at h
      subst h
      exact List.mem_cons_self
    · simp [mEnt, mGet] at h
    · simp only [mEnt, mGet] at h
      have := ent_args (ad := ad) hk t n (o + 2) i v h
      refine List.mem_cons_of_mem _ ?_
      show (o + (i + 2), _) ∈ lv_args (if (Value.long (Int64.ofInt x)).category = 2 then o + 2 else o + 1) _
      rw [if_pos (show (Value.long (Int64.ofInt x)).category = 2 from rfl), show o + (i + 2) = o + 2 + i by omega]
      exact this
  | .inl x :: t, n + 1, o, i, v, h => by
    rcases i with _ | i
    · simp [mEnt, mGet] at h
      subst h
      exact List.mem_cons_self
    · simp only [mEnt, mGet] at h
      have := ent_args (ad := ad) hk t n (o + 1) i v h
      refine List.mem_cons_of_mem _ ?_
      show (o + (i + 1), _) ∈ lv_args (if (Value.int (Int32.ofInt x)).category = 2 then o + 2 else o + 1) _
      rw [if_neg (by simp [Value.category]), show o + (i + 1) = o + 1 + i by omega]
      exact this
  | .inr (.inr x) :: t, n + 1, o, i, v, h => by
    have hc : (cV ad kd (.inr (.inr x))).category = 1 := by
      rcases x with x | x
      · rfl
      · exact hk x
    rcases i with _ | i
    · simp [mEnt, mGet] at h
      subst h
      exact List.mem_cons_self
    · simp only [mEnt, mGet] at h
      have := ent_args (ad := ad) hk t n (o + 1) i v h
      refine List.mem_cons_of_mem _ ?_
      show (o + (i + 1), _) ∈ lv_args (if (cV ad kd (.inr (.inr x))).category = 2 then o + 2 else o + 1) _
      rw [if_neg (by rw [hc]; decide), show o + (i + 1) = o + 1 + i by omega]
      exact this
theorem ent_ok {n0 : Nat} : ∀ (av : List mV) (n i : Nat) (v : mV), (∀ v ∈ av, okV n0 v) → mGet (mEnt av n) i = some v → okV n0 v := by
  intro av n i v ho h
  have h1 := ent_args (ad := fun _ => 0) (kd := fun _ => .null) (fun _ => rfl) av n 0 i v h
  have key : ∀ (av : List mV) (n i : Nat), mGet (mEnt av n) i = some v → v ∈ av := by
    intro av
    induction av with
    | nil =>
      intro n
      induction n with
      | zero => intro i h; simp [mEnt, mGet] at h
      | succ n ih =>
        intro i h
        rcases i with _ | i
        · simp [mEnt, mGet] at h
        · simp only [mEnt, mGet] at h; exact ih i h
    | cons a t ih =>
      intro n i h
      rcases a with x | x | x
      · rcases n with _ | n
        · simp [mEnt, mGet] at h
        · rcases i with _ | i
          · simp [mEnt, mGet] at h; simp [h]
          · simp only [mEnt, mGet] at h; exact List.mem_cons_of_mem _ (ih n i h)
      · rcases n with _ | _ | n
        · simp [mEnt, mGet] at h
        · rcases i with _ | i
          · simp [mEnt, mGet] at h; simp [h]
          · simp [mEnt, mGet] at h
        · rcases i with _ | _ | i
          · simp [mEnt, mGet] at h; simp [h]
          · simp [mEnt, mGet] at h
          · simp only [mEnt, mGet] at h; exact List.mem_cons_of_mem _ (ih n i h)
      · rcases n with _ | n
        · simp [mEnt, mGet] at h
        · rcases i with _ | i
          · simp [mEnt, mGet] at h; simp [h]
          · simp only [mEnt, mGet] at h; exact List.mem_cons_of_mem _ (ih n i h)
  exact ho v (key av n i h)
theorem sl_len {ad : Nat → Nat} {kd : Nat → Value} (hk : ∀ k, (kd k).category = 1) : ∀ av : List mV, (lg_sl (av.map (cV ad kd))).length = mCats av
  | [] => rfl
  | v :: t => by
    have h := sl_len (ad := ad) hk t
    simp only [lg_sl, List.map_cons, List.flatMap_cons, List.length_append, mCats] at h ⊢
    rw [h]
    congr 1
    rcases v with x | x | x | x
    · rfl
    · rfl
    · rfl
    · show (if (kd x).category = 2 then [Slot.val (kd x), Slot.second] else [Slot.val (kd x)]).length = 1
      rw [if_neg (by rw [hk]; decide)]
      rfl
set_option maxHeartbeats 4000000 in
theorem all_met {l : Launch} {D : va_G} {cA : Nat → ClassId} {kd : Nat → Value} {kA : mKA} {pr : mPr} {h0 : Nat} : ∀ d, mAll l D cA kd kA pr h0 d := by
  intro d
  induction d with
  | zero => intro mi av sg b Q _ _ h; exact h.elim
  | succ d IH =>
    intro mi av sg b Q hc hav hg hsg hao ad
    obtain ⟨c1, c2, c3, c4, c5, c6, c7, c8, c9⟩ := callee_spec hc
    have hlt := callee_lt hc
    refine Met.ofW (cc := (mMet mi).2.1) (maxL := (mInf mi).1) (ret := (mMet mi).2.2) c6 rfl ?_
    intro p e s m args below meth c s₁ B hml hv
    obtain ⟨rfl, hh, hP, hD, hK, hC⟩ := hv
    have hts0 := atoms_spec (ws := mWs mi) B.pre
    have hts : ∀ w ∈ gt, w.before _ s = true := fun w hw => hts0 w (List.mem_cons_of_mem _ hw)
    have hown : s.vm.findClass (mMet mi).1.cls = some m.cls := findClass_of_methodNamed B.named
    have hlocks := B.notSynchronized
    have F : Fr p (mRm (d + 1) b) s m (av.map (cV ad kd)).toArray meth c D cA kd kA h0 d mi :=
      ⟨B.exec, B.bytes, hml, hown, hts, hK, hC, hh, fun hi => (name_of_methodNamed B.named B.method).1.trans hi, ⟨Nat.le_refl _, Nat.le_refl _⟩⟩
    rw [goD_succ] at hg
    have key := hg (Sim p l e (mRm (d + 1) b) s m (av.map (cV ad kd)).toArray below meth c (MQ below (mQc D cA kd h0 mi sg ad Q) (av.map (cV ad kd)).toArray s b.1 b.2 (AA h0)) D cA kd h0 sg.1.length ad (mInf mi).1) (sim_step F rfl (okM_all mi (by omega)) IH ?_ ?_ ?_)
    · have hl := lv_entry (av.map (cV ad kd)) (n := (mInf mi).1) (by rw [sl_len hC.cat]; exact hav)
      rw [lg_entry_eq]
      refine key ad s.heap [] 0 0 _ ⟨hP, hD, va_S.rf, ⟨hl.1, hl.2.1, fun i v hv => ?_⟩, hsg, fun i v hv => ent_ok av _ i v hao hv, (fun v hv => by cases hv), ⟨?_, ?_⟩, Nat.le_refl _, fun _ _ => rfl⟩
      · have := ent_args (ad := ad) hC.cat av _ 0 i v hv
        rw [Nat.zero_add] at this
        exact hl.2.2 _ this
      · show 0 + b.1 ≤ b.1
        omega
      · show 0 + b.2 ≤ b.2
        omega
    · intro pc L av' rest sg' b' idx k n hlk
      exact absurd (by rw [hlk]) (noPr_use (pc := pc) (noPr_ok mi hlt))
    · intro pc L z sg' b' ty hdg hty hn hq ad' H locs cells slots ls hR
      have hr : meth.sig.returnType = some ty := B.returns.trans hty
      have hro := hR.room
      have hro1 : cells + b'.1 ≤ b.1 := hro.1
      have hro2 : slots + b'.2 ≤ b.2 := hro.2
      refine W.widen (k := b.1) (n := b.2) (by omega) (by omega) ?_
      refine W.zret B.exec B.bytes hr hn (fun t ht hW => ⟨⟨some (vI z), sg', ad', rfl, ?_, hq, ?_, hR.okS, hR.2.2.2.2.2.2.2.2.1, hR.2.2.2.2.2.2.2.2.2, by rw [ht]; exact hR.1, hR.2.1⟩, hR.S.F ht⟩) hR.S.2.2 hdg hlocks
      · rw [hty] at c8
        have e : (mInf mi).2.1 = 1 := by
          cases ty <;> simp only at c8 <;> first | exact Nat.eq_of_beq_eq_true c8 | cases c8
        rw [e]
        exact ⟨z, rfl⟩
      · intro v hv
        cases hv
        exact (List.forall_mem_cons.mp hR.ok).1
    · intro pc L sg' b' hdg hm hq ad' H locs cells slots ls hR
      have hr : meth.sig.returnType = none := B.returns.trans hm
      have hro := hR.room
      have hro1 : cells + b'.1 ≤ b.1 := hro.1
      have hro2 : slots + b'.2 ≤ b.2 := hro.2
      refine W.widen (k := b.1) (n := b.2) (by omega) (by omega) ?_
      refine W.vret B.exec B.bytes hr (fun t ht hW => ⟨⟨none, sg', ad', rfl, ?_, hq, fun v hv => (by cases hv), hR.okS, hR.2.2.2.2.2.2.2.2.1, hR.2.2.2.2.2.2.2.2.2, by rw [ht]; exact hR.1, hR.2.1⟩, hR.S.F ht⟩) hR.S.2.2 hdg hlocks
      rw [hm] at c8
      rw [Nat.eq_of_beq_eq_true c8]
      rfl
end
