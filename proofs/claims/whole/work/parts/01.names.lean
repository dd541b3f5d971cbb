-- ===== PART A: goes FIRST, ahead of the names: the tables' words, and 'selects' of the private methods out of them =====
/-- a private method of a class that the tables say can be made, by its rows of tables_1 -/
def lw_okq (q : MethodName × Nat) : Prop := (q.1.cls ≠ "java/lang/invoke/MethodHandle" ∧ q.1.cls ≠ "java/lang/invoke/VarHandle") ∧ Cond.instantiable q.1.cls q.2 ∈ tables_1 ∧ Cond.privateMethod q.1 ∈ tables_1 ∧ Cond.instanceMethod q.1 ∈ tables_1
theorem lw_p0 : lw_okq (⟨"ThreeDots$Course", "note", "(III)V"⟩, 6) := ⟨⟨by decide +kernel, by decide +kernel⟩, List.mem_of_getElem? (i := 283) (by decide +kernel), List.mem_of_getElem? (i := 419) (by decide +kernel), List.mem_of_getElem? (i := 420) (by decide +kernel)⟩
theorem lw_p1 : lw_okq (⟨"ThreeDots$Course", "quietUntil", "()I"⟩, 6) := ⟨⟨by decide +kernel, by decide +kernel⟩, List.mem_of_getElem? (i := 283) (by decide +kernel), List.mem_of_getElem? (i := 466) (by decide +kernel), List.mem_of_getElem? (i := 467) (by decide +kernel)⟩
theorem lw_p2 : lw_okq (⟨"ThreeDots$Course", "someoneCanRead", "()Z"⟩, 6) := ⟨⟨by decide +kernel, by decide +kernel⟩, List.mem_of_getElem? (i := 283) (by decide +kernel), List.mem_of_getElem? (i := 470) (by decide +kernel), List.mem_of_getElem? (i := 471) (by decide +kernel)⟩
theorem lw_p3 : lw_okq (⟨"ThreeDots$Course", "followSayings", "()V"⟩, 6) := ⟨⟨by decide +kernel, by decide +kernel⟩, List.mem_of_getElem? (i := 283) (by decide +kernel), List.mem_of_getElem? (i := 497) (by decide +kernel), List.mem_of_getElem? (i := 498) (by decide +kernel)⟩
theorem lw_p4 : lw_okq (⟨"ThreeDots$Course", "readMessages", "()V"⟩, 6) := ⟨⟨by decide +kernel, by decide +kernel⟩, List.mem_of_getElem? (i := 283) (by decide +kernel), List.mem_of_getElem? (i := 508) (by decide +kernel), List.mem_of_getElem? (i := 509) (by decide +kernel)⟩
theorem lw_p5 : lw_okq (⟨"ThreeDots$Course", "readOne", "(I)V"⟩, 6) := ⟨⟨by decide +kernel, by decide +kernel⟩, List.mem_of_getElem? (i := 283) (by decide +kernel), List.mem_of_getElem? (i := 512) (by decide +kernel), List.mem_of_getElem? (i := 513) (by decide +kernel)⟩
theorem lw_p6 : lw_okq (⟨"ThreeDots$Judge", "untold", "(I)I"⟩, 3) := ⟨⟨by decide +kernel, by decide +kernel⟩, List.mem_of_getElem? (i := 265) (by decide +kernel), List.mem_of_getElem? (i := 530) (by decide +kernel), List.mem_of_getElem? (i := 531) (by decide +kernel)⟩
theorem lw_p7 : lw_okq (⟨"ThreeDots$Judge", "reckon", "(LThreeDots$Sheet;II)I"⟩, 3) := ⟨⟨by decide +kernel, by decide +kernel⟩, List.mem_of_getElem? (i := 265) (by decide +kernel), List.mem_of_getElem? (i := 535) (by decide +kernel), List.mem_of_getElem? (i := 536) (by decide +kernel)⟩
theorem lw_p8 : lw_okq (⟨"ThreeDots$Course", "draw", "(I)I"⟩, 6) := ⟨⟨by decide +kernel, by decide +kernel⟩, List.mem_of_getElem? (i := 283) (by decide +kernel), List.mem_of_getElem? (i := 548) (by decide +kernel), List.mem_of_getElem? (i := 549) (by decide +kernel)⟩
theorem lw_p9 : lw_okq (⟨"ThreeDots$Course", "answerMessages", "()V"⟩, 6) := ⟨⟨by decide +kernel, by decide +kernel⟩, List.mem_of_getElem? (i := 283) (by decide +kernel), List.mem_of_getElem? (i := 554) (by decide +kernel), List.mem_of_getElem? (i := 555) (by decide +kernel)⟩
theorem lw_p10 : lw_okq (⟨"ThreeDots$Course", "answerOne", "(I)V"⟩, 6) := ⟨⟨by decide +kernel, by decide +kernel⟩, List.mem_of_getElem? (i := 283) (by decide +kernel), List.mem_of_getElem? (i := 558) (by decide +kernel), List.mem_of_getElem? (i := 559) (by decide +kernel)⟩
theorem lw_p11 : lw_okq (⟨"ThreeDots$Reader", "cutOne", "(Ljava/lang/String;II)I"⟩, 10) := ⟨⟨by decide +kernel, by decide +kernel⟩, List.mem_of_getElem? (i := 222) (by decide +kernel), List.mem_of_getElem? (i := 594) (by decide +kernel), List.mem_of_getElem? (i := 595) (by decide +kernel)⟩
theorem lw_p12 : lw_okq (⟨"ThreeDots$Reader", "findWord", "(Ljava/lang/String;II)I"⟩, 10) := ⟨⟨by decide +kernel, by decide +kernel⟩, List.mem_of_getElem? (i := 222) (by decide +kernel), List.mem_of_getElem? (i := 601) (by decide +kernel), List.mem_of_getElem? (i := 602) (by decide +kernel)⟩
theorem lw_p13 : lw_okq (⟨"ThreeDots$Reader", "addToken", "(III)V"⟩, 10) := ⟨⟨by decide +kernel, by decide +kernel⟩, List.mem_of_getElem? (i := 222) (by decide +kernel), List.mem_of_getElem? (i := 653) (by decide +kernel), List.mem_of_getElem? (i := 654) (by decide +kernel)⟩
theorem lw_p14 : lw_okq (⟨"ThreeDots$Reader", "refuse", "(I)Z"⟩, 10) := ⟨⟨by decide +kernel, by decide +kernel⟩, List.mem_of_getElem? (i := 222) (by decide +kernel), List.mem_of_getElem? (i := 671) (by decide +kernel), List.mem_of_getElem? (i := 672) (by decide +kernel)⟩
theorem lw_p15 : lw_okq (⟨"ThreeDots$Reader", "parseLaw", "()Z"⟩, 10) := ⟨⟨by decide +kernel, by decide +kernel⟩, List.mem_of_getElem? (i := 222) (by decide +kernel), List.mem_of_getElem? (i := 675) (by decide +kernel), List.mem_of_getElem? (i := 676) (by decide +kernel)⟩
def lw_privs_1 : List (MethodName × Nat) := [(⟨"ThreeDots$Course", "note", "(III)V"⟩, 6), (⟨"ThreeDots$Course", "quietUntil", "()I"⟩, 6), (⟨"ThreeDots$Course", "someoneCanRead", "()Z"⟩, 6), (⟨"ThreeDots$Course", "followSayings", "()V"⟩, 6), (⟨"ThreeDots$Course", "readMessages", "()V"⟩, 6), (⟨"ThreeDots$Course", "readOne", "(I)V"⟩, 6), (⟨"ThreeDots$Judge", "untold", "(I)I"⟩, 3), (⟨"ThreeDots$Judge", "reckon", "(LThreeDots$Sheet;II)I"⟩, 3), (⟨"ThreeDots$Course", "draw", "(I)I"⟩, 6), (⟨"ThreeDots$Course", "answerMessages", "()V"⟩, 6), (⟨"ThreeDots$Course", "answerOne", "(I)V"⟩, 6), (⟨"ThreeDots$Reader", "cutOne", "(Ljava/lang/String;II)I"⟩, 10), (⟨"ThreeDots$Reader", "findWord", "(Ljava/lang/String;II)I"⟩, 10), (⟨"ThreeDots$Reader", "addToken", "(III)V"⟩, 10), (⟨"ThreeDots$Reader", "refuse", "(I)Z"⟩, 10), (⟨"ThreeDots$Reader", "parseLaw", "()Z"⟩, 10)]
theorem lw_r1 : ∀ q ∈ lw_privs_1, lw_okq q := List.forall_mem_cons.mpr ⟨lw_p0, List.forall_mem_cons.mpr ⟨lw_p1, List.forall_mem_cons.mpr ⟨lw_p2, List.forall_mem_cons.mpr ⟨lw_p3, List.forall_mem_cons.mpr ⟨lw_p4, List.forall_mem_cons.mpr ⟨lw_p5, List.forall_mem_cons.mpr ⟨lw_p6, List.forall_mem_cons.mpr ⟨lw_p7, List.forall_mem_cons.mpr ⟨lw_p8, List.forall_mem_cons.mpr ⟨lw_p9, List.forall_mem_cons.mpr ⟨lw_p10, List.forall_mem_cons.mpr ⟨lw_p11, List.forall_mem_cons.mpr ⟨lw_p12, List.forall_mem_cons.mpr ⟨lw_p13, List.forall_mem_cons.mpr ⟨lw_p14, List.forall_mem_cons.mpr ⟨lw_p15, fun _ h => absurd h List.not_mem_nil⟩⟩⟩⟩⟩⟩⟩⟩⟩⟩⟩⟩⟩⟩⟩⟩
theorem lw_p16 : lw_okq (⟨"ThreeDots$Reader", "advance", "()V"⟩, 10) := ⟨⟨by decide +kernel, by decide +kernel⟩, List.mem_of_getElem? (i := 222) (by decide +kernel), List.mem_of_getElem? (i := 683) (by decide +kernel), List.mem_of_getElem? (i := 684) (by decide +kernel)⟩
theorem lw_p17 : lw_okq (⟨"ThreeDots$Reader", "parseSum", "()Z"⟩, 10) := ⟨⟨by decide +kernel, by decide +kernel⟩, List.mem_of_getElem? (i := 222) (by decide +kernel), List.mem_of_getElem? (i := 687) (by decide +kernel), List.mem_of_getElem? (i := 688) (by decide +kernel)⟩
theorem lw_p18 : lw_okq (⟨"ThreeDots$Reader", "takeOperand", "()Z"⟩, 10) := ⟨⟨by decide +kernel, by decide +kernel⟩, List.mem_of_getElem? (i := 222) (by decide +kernel), List.mem_of_getElem? (i := 691) (by decide +kernel), List.mem_of_getElem? (i := 692) (by decide +kernel)⟩
theorem lw_p19 : lw_okq (⟨"ThreeDots$Reader", "takeParts", "()Z"⟩, 10) := ⟨⟨by decide +kernel, by decide +kernel⟩, List.mem_of_getElem? (i := 222) (by decide +kernel), List.mem_of_getElem? (i := 702) (by decide +kernel), List.mem_of_getElem? (i := 703) (by decide +kernel)⟩
theorem lw_p20 : lw_okq (⟨"ThreeDots$Reader", "isSign", "(I)Z"⟩, 10) := ⟨⟨by decide +kernel, by decide +kernel⟩, List.mem_of_getElem? (i := 222) (by decide +kernel), List.mem_of_getElem? (i := 706) (by decide +kernel), List.mem_of_getElem? (i := 707) (by decide +kernel)⟩
theorem lw_p21 : lw_okq (⟨"ThreeDots$Reader", "isWord", "(I)Z"⟩, 10) := ⟨⟨by decide +kernel, by decide +kernel⟩, List.mem_of_getElem? (i := 222) (by decide +kernel), List.mem_of_getElem? (i := 710) (by decide +kernel), List.mem_of_getElem? (i := 711) (by decide +kernel)⟩
theorem lw_p22 : lw_okq (⟨"ThreeDots$Reader", "parseCondition", "(I)Z"⟩, 10) := ⟨⟨by decide +kernel, by decide +kernel⟩, List.mem_of_getElem? (i := 222) (by decide +kernel), List.mem_of_getElem? (i := 714) (by decide +kernel), List.mem_of_getElem? (i := 715) (by decide +kernel)⟩
theorem lw_p23 : lw_okq (⟨"ThreeDots$Reader", "parseSingle", "(I)Z"⟩, 10) := ⟨⟨by decide +kernel, by decide +kernel⟩, List.mem_of_getElem? (i := 222) (by decide +kernel), List.mem_of_getElem? (i := 718) (by decide +kernel), List.mem_of_getElem? (i := 719) (by decide +kernel)⟩
theorem lw_p24 : lw_okq (⟨"ThreeDots$Reader", "takeSign", "(I)Z"⟩, 10) := ⟨⟨by decide +kernel, by decide +kernel⟩, List.mem_of_getElem? (i := 222) (by decide +kernel), List.mem_of_getElem? (i := 722) (by decide +kernel), List.mem_of_getElem? (i := 723) (by decide +kernel)⟩
theorem lw_p25 : lw_okq (⟨"ThreeDots$Reader", "comparisonHere", "()I"⟩, 10) := ⟨⟨by decide +kernel, by decide +kernel⟩, List.mem_of_getElem? (i := 222) (by decide +kernel), List.mem_of_getElem? (i := 726) (by decide +kernel), List.mem_of_getElem? (i := 727) (by decide +kernel)⟩
theorem lw_p26 : lw_okq (⟨"ThreeDots$Reader", "parseHours", "()Z"⟩, 10) := ⟨⟨by decide +kernel, by decide +kernel⟩, List.mem_of_getElem? (i := 222) (by decide +kernel), List.mem_of_getElem? (i := 730) (by decide +kernel), List.mem_of_getElem? (i := 731) (by decide +kernel)⟩
theorem lw_p27 : lw_okq (⟨"ThreeDots$Reader", "takeNumber", "(II)Z"⟩, 10) := ⟨⟨by decide +kernel, by decide +kernel⟩, List.mem_of_getElem? (i := 222) (by decide +kernel), List.mem_of_getElem? (i := 734) (by decide +kernel), List.mem_of_getElem? (i := 735) (by decide +kernel)⟩
theorem lw_p28 : lw_okq (⟨"ThreeDots$Reader", "takeWord", "(I)Z"⟩, 10) := ⟨⟨by decide +kernel, by decide +kernel⟩, List.mem_of_getElem? (i := 222) (by decide +kernel), List.mem_of_getElem? (i := 738) (by decide +kernel), List.mem_of_getElem? (i := 739) (by decide +kernel)⟩
theorem lw_p29 : lw_okq (⟨"ThreeDots$Reader", "takeDoing", "()Z"⟩, 10) := ⟨⟨by decide +kernel, by decide +kernel⟩, List.mem_of_getElem? (i := 222) (by decide +kernel), List.mem_of_getElem? (i := 742) (by decide +kernel), List.mem_of_getElem? (i := 743) (by decide +kernel)⟩
theorem lw_p30 : lw_okq (⟨"ThreeDots$Reader", "parseSaying", "()Z"⟩, 10) := ⟨⟨by decide +kernel, by decide +kernel⟩, List.mem_of_getElem? (i := 222) (by decide +kernel), List.mem_of_getElem? (i := 746) (by decide +kernel), List.mem_of_getElem? (i := 747) (by decide +kernel)⟩
theorem lw_p31 : lw_okq (⟨"ThreeDots$Reader", "parseHabit", "()Z"⟩, 10) := ⟨⟨by decide +kernel, by decide +kernel⟩, List.mem_of_getElem? (i := 222) (by decide +kernel), List.mem_of_getElem? (i := 750) (by decide +kernel), List.mem_of_getElem? (i := 751) (by decide +kernel)⟩
def lw_privs_2 : List (MethodName × Nat) := [(⟨"ThreeDots$Reader", "advance", "()V"⟩, 10), (⟨"ThreeDots$Reader", "parseSum", "()Z"⟩, 10), (⟨"ThreeDots$Reader", "takeOperand", "()Z"⟩, 10), (⟨"ThreeDots$Reader", "takeParts", "()Z"⟩, 10), (⟨"ThreeDots$Reader", "isSign", "(I)Z"⟩, 10), (⟨"ThreeDots$Reader", "isWord", "(I)Z"⟩, 10), (⟨"ThreeDots$Reader", "parseCondition", "(I)Z"⟩, 10), (⟨"ThreeDots$Reader", "parseSingle", "(I)Z"⟩, 10), (⟨"ThreeDots$Reader", "takeSign", "(I)Z"⟩, 10), (⟨"ThreeDots$Reader", "comparisonHere", "()I"⟩, 10), (⟨"ThreeDots$Reader", "parseHours", "()Z"⟩, 10), (⟨"ThreeDots$Reader", "takeNumber", "(II)Z"⟩, 10), (⟨"ThreeDots$Reader", "takeWord", "(I)Z"⟩, 10), (⟨"ThreeDots$Reader", "takeDoing", "()Z"⟩, 10), (⟨"ThreeDots$Reader", "parseSaying", "()Z"⟩, 10), (⟨"ThreeDots$Reader", "parseHabit", "()Z"⟩, 10)]
theorem lw_r2 : ∀ q ∈ lw_privs_2, lw_okq q := List.forall_mem_cons.mpr ⟨lw_p16, List.forall_mem_cons.mpr ⟨lw_p17, List.forall_mem_cons.mpr ⟨lw_p18, List.forall_mem_cons.mpr ⟨lw_p19, List.forall_mem_cons.mpr ⟨lw_p20, List.forall_mem_cons.mpr ⟨lw_p21, List.forall_mem_cons.mpr ⟨lw_p22, List.forall_mem_cons.mpr ⟨lw_p23, List.forall_mem_cons.mpr ⟨lw_p24, List.forall_mem_cons.mpr ⟨lw_p25, List.forall_mem_cons.mpr ⟨lw_p26, List.forall_mem_cons.mpr ⟨lw_p27, List.forall_mem_cons.mpr ⟨lw_p28, List.forall_mem_cons.mpr ⟨lw_p29, List.forall_mem_cons.mpr ⟨lw_p30, List.forall_mem_cons.mpr ⟨lw_p31, fun _ h => absurd h List.not_mem_nil⟩⟩⟩⟩⟩⟩⟩⟩⟩⟩⟩⟩⟩⟩⟩⟩
theorem lw_p32 : lw_okq (⟨"ThreeDots", "imagine", "()V"⟩, 10) := ⟨⟨by decide +kernel, by decide +kernel⟩, List.mem_of_getElem? (i := 19) (by decide +kernel), List.mem_of_getElem? (i := 790) (by decide +kernel), List.mem_of_getElem? (i := 791) (by decide +kernel)⟩
theorem lw_p33 : lw_okq (⟨"ThreeDots", "comesRound", "(I)I"⟩, 10) := ⟨⟨by decide +kernel, by decide +kernel⟩, List.mem_of_getElem? (i := 19) (by decide +kernel), List.mem_of_getElem? (i := 804) (by decide +kernel), List.mem_of_getElem? (i := 805) (by decide +kernel)⟩
theorem lw_p34 : lw_okq (⟨"ThreeDots$Glance", "insertPause", "(II)V"⟩, 5) := ⟨⟨by decide +kernel, by decide +kernel⟩, List.mem_of_getElem? (i := 310) (by decide +kernel), List.mem_of_getElem? (i := 982) (by decide +kernel), List.mem_of_getElem? (i := 983) (by decide +kernel)⟩
theorem lw_p35 : lw_okq (⟨"ThreeDots$Glance", "costOfCut", "(I)I"⟩, 5) := ⟨⟨by decide +kernel, by decide +kernel⟩, List.mem_of_getElem? (i := 310) (by decide +kernel), List.mem_of_getElem? (i := 990) (by decide +kernel), List.mem_of_getElem? (i := 991) (by decide +kernel)⟩
theorem lw_p36 : lw_okq (⟨"ThreeDots$Glance", "spread", "(II)I"⟩, 5) := ⟨⟨by decide +kernel, by decide +kernel⟩, List.mem_of_getElem? (i := 310) (by decide +kernel), List.mem_of_getElem? (i := 994) (by decide +kernel), List.mem_of_getElem? (i := 995) (by decide +kernel)⟩
theorem lw_p37 : lw_okq (⟨"ThreeDotsModel", "forgets", "()V"⟩, 35) := ⟨⟨by decide +kernel, by decide +kernel⟩, List.mem_of_getElem? (i := 1026) (by decide +kernel), List.mem_of_getElem? (i := 1142) (by decide +kernel), List.mem_of_getElem? (i := 1143) (by decide +kernel)⟩
theorem lw_p38 : lw_okq (⟨"ThreeDotsModel", "next0", "()V"⟩, 35) := ⟨⟨by decide +kernel, by decide +kernel⟩, List.mem_of_getElem? (i := 1026) (by decide +kernel), List.mem_of_getElem? (i := 1168) (by decide +kernel), List.mem_of_getElem? (i := 1169) (by decide +kernel)⟩
theorem lw_p39 : lw_okq (⟨"ThreeDotsModel", "see", "(I)I"⟩, 35) := ⟨⟨by decide +kernel, by decide +kernel⟩, List.mem_of_getElem? (i := 1026) (by decide +kernel), List.mem_of_getElem? (i := 1172) (by decide +kernel), List.mem_of_getElem? (i := 1173) (by decide +kernel)⟩
theorem lw_p40 : lw_okq (⟨"ThreeDotsModel", "word", "()I"⟩, 35) := ⟨⟨by decide +kernel, by decide +kernel⟩, List.mem_of_getElem? (i := 1026) (by decide +kernel), List.mem_of_getElem? (i := 1179) (by decide +kernel), List.mem_of_getElem? (i := 1180) (by decide +kernel)⟩
theorem lw_p41 : lw_okq (⟨"ThreeDotsModel", "lawWord", "()I"⟩, 35) := ⟨⟨by decide +kernel, by decide +kernel⟩, List.mem_of_getElem? (i := 1026) (by decide +kernel), List.mem_of_getElem? (i := 1183) (by decide +kernel), List.mem_of_getElem? (i := 1184) (by decide +kernel)⟩
theorem lw_p42 : lw_okq (⟨"ThreeDotsModel", "is", "(Ljava/lang/String;)Z"⟩, 35) := ⟨⟨by decide +kernel, by decide +kernel⟩, List.mem_of_getElem? (i := 1026) (by decide +kernel), List.mem_of_getElem? (i := 1188) (by decide +kernel), List.mem_of_getElem? (i := 1189) (by decide +kernel)⟩
theorem lw_p43 : lw_okq (⟨"ThreeDotsModel", "asked", "()I"⟩, 35) := ⟨⟨by decide +kernel, by decide +kernel⟩, List.mem_of_getElem? (i := 1026) (by decide +kernel), List.mem_of_getElem? (i := 1202) (by decide +kernel), List.mem_of_getElem? (i := 1203) (by decide +kernel)⟩
theorem lw_p44 : lw_okq (⟨"ThreeDotsModel", "hourWord", "()I"⟩, 35) := ⟨⟨by decide +kernel, by decide +kernel⟩, List.mem_of_getElem? (i := 1026) (by decide +kernel), List.mem_of_getElem? (i := 1216) (by decide +kernel), List.mem_of_getElem? (i := 1217) (by decide +kernel)⟩
theorem lw_p45 : lw_okq (⟨"ThreeDotsModel", "sayingWord", "()I"⟩, 35) := ⟨⟨by decide +kernel, by decide +kernel⟩, List.mem_of_getElem? (i := 1026) (by decide +kernel), List.mem_of_getElem? (i := 1225) (by decide +kernel), List.mem_of_getElem? (i := 1226) (by decide +kernel)⟩
theorem lw_p46 : lw_okq (⟨"ThreeDotsModel", "readsLaw", "()Z"⟩, 35) := ⟨⟨by decide +kernel, by decide +kernel⟩, List.mem_of_getElem? (i := 1026) (by decide +kernel), List.mem_of_getElem? (i := 1237) (by decide +kernel), List.mem_of_getElem? (i := 1238) (by decide +kernel)⟩
theorem lw_p47 : lw_okq (⟨"ThreeDotsModel", "aLine", "()Z"⟩, 35) := ⟨⟨by decide +kernel, by decide +kernel⟩, List.mem_of_getElem? (i := 1026) (by decide +kernel), List.mem_of_getElem? (i := 1241) (by decide +kernel), List.mem_of_getElem? (i := 1242) (by decide +kernel)⟩
def lw_privs_3 : List (MethodName × Nat) := [(⟨"ThreeDots", "imagine", "()V"⟩, 10), (⟨"ThreeDots", "comesRound", "(I)I"⟩, 10), (⟨"ThreeDots$Glance", "insertPause", "(II)V"⟩, 5), (⟨"ThreeDots$Glance", "costOfCut", "(I)I"⟩, 5), (⟨"ThreeDots$Glance", "spread", "(II)I"⟩, 5), (⟨"ThreeDotsModel", "forgets", "()V"⟩, 35), (⟨"ThreeDotsModel", "next0", "()V"⟩, 35), (⟨"ThreeDotsModel", "see", "(I)I"⟩, 35), (⟨"ThreeDotsModel", "word", "()I"⟩, 35), (⟨"ThreeDotsModel", "lawWord", "()I"⟩, 35), (⟨"ThreeDotsModel", "is", "(Ljava/lang/String;)Z"⟩, 35), (⟨"ThreeDotsModel", "asked", "()I"⟩, 35), (⟨"ThreeDotsModel", "hourWord", "()I"⟩, 35), (⟨"ThreeDotsModel", "sayingWord", "()I"⟩, 35), (⟨"ThreeDotsModel", "readsLaw", "()Z"⟩, 35), (⟨"ThreeDotsModel", "aLine", "()Z"⟩, 35)]
theorem lw_r3 : ∀ q ∈ lw_privs_3, lw_okq q := List.forall_mem_cons.mpr ⟨lw_p32, List.forall_mem_cons.mpr ⟨lw_p33, List.forall_mem_cons.mpr ⟨lw_p34, List.forall_mem_cons.mpr ⟨lw_p35, List.forall_mem_cons.mpr ⟨lw_p36, List.forall_mem_cons.mpr ⟨lw_p37, List.forall_mem_cons.mpr ⟨lw_p38, List.forall_mem_cons.mpr ⟨lw_p39, List.forall_mem_cons.mpr ⟨lw_p40, List.forall_mem_cons.mpr ⟨lw_p41, List.forall_mem_cons.mpr ⟨lw_p42, List.forall_mem_cons.mpr ⟨lw_p43, List.forall_mem_cons.mpr ⟨lw_p44, List.forall_mem_cons.mpr ⟨lw_p45, List.forall_mem_cons.mpr ⟨lw_p46, List.forall_mem_cons.mpr ⟨lw_p47, fun _ h => absurd h List.not_mem_nil⟩⟩⟩⟩⟩⟩⟩⟩⟩⟩⟩⟩⟩⟩⟩⟩
theorem lw_p48 : lw_okq (⟨"ThreeDotsModel", "bad", "(I)Z"⟩, 35) := ⟨⟨by decide +kernel, by decide +kernel⟩, List.mem_of_getElem? (i := 1026) (by decide +kernel), List.mem_of_getElem? (i := 1245) (by decide +kernel), List.mem_of_getElem? (i := 1246) (by decide +kernel)⟩
theorem lw_p49 : lw_okq (⟨"ThreeDotsModel", "sumUp", "()Z"⟩, 35) := ⟨⟨by decide +kernel, by decide +kernel⟩, List.mem_of_getElem? (i := 1026) (by decide +kernel), List.mem_of_getElem? (i := 1249) (by decide +kernel), List.mem_of_getElem? (i := 1250) (by decide +kernel)⟩
theorem lw_p50 : lw_okq (⟨"ThreeDotsModel", "product", "()Z"⟩, 35) := ⟨⟨by decide +kernel, by decide +kernel⟩, List.mem_of_getElem? (i := 1026) (by decide +kernel), List.mem_of_getElem? (i := 1253) (by decide +kernel), List.mem_of_getElem? (i := 1254) (by decide +kernel)⟩
theorem lw_p51 : lw_okq (⟨"ThreeDotsModel", "unit", "()Z"⟩, 35) := ⟨⟨by decide +kernel, by decide +kernel⟩, List.mem_of_getElem? (i := 1026) (by decide +kernel), List.mem_of_getElem? (i := 1257) (by decide +kernel), List.mem_of_getElem? (i := 1258) (by decide +kernel)⟩
theorem lw_p52 : lw_okq (⟨"ThreeDotsModel", "lay", "(II)V"⟩, 35) := ⟨⟨by decide +kernel, by decide +kernel⟩, List.mem_of_getElem? (i := 1026) (by decide +kernel), List.mem_of_getElem? (i := 1261) (by decide +kernel), List.mem_of_getElem? (i := 1262) (by decide +kernel)⟩
theorem lw_p53 : lw_okq (⟨"ThreeDotsModel", "any", "()Z"⟩, 35) := ⟨⟨by decide +kernel, by decide +kernel⟩, List.mem_of_getElem? (i := 1026) (by decide +kernel), List.mem_of_getElem? (i := 1265) (by decide +kernel), List.mem_of_getElem? (i := 1266) (by decide +kernel)⟩
theorem lw_p54 : lw_okq (⟨"ThreeDotsModel", "every", "()Z"⟩, 35) := ⟨⟨by decide +kernel, by decide +kernel⟩, List.mem_of_getElem? (i := 1026) (by decide +kernel), List.mem_of_getElem? (i := 1269) (by decide +kernel), List.mem_of_getElem? (i := 1270) (by decide +kernel)⟩
theorem lw_p55 : lw_okq (⟨"ThreeDotsModel", "oneTest", "()Z"⟩, 35) := ⟨⟨by decide +kernel, by decide +kernel⟩, List.mem_of_getElem? (i := 1026) (by decide +kernel), List.mem_of_getElem? (i := 1273) (by decide +kernel), List.mem_of_getElem? (i := 1274) (by decide +kernel)⟩
theorem lw_p56 : lw_okq (⟨"ThreeDotsModel", "opens", "()Z"⟩, 35) := ⟨⟨by decide +kernel, by decide +kernel⟩, List.mem_of_getElem? (i := 1026) (by decide +kernel), List.mem_of_getElem? (i := 1277) (by decide +kernel), List.mem_of_getElem? (i := 1278) (by decide +kernel)⟩
theorem lw_p57 : lw_okq (⟨"ThreeDotsModel", "need", "(I)Z"⟩, 35) := ⟨⟨by decide +kernel, by decide +kernel⟩, List.mem_of_getElem? (i := 1026) (by decide +kernel), List.mem_of_getElem? (i := 1281) (by decide +kernel), List.mem_of_getElem? (i := 1282) (by decide +kernel)⟩
theorem lw_p58 : lw_okq (⟨"ThreeDotsModel", "readsRows", "()Z"⟩, 35) := ⟨⟨by decide +kernel, by decide +kernel⟩, List.mem_of_getElem? (i := 1026) (by decide +kernel), List.mem_of_getElem? (i := 1285) (by decide +kernel), List.mem_of_getElem? (i := 1286) (by decide +kernel)⟩
theorem lw_p59 : lw_okq (⟨"ThreeDotsModel", "aRow", "()Z"⟩, 35) := ⟨⟨by decide +kernel, by decide +kernel⟩, List.mem_of_getElem? (i := 1026) (by decide +kernel), List.mem_of_getElem? (i := 1289) (by decide +kernel), List.mem_of_getElem? (i := 1290) (by decide +kernel)⟩
theorem lw_p60 : lw_okq (⟨"ThreeDotsModel", "anHour", "()Z"⟩, 35) := ⟨⟨by decide +kernel, by decide +kernel⟩, List.mem_of_getElem? (i := 1026) (by decide +kernel), List.mem_of_getElem? (i := 1293) (by decide +kernel), List.mem_of_getElem? (i := 1294) (by decide +kernel)⟩
theorem lw_p61 : lw_okq (⟨"ThreeDotsModel", "told", "(IIII)Z"⟩, 35) := ⟨⟨by decide +kernel, by decide +kernel⟩, List.mem_of_getElem? (i := 1026) (by decide +kernel), List.mem_of_getElem? (i := 1297) (by decide +kernel), List.mem_of_getElem? (i := 1298) (by decide +kernel)⟩
theorem lw_p62 : lw_okq (⟨"ThreeDotsModel", "number", "(III)Z"⟩, 35) := ⟨⟨by decide +kernel, by decide +kernel⟩, List.mem_of_getElem? (i := 1026) (by decide +kernel), List.mem_of_getElem? (i := 1301) (by decide +kernel), List.mem_of_getElem? (i := 1302) (by decide +kernel)⟩
theorem lw_p63 : lw_okq (⟨"ThreeDotsModel", "aSaying", "()Z"⟩, 35) := ⟨⟨by decide +kernel, by decide +kernel⟩, List.mem_of_getElem? (i := 1026) (by decide +kernel), List.mem_of_getElem? (i := 1305) (by decide +kernel), List.mem_of_getElem? (i := 1306) (by decide +kernel)⟩
def lw_privs_4 : List (MethodName × Nat) := [(⟨"ThreeDotsModel", "bad", "(I)Z"⟩, 35), (⟨"ThreeDotsModel", "sumUp", "()Z"⟩, 35), (⟨"ThreeDotsModel", "product", "()Z"⟩, 35), (⟨"ThreeDotsModel", "unit", "()Z"⟩, 35), (⟨"ThreeDotsModel", "lay", "(II)V"⟩, 35), (⟨"ThreeDotsModel", "any", "()Z"⟩, 35), (⟨"ThreeDotsModel", "every", "()Z"⟩, 35), (⟨"ThreeDotsModel", "oneTest", "()Z"⟩, 35), (⟨"ThreeDotsModel", "opens", "()Z"⟩, 35), (⟨"ThreeDotsModel", "need", "(I)Z"⟩, 35), (⟨"ThreeDotsModel", "readsRows", "()Z"⟩, 35), (⟨"ThreeDotsModel", "aRow", "()Z"⟩, 35), (⟨"ThreeDotsModel", "anHour", "()Z"⟩, 35), (⟨"ThreeDotsModel", "told", "(IIII)Z"⟩, 35), (⟨"ThreeDotsModel", "number", "(III)Z"⟩, 35), (⟨"ThreeDotsModel", "aSaying", "()Z"⟩, 35)]
theorem lw_r4 : ∀ q ∈ lw_privs_4, lw_okq q := List.forall_mem_cons.mpr ⟨lw_p48, List.forall_mem_cons.mpr ⟨lw_p49, List.forall_mem_cons.mpr ⟨lw_p50, List.forall_mem_cons.mpr ⟨lw_p51, List.forall_mem_cons.mpr ⟨lw_p52, List.forall_mem_cons.mpr ⟨lw_p53, List.forall_mem_cons.mpr ⟨lw_p54, List.forall_mem_cons.mpr ⟨lw_p55, List.forall_mem_cons.mpr ⟨lw_p56, List.forall_mem_cons.mpr ⟨lw_p57, List.forall_mem_cons.mpr ⟨lw_p58, List.forall_mem_cons.mpr ⟨lw_p59, List.forall_mem_cons.mpr ⟨lw_p60, List.forall_mem_cons.mpr ⟨lw_p61, List.forall_mem_cons.mpr ⟨lw_p62, List.forall_mem_cons.mpr ⟨lw_p63, fun _ h => absurd h List.not_mem_nil⟩⟩⟩⟩⟩⟩⟩⟩⟩⟩⟩⟩⟩⟩⟩⟩
theorem lw_p64 : lw_okq (⟨"ThreeDotsModel", "aHabit", "()Z"⟩, 35) := ⟨⟨by decide +kernel, by decide +kernel⟩, List.mem_of_getElem? (i := 1026) (by decide +kernel), List.mem_of_getElem? (i := 1309) (by decide +kernel), List.mem_of_getElem? (i := 1310) (by decide +kernel)⟩
theorem lw_p65 : lw_okq (⟨"ThreeDotsModel", "putsText", "(I)I"⟩, 35) := ⟨⟨by decide +kernel, by decide +kernel⟩, List.mem_of_getElem? (i := 1026) (by decide +kernel), List.mem_of_getElem? (i := 1313) (by decide +kernel), List.mem_of_getElem? (i := 1314) (by decide +kernel)⟩
theorem lw_p66 : lw_okq (⟨"ThreeDotsModel", "putsLaw", "()I"⟩, 35) := ⟨⟨by decide +kernel, by decide +kernel⟩, List.mem_of_getElem? (i := 1026) (by decide +kernel), List.mem_of_getElem? (i := 1317) (by decide +kernel), List.mem_of_getElem? (i := 1318) (by decide +kernel)⟩
theorem lw_p67 : lw_okq (⟨"ThreeDotsModel", "puts", "(III)I"⟩, 35) := ⟨⟨by decide +kernel, by decide +kernel⟩, List.mem_of_getElem? (i := 1026) (by decide +kernel), List.mem_of_getElem? (i := 1321) (by decide +kernel), List.mem_of_getElem? (i := 1322) (by decide +kernel)⟩
theorem lw_p68 : lw_okq (⟨"ThreeDotsModel", "keeps", "()V"⟩, 35) := ⟨⟨by decide +kernel, by decide +kernel⟩, List.mem_of_getElem? (i := 1026) (by decide +kernel), List.mem_of_getElem? (i := 1337) (by decide +kernel), List.mem_of_getElem? (i := 1338) (by decide +kernel)⟩
theorem lw_p69 : lw_okq (⟨"ThreeDotsModel", "saysNow", "(IIII)I"⟩, 35) := ⟨⟨by decide +kernel, by decide +kernel⟩, List.mem_of_getElem? (i := 1026) (by decide +kernel), List.mem_of_getElem? (i := 1341) (by decide +kernel), List.mem_of_getElem? (i := 1342) (by decide +kernel)⟩
theorem lw_p70 : lw_okq (⟨"ThreeDotsModel", "comes", "(IIIII)I"⟩, 35) := ⟨⟨by decide +kernel, by decide +kernel⟩, List.mem_of_getElem? (i := 1026) (by decide +kernel), List.mem_of_getElem? (i := 1345) (by decide +kernel), List.mem_of_getElem? (i := 1346) (by decide +kernel)⟩
theorem lw_p71 : lw_okq (⟨"ThreeDotsModel", "puts0", "(III)V"⟩, 35) := ⟨⟨by decide +kernel, by decide +kernel⟩, List.mem_of_getElem? (i := 1026) (by decide +kernel), List.mem_of_getElem? (i := 1349) (by decide +kernel), List.mem_of_getElem? (i := 1350) (by decide +kernel)⟩
theorem lw_p72 : lw_okq (⟨"ThreeDotsModel", "notes", "(III)V"⟩, 35) := ⟨⟨by decide +kernel, by decide +kernel⟩, List.mem_of_getElem? (i := 1026) (by decide +kernel), List.mem_of_getElem? (i := 1353) (by decide +kernel), List.mem_of_getElem? (i := 1354) (by decide +kernel)⟩
theorem lw_p73 : lw_okq (⟨"ThreeDotsModel", "isMessage", "(I)Z"⟩, 35) := ⟨⟨by decide +kernel, by decide +kernel⟩, List.mem_of_getElem? (i := 1026) (by decide +kernel), List.mem_of_getElem? (i := 1361) (by decide +kernel), List.mem_of_getElem? (i := 1362) (by decide +kernel)⟩
theorem lw_p74 : lw_okq (⟨"ThreeDotsModel", "isUnread", "(I)Z"⟩, 35) := ⟨⟨by decide +kernel, by decide +kernel⟩, List.mem_of_getElem? (i := 1026) (by decide +kernel), List.mem_of_getElem? (i := 1365) (by decide +kernel), List.mem_of_getElem? (i := 1366) (by decide +kernel)⟩
theorem lw_p75 : lw_okq (⟨"ThreeDotsModel", "of0", "(II)I"⟩, 35) := ⟨⟨by decide +kernel, by decide +kernel⟩, List.mem_of_getElem? (i := 1026) (by decide +kernel), List.mem_of_getElem? (i := 1369) (by decide +kernel), List.mem_of_getElem? (i := 1370) (by decide +kernel)⟩
theorem lw_p76 : lw_okq (⟨"ThreeDotsModel", "isBack", "(I)Z"⟩, 35) := ⟨⟨by decide +kernel, by decide +kernel⟩, List.mem_of_getElem? (i := 1026) (by decide +kernel), List.mem_of_getElem? (i := 1373) (by decide +kernel), List.mem_of_getElem? (i := 1374) (by decide +kernel)⟩
theorem lw_p77 : lw_okq (⟨"ThreeDotsModel", "takesBack", "(I)V"⟩, 35) := ⟨⟨by decide +kernel, by decide +kernel⟩, List.mem_of_getElem? (i := 1026) (by decide +kernel), List.mem_of_getElem? (i := 1377) (by decide +kernel), List.mem_of_getElem? (i := 1378) (by decide +kernel)⟩
theorem lw_p78 : lw_okq (⟨"ThreeDotsModel", "aMinute", "()I"⟩, 35) := ⟨⟨by decide +kernel, by decide +kernel⟩, List.mem_of_getElem? (i := 1026) (by decide +kernel), List.mem_of_getElem? (i := 1393) (by decide +kernel), List.mem_of_getElem? (i := 1394) (by decide +kernel)⟩
theorem lw_p79 : lw_okq (⟨"ThreeDotsModel", "doesSaying", "(I)V"⟩, 35) := ⟨⟨by decide +kernel, by decide +kernel⟩, List.mem_of_getElem? (i := 1026) (by decide +kernel), List.mem_of_getElem? (i := 1397) (by decide +kernel), List.mem_of_getElem? (i := 1398) (by decide +kernel)⟩
def lw_privs_5 : List (MethodName × Nat) := [(⟨"ThreeDotsModel", "aHabit", "()Z"⟩, 35), (⟨"ThreeDotsModel", "putsText", "(I)I"⟩, 35), (⟨"ThreeDotsModel", "putsLaw", "()I"⟩, 35), (⟨"ThreeDotsModel", "puts", "(III)I"⟩, 35), (⟨"ThreeDotsModel", "keeps", "()V"⟩, 35), (⟨"ThreeDotsModel", "saysNow", "(IIII)I"⟩, 35), (⟨"ThreeDotsModel", "comes", "(IIIII)I"⟩, 35), (⟨"ThreeDotsModel", "puts0", "(III)V"⟩, 35), (⟨"ThreeDotsModel", "notes", "(III)V"⟩, 35), (⟨"ThreeDotsModel", "isMessage", "(I)Z"⟩, 35), (⟨"ThreeDotsModel", "isUnread", "(I)Z"⟩, 35), (⟨"ThreeDotsModel", "of0", "(II)I"⟩, 35), (⟨"ThreeDotsModel", "isBack", "(I)Z"⟩, 35), (⟨"ThreeDotsModel", "takesBack", "(I)V"⟩, 35), (⟨"ThreeDotsModel", "aMinute", "()I"⟩, 35), (⟨"ThreeDotsModel", "doesSaying", "(I)V"⟩, 35)]
theorem lw_r5 : ∀ q ∈ lw_privs_5, lw_okq q := List.forall_mem_cons.mpr ⟨lw_p64, List.forall_mem_cons.mpr ⟨lw_p65, List.forall_mem_cons.mpr ⟨lw_p66, List.forall_mem_cons.mpr ⟨lw_p67, List.forall_mem_cons.mpr ⟨lw_p68, List.forall_mem_cons.mpr ⟨lw_p69, List.forall_mem_cons.mpr ⟨lw_p70, List.forall_mem_cons.mpr ⟨lw_p71, List.forall_mem_cons.mpr ⟨lw_p72, List.forall_mem_cons.mpr ⟨lw_p73, List.forall_mem_cons.mpr ⟨lw_p74, List.forall_mem_cons.mpr ⟨lw_p75, List.forall_mem_cons.mpr ⟨lw_p76, List.forall_mem_cons.mpr ⟨lw_p77, List.forall_mem_cons.mpr ⟨lw_p78, List.forall_mem_cons.mpr ⟨lw_p79, fun _ h => absurd h List.not_mem_nil⟩⟩⟩⟩⟩⟩⟩⟩⟩⟩⟩⟩⟩⟩⟩⟩
theorem lw_p80 : lw_okq (⟨"ThreeDotsModel", "deletesLatest", "(I)V"⟩, 35) := ⟨⟨by decide +kernel, by decide +kernel⟩, List.mem_of_getElem? (i := 1026) (by decide +kernel), List.mem_of_getElem? (i := 1401) (by decide +kernel), List.mem_of_getElem? (i := 1402) (by decide +kernel)⟩
theorem lw_p81 : lw_okq (⟨"ThreeDotsModel", "goesTo", "(I)I"⟩, 35) := ⟨⟨by decide +kernel, by decide +kernel⟩, List.mem_of_getElem? (i := 1026) (by decide +kernel), List.mem_of_getElem? (i := 1405) (by decide +kernel), List.mem_of_getElem? (i := 1406) (by decide +kernel)⟩
theorem lw_p82 : lw_okq (⟨"ThreeDotsModel", "hourNow", "()I"⟩, 35) := ⟨⟨by decide +kernel, by decide +kernel⟩, List.mem_of_getElem? (i := 1026) (by decide +kernel), List.mem_of_getElem? (i := 1409) (by decide +kernel), List.mem_of_getElem? (i := 1410) (by decide +kernel)⟩
theorem lw_p83 : lw_okq (⟨"ThreeDotsModel", "canRead", "(II)Z"⟩, 35) := ⟨⟨by decide +kernel, by decide +kernel⟩, List.mem_of_getElem? (i := 1026) (by decide +kernel), List.mem_of_getElem? (i := 1413) (by decide +kernel), List.mem_of_getElem? (i := 1414) (by decide +kernel)⟩
theorem lw_p84 : lw_okq (⟨"ThreeDotsModel", "isIn0", "(II)I"⟩, 35) := ⟨⟨by decide +kernel, by decide +kernel⟩, List.mem_of_getElem? (i := 1026) (by decide +kernel), List.mem_of_getElem? (i := 1417) (by decide +kernel), List.mem_of_getElem? (i := 1418) (by decide +kernel)⟩
theorem lw_p85 : lw_okq (⟨"ThreeDotsModel", "reads0", "(I)V"⟩, 35) := ⟨⟨by decide +kernel, by decide +kernel⟩, List.mem_of_getElem? (i := 1026) (by decide +kernel), List.mem_of_getElem? (i := 1421) (by decide +kernel), List.mem_of_getElem? (i := 1422) (by decide +kernel)⟩
theorem lw_p86 : lw_okq (⟨"ThreeDotsModel", "laysMessage", "(I)V"⟩, 35) := ⟨⟨by decide +kernel, by decide +kernel⟩, List.mem_of_getElem? (i := 1026) (by decide +kernel), List.mem_of_getElem? (i := 1425) (by decide +kernel), List.mem_of_getElem? (i := 1426) (by decide +kernel)⟩
theorem lw_p87 : lw_okq (⟨"ThreeDotsModel", "lays", "(IIII)V"⟩, 35) := ⟨⟨by decide +kernel, by decide +kernel⟩, List.mem_of_getElem? (i := 1026) (by decide +kernel), List.mem_of_getElem? (i := 1429) (by decide +kernel), List.mem_of_getElem? (i := 1430) (by decide +kernel)⟩
theorem lw_p88 : lw_okq (⟨"ThreeDotsModel", "hurtNow", "()I"⟩, 35) := ⟨⟨by decide +kernel, by decide +kernel⟩, List.mem_of_getElem? (i := 1026) (by decide +kernel), List.mem_of_getElem? (i := 1433) (by decide +kernel), List.mem_of_getElem? (i := 1434) (by decide +kernel)⟩
theorem lw_p89 : lw_okq (⟨"ThreeDotsModel", "says", "(IIII)I"⟩, 35) := ⟨⟨by decide +kernel, by decide +kernel⟩, List.mem_of_getElem? (i := 1026) (by decide +kernel), List.mem_of_getElem? (i := 1437) (by decide +kernel), List.mem_of_getElem? (i := 1438) (by decide +kernel)⟩
theorem lw_p90 : lw_okq (⟨"ThreeDotsModel", "isSo", "(I)Z"⟩, 35) := ⟨⟨by decide +kernel, by decide +kernel⟩, List.mem_of_getElem? (i := 1026) (by decide +kernel), List.mem_of_getElem? (i := 1441) (by decide +kernel), List.mem_of_getElem? (i := 1442) (by decide +kernel)⟩
theorem lw_p91 : lw_okq (⟨"ThreeDotsModel", "comesTo", "(III)I"⟩, 35) := ⟨⟨by decide +kernel, by decide +kernel⟩, List.mem_of_getElem? (i := 1026) (by decide +kernel), List.mem_of_getElem? (i := 1445) (by decide +kernel), List.mem_of_getElem? (i := 1446) (by decide +kernel)⟩
theorem lw_p92 : lw_okq (⟨"ThreeDotsModel", "goNow", "()I"⟩, 35) := ⟨⟨by decide +kernel, by decide +kernel⟩, List.mem_of_getElem? (i := 1026) (by decide +kernel), List.mem_of_getElem? (i := 1458) (by decide +kernel), List.mem_of_getElem? (i := 1459) (by decide +kernel)⟩
theorem lw_p93 : lw_okq (⟨"ThreeDotsModel", "draw", "(I)I"⟩, 35) := ⟨⟨by decide +kernel, by decide +kernel⟩, List.mem_of_getElem? (i := 1026) (by decide +kernel), List.mem_of_getElem? (i := 1462) (by decide +kernel), List.mem_of_getElem? (i := 1463) (by decide +kernel)⟩
theorem lw_p94 : lw_okq (⟨"ThreeDotsModel", "delayNow", "()I"⟩, 35) := ⟨⟨by decide +kernel, by decide +kernel⟩, List.mem_of_getElem? (i := 1026) (by decide +kernel), List.mem_of_getElem? (i := 1468) (by decide +kernel), List.mem_of_getElem? (i := 1469) (by decide +kernel)⟩
theorem lw_p95 : lw_okq (⟨"ThreeDotsModel", "answers", "(I)V"⟩, 35) := ⟨⟨by decide +kernel, by decide +kernel⟩, List.mem_of_getElem? (i := 1026) (by decide +kernel), List.mem_of_getElem? (i := 1472) (by decide +kernel), List.mem_of_getElem? (i := 1473) (by decide +kernel)⟩
def lw_privs_6 : List (MethodName × Nat) := [(⟨"ThreeDotsModel", "deletesLatest", "(I)V"⟩, 35), (⟨"ThreeDotsModel", "goesTo", "(I)I"⟩, 35), (⟨"ThreeDotsModel", "hourNow", "()I"⟩, 35), (⟨"ThreeDotsModel", "canRead", "(II)Z"⟩, 35), (⟨"ThreeDotsModel", "isIn0", "(II)I"⟩, 35), (⟨"ThreeDotsModel", "reads0", "(I)V"⟩, 35), (⟨"ThreeDotsModel", "laysMessage", "(I)V"⟩, 35), (⟨"ThreeDotsModel", "lays", "(IIII)V"⟩, 35), (⟨"ThreeDotsModel", "hurtNow", "()I"⟩, 35), (⟨"ThreeDotsModel", "says", "(IIII)I"⟩, 35), (⟨"ThreeDotsModel", "isSo", "(I)Z"⟩, 35), (⟨"ThreeDotsModel", "comesTo", "(III)I"⟩, 35), (⟨"ThreeDotsModel", "goNow", "()I"⟩, 35), (⟨"ThreeDotsModel", "draw", "(I)I"⟩, 35), (⟨"ThreeDotsModel", "delayNow", "()I"⟩, 35), (⟨"ThreeDotsModel", "answers", "(I)V"⟩, 35)]
theorem lw_r6 : ∀ q ∈ lw_privs_6, lw_okq q := List.forall_mem_cons.mpr ⟨lw_p80, List.forall_mem_cons.mpr ⟨lw_p81, List.forall_mem_cons.mpr ⟨lw_p82, List.forall_mem_cons.mpr ⟨lw_p83, List.forall_mem_cons.mpr ⟨lw_p84, List.forall_mem_cons.mpr ⟨lw_p85, List.forall_mem_cons.mpr ⟨lw_p86, List.forall_mem_cons.mpr ⟨lw_p87, List.forall_mem_cons.mpr ⟨lw_p88, List.forall_mem_cons.mpr ⟨lw_p89, List.forall_mem_cons.mpr ⟨lw_p90, List.forall_mem_cons.mpr ⟨lw_p91, List.forall_mem_cons.mpr ⟨lw_p92, List.forall_mem_cons.mpr ⟨lw_p93, List.forall_mem_cons.mpr ⟨lw_p94, List.forall_mem_cons.mpr ⟨lw_p95, fun _ h => absurd h List.not_mem_nil⟩⟩⟩⟩⟩⟩⟩⟩⟩⟩⟩⟩⟩⟩⟩⟩
theorem lw_p96 : lw_okq (⟨"ThreeDotsModel", "lastsNow", "()I"⟩, 35) := ⟨⟨by decide +kernel, by decide +kernel⟩, List.mem_of_getElem? (i := 1026) (by decide +kernel), List.mem_of_getElem? (i := 1476) (by decide +kernel), List.mem_of_getElem? (i := 1477) (by decide +kernel)⟩
theorem lw_p97 : lw_okq (⟨"ThreeDotsModel", "kissNow", "()I"⟩, 35) := ⟨⟨by decide +kernel, by decide +kernel⟩, List.mem_of_getElem? (i := 1026) (by decide +kernel), List.mem_of_getElem? (i := 1480) (by decide +kernel), List.mem_of_getElem? (i := 1481) (by decide +kernel)⟩
theorem lw_p98 : lw_okq (⟨"ThreeDotsModel", "laysAside", "()V"⟩, 35) := ⟨⟨by decide +kernel, by decide +kernel⟩, List.mem_of_getElem? (i := 1026) (by decide +kernel), List.mem_of_getElem? (i := 1504) (by decide +kernel), List.mem_of_getElem? (i := 1505) (by decide +kernel)⟩
theorem lw_p99 : lw_okq (⟨"ThreeDotsModel", "lastFrom", "()I"⟩, 35) := ⟨⟨by decide +kernel, by decide +kernel⟩, List.mem_of_getElem? (i := 1026) (by decide +kernel), List.mem_of_getElem? (i := 1508) (by decide +kernel), List.mem_of_getElem? (i := 1509) (by decide +kernel)⟩
theorem lw_p100 : lw_okq (⟨"ThreeDotsModel", "putsBack", "()V"⟩, 35) := ⟨⟨by decide +kernel, by decide +kernel⟩, List.mem_of_getElem? (i := 1026) (by decide +kernel), List.mem_of_getElem? (i := 1512) (by decide +kernel), List.mem_of_getElem? (i := 1513) (by decide +kernel)⟩
theorem lw_p101 : lw_okq (⟨"ThreeDotsModel", "areSigns", "(I)Z"⟩, 35) := ⟨⟨by decide +kernel, by decide +kernel⟩, List.mem_of_getElem? (i := 1026) (by decide +kernel), List.mem_of_getElem? (i := 1540) (by decide +kernel), List.mem_of_getElem? (i := 1541) (by decide +kernel)⟩
theorem lw_p102 : lw_okq (⟨"ThreeDotsModel", "bySign", "(JIZ)J"⟩, 35) := ⟨⟨by decide +kernel, by decide +kernel⟩, List.mem_of_getElem? (i := 1026) (by decide +kernel), List.mem_of_getElem? (i := 1545) (by decide +kernel), List.mem_of_getElem? (i := 1546) (by decide +kernel)⟩
theorem lw_p103 : lw_okq (⟨"ThreeDotsModel", "isWaiting", "(II)Z"⟩, 35) := ⟨⟨by decide +kernel, by decide +kernel⟩, List.mem_of_getElem? (i := 1026) (by decide +kernel), List.mem_of_getElem? (i := 1564) (by decide +kernel), List.mem_of_getElem? (i := 1565) (by decide +kernel)⟩
theorem lw_p104 : lw_okq (⟨"ThreeDotsModel", "isAnswered", "(I)Z"⟩, 35) := ⟨⟨by decide +kernel, by decide +kernel⟩, List.mem_of_getElem? (i := 1026) (by decide +kernel), List.mem_of_getElem? (i := 1568) (by decide +kernel), List.mem_of_getElem? (i := 1569) (by decide +kernel)⟩
theorem lw_p105 : lw_okq (⟨"ThreeDotsModel", "isAnswer", "(I)Z"⟩, 35) := ⟨⟨by decide +kernel, by decide +kernel⟩, List.mem_of_getElem? (i := 1026) (by decide +kernel), List.mem_of_getElem? (i := 1580) (by decide +kernel), List.mem_of_getElem? (i := 1581) (by decide +kernel)⟩
theorem lw_p106 : lw_okq (⟨"ThreeDotsModel", "pauseOf", "(I)I"⟩, 35) := ⟨⟨by decide +kernel, by decide +kernel⟩, List.mem_of_getElem? (i := 1026) (by decide +kernel), List.mem_of_getElem? (i := 1584) (by decide +kernel), List.mem_of_getElem? (i := 1585) (by decide +kernel)⟩
theorem lw_p107 : lw_okq (⟨"ThreeDotsModel", "laysPauses", "()I"⟩, 35) := ⟨⟨by decide +kernel, by decide +kernel⟩, List.mem_of_getElem? (i := 1026) (by decide +kernel), List.mem_of_getElem? (i := 1592) (by decide +kernel), List.mem_of_getElem? (i := 1593) (by decide +kernel)⟩
theorem lw_p108 : lw_okq (⟨"ThreeDotsModel", "farFromMiddle", "(II)I"⟩, 35) := ⟨⟨by decide +kernel, by decide +kernel⟩, List.mem_of_getElem? (i := 1026) (by decide +kernel), List.mem_of_getElem? (i := 1596) (by decide +kernel), List.mem_of_getElem? (i := 1597) (by decide +kernel)⟩
theorem lw_p109 : lw_okq (⟨"ThreeDotsModel", "isBusOf", "(II)Z"⟩, 35) := ⟨⟨by decide +kernel, by decide +kernel⟩, List.mem_of_getElem? (i := 1026) (by decide +kernel), List.mem_of_getElem? (i := 1611) (by decide +kernel), List.mem_of_getElem? (i := 1612) (by decide +kernel)⟩
theorem lw_p110 : lw_okq (⟨"ThreeDotsModel", "heapOf", "(I)I"⟩, 35) := ⟨⟨by decide +kernel, by decide +kernel⟩, List.mem_of_getElem? (i := 1026) (by decide +kernel), List.mem_of_getElem? (i := 1619) (by decide +kernel), List.mem_of_getElem? (i := 1620) (by decide +kernel)⟩
theorem lw_p111 : lw_okq (⟨"ThreeDotsModel", "haveCrossed", "(II)Z"⟩, 35) := ⟨⟨by decide +kernel, by decide +kernel⟩, List.mem_of_getElem? (i := 1026) (by decide +kernel), List.mem_of_getElem? (i := 1639) (by decide +kernel), List.mem_of_getElem? (i := 1640) (by decide +kernel)⟩
def lw_privs_7 : List (MethodName × Nat) := [(⟨"ThreeDotsModel", "lastsNow", "()I"⟩, 35), (⟨"ThreeDotsModel", "kissNow", "()I"⟩, 35), (⟨"ThreeDotsModel", "laysAside", "()V"⟩, 35), (⟨"ThreeDotsModel", "lastFrom", "()I"⟩, 35), (⟨"ThreeDotsModel", "putsBack", "()V"⟩, 35), (⟨"ThreeDotsModel", "areSigns", "(I)Z"⟩, 35), (⟨"ThreeDotsModel", "bySign", "(JIZ)J"⟩, 35), (⟨"ThreeDotsModel", "isWaiting", "(II)Z"⟩, 35), (⟨"ThreeDotsModel", "isAnswered", "(I)Z"⟩, 35), (⟨"ThreeDotsModel", "isAnswer", "(I)Z"⟩, 35), (⟨"ThreeDotsModel", "pauseOf", "(I)I"⟩, 35), (⟨"ThreeDotsModel", "laysPauses", "()I"⟩, 35), (⟨"ThreeDotsModel", "farFromMiddle", "(II)I"⟩, 35), (⟨"ThreeDotsModel", "isBusOf", "(II)Z"⟩, 35), (⟨"ThreeDotsModel", "heapOf", "(I)I"⟩, 35), (⟨"ThreeDotsModel", "haveCrossed", "(II)Z"⟩, 35)]
theorem lw_r7 : ∀ q ∈ lw_privs_7, lw_okq q := List.forall_mem_cons.mpr ⟨lw_p96, List.forall_mem_cons.mpr ⟨lw_p97, List.forall_mem_cons.mpr ⟨lw_p98, List.forall_mem_cons.mpr ⟨lw_p99, List.forall_mem_cons.mpr ⟨lw_p100, List.forall_mem_cons.mpr ⟨lw_p101, List.forall_mem_cons.mpr ⟨lw_p102, List.forall_mem_cons.mpr ⟨lw_p103, List.forall_mem_cons.mpr ⟨lw_p104, List.forall_mem_cons.mpr ⟨lw_p105, List.forall_mem_cons.mpr ⟨lw_p106, List.forall_mem_cons.mpr ⟨lw_p107, List.forall_mem_cons.mpr ⟨lw_p108, List.forall_mem_cons.mpr ⟨lw_p109, List.forall_mem_cons.mpr ⟨lw_p110, List.forall_mem_cons.mpr ⟨lw_p111, fun _ h => absurd h List.not_mem_nil⟩⟩⟩⟩⟩⟩⟩⟩⟩⟩⟩⟩⟩⟩⟩⟩
def lw_privs : List (MethodName × Nat) := lw_privs_1 ++ (lw_privs_2 ++ (lw_privs_3 ++ (lw_privs_4 ++ (lw_privs_5 ++ (lw_privs_6 ++ (lw_privs_7))))))
def lw_tbl : List Cond := k2_sels lw_privs ++ tables_1
theorem lw_privs_ok : ∀ q ∈ lw_privs, lw_okq q := by
  show ∀ q ∈ lw_privs_1 ++ (lw_privs_2 ++ (lw_privs_3 ++ (lw_privs_4 ++ (lw_privs_5 ++ (lw_privs_6 ++ (lw_privs_7)))))), lw_okq q
  exact List.forall_mem_append.mpr ⟨lw_r1, List.forall_mem_append.mpr ⟨lw_r2, List.forall_mem_append.mpr ⟨lw_r3, List.forall_mem_append.mpr ⟨lw_r4, List.forall_mem_append.mpr ⟨lw_r5, List.forall_mem_append.mpr ⟨lw_r6, lw_r7⟩⟩⟩⟩⟩⟩
def RX0 : String := "ThreeDots$Course"
def TX0 : u_T := fun k => match k with
  | 0 => ("ThreeDots$Course", "world", "LThreeDots$World;", true)
  | 1 => ("ThreeDots$Course", "judge", "LThreeDots$Judge;", true)
  | 2 => ("ThreeDots$Course", "talk", "LThreeDots$Talk;", false)
  | 3 => ("ThreeDots$Course", "inThought", "Z", false)
  | 4 => ("ThreeDots$Course", "paced", "I", false)
  | _ => ("ThreeDots$Course", "pace", "I", false)
def tyX0 : Nat → FieldType := fun k => match k with
  | 0 => .object "ThreeDots$World"
  | 1 => .object "ThreeDots$Judge"
  | 2 => .object "ThreeDots$Talk"
  | 3 => .boolean
  | 4 => .int
  | _ => .int
abbrev wsX00 : List Cond := u_ws RX0 TX0 6
theorem nmX0 : ∀ a, a < 6 → ∀ b, b < 6 → a ≠ b → (TX0 a).2.1 ≠ (TX0 b).2.1 := by decide +kernel
theorem tyX0_ok : ∀ k, k < 6 → parseFieldDescriptor (TX0 k).2.2.1 = some (tyX0 k) := by decide +kernel
abbrev cX0_init : ByteArray := prog_2_method_1_code
def yX0_init : MethodName := ⟨RX0, "<init>", "(LThreeDots$World;LThreeDots$Judge;)V"⟩
abbrev cX0_begin : ByteArray := prog_2_method_2_code
def yX0_begin : MethodName := ⟨RX0, "begin", "(LThreeDots$Talk;Z)V"⟩
abbrev cX0_keepPace : ByteArray := prog_2_method_3_code
def yX0_keepPace : MethodName := ⟨RX0, "keepPace", "(II)V"⟩
abbrev cX0_go : ByteArray := prog_2_method_4_code
def yX0_go : MethodName := ⟨RX0, "go", "(I)V"⟩
abbrev cX0_quietUntil : ByteArray := prog_2_method_5_code
def yX0_quietUntil : MethodName := ⟨RX0, "quietUntil", "()I"⟩
abbrev cX0_someoneCanRead : ByteArray := prog_2_method_6_code
def yX0_someoneCanRead : MethodName := ⟨RX0, "someoneCanRead", "()Z"⟩
abbrev cX0_pass : ByteArray := prog_2_method_7_code
def yX0_pass : MethodName := ⟨RX0, "pass", "()V"⟩
abbrev cX0_utter : ByteArray := prog_2_method_8_code
def yX0_utter : MethodName := ⟨RX0, "utter", "(IIII)I"⟩
abbrev cX0_withdraw : ByteArray := prog_2_method_9_code
def yX0_withdraw : MethodName := ⟨RX0, "withdraw", "(I)V"⟩
abbrev cX0_withdrawSet : ByteArray := prog_2_method_10_code
def yX0_withdrawSet : MethodName := ⟨RX0, "withdrawSet", "(II)V"⟩
abbrev cX0_ringUp : ByteArray := prog_2_method_11_code
def yX0_ringUp : MethodName := ⟨RX0, "ringUp", "()V"⟩
abbrev cX0_note : ByteArray := prog_2_method_12_code
def yX0_note : MethodName := ⟨RX0, "note", "(III)V"⟩
abbrev cX0_followSayings : ByteArray := prog_2_method_13_code
def yX0_followSayings : MethodName := ⟨RX0, "followSayings", "()V"⟩
abbrev cX0_readMessages : ByteArray := prog_2_method_14_code
def yX0_readMessages : MethodName := ⟨RX0, "readMessages", "()V"⟩
abbrev cX0_readOne : ByteArray := prog_2_method_15_code
def yX0_readOne : MethodName := ⟨RX0, "readOne", "(I)V"⟩
abbrev cX0_answerMessages : ByteArray := prog_2_method_16_code
def yX0_answerMessages : MethodName := ⟨RX0, "answerMessages", "()V"⟩
abbrev cX0_answerOne : ByteArray := prog_2_method_17_code
def yX0_answerOne : MethodName := ⟨RX0, "answerOne", "(I)V"⟩
abbrev cX0_draw : ByteArray := prog_2_method_18_code
def yX0_draw : MethodName := ⟨RX0, "draw", "(I)I"⟩
def RX1 : String := "ThreeDots$Glance"
def TX1 : u_T := fun k => match k with
  | 0 => ("ThreeDots$Glance", "dear", "[I", true)
  | 1 => ("ThreeDots$Glance", "gathered", "I", false)
  | 2 => ("ThreeDots$Glance", "falls", "[I", true)
  | 3 => ("ThreeDots$Glance", "lengths", "[I", true)
  | _ => ("ThreeDots$Glance", "owners", "[I", true)
def tyX1 : Nat → FieldType := fun k => match k with
  | 0 => .array .int
  | 1 => .int
  | 2 => .array .int
  | 3 => .array .int
  | _ => .array .int
abbrev wsX10 : List Cond := u_ws RX1 TX1 5
theorem nmX1 : ∀ a, a < 5 → ∀ b, b < 5 → a ≠ b → (TX1 a).2.1 ≠ (TX1 b).2.1 := by decide +kernel
theorem tyX1_ok : ∀ k, k < 5 → parseFieldDescriptor (TX1 k).2.2.1 = some (tyX1 k) := by decide +kernel
abbrev cX1_init : ByteArray := prog_3_method_1_code
def yX1_init : MethodName := ⟨RX1, "<init>", "()V"⟩
abbrev cX1_worthiest : ByteArray := prog_3_method_2_code
def yX1_worthiest : MethodName := ⟨RX1, "worthiest", "(LThreeDots$Talk;I)I"⟩
abbrev cX1_waiting : ByteArray := prog_3_method_3_code
def yX1_waiting : MethodName := ⟨RX1, "waiting", "(LThreeDots$Talk;I)I"⟩
abbrev cX1_pauseSum : ByteArray := prog_3_method_4_code
def yX1_pauseSum : MethodName := ⟨RX1, "pauseSum", "(LThreeDots$Talk;I)I"⟩
abbrev cX1_greatestPause : ByteArray := prog_3_method_5_code
def yX1_greatestPause : MethodName := ⟨RX1, "greatestPause", "(LThreeDots$Talk;I)I"⟩
abbrev cX1_longestFall : ByteArray := prog_3_method_6_code
def yX1_longestFall : MethodName := ⟨RX1, "longestFall", "(LThreeDots$Talk;I)I"⟩
abbrev cX1_risesLessFalls : ByteArray := prog_3_method_7_code
def yX1_risesLessFalls : MethodName := ⟨RX1, "risesLessFalls", "(LThreeDots$Talk;I)I"⟩
abbrev cX1_gameWorth : ByteArray := prog_3_method_8_code
def yX1_gameWorth : MethodName := ⟨RX1, "gameWorth", "(LThreeDots$Talk;)I"⟩
abbrev cX1_winningTake : ByteArray := prog_3_method_9_code
def yX1_winningTake : MethodName := ⟨RX1, "winningTake", "(LThreeDots$Talk;II)I"⟩
abbrev cX1_heapWorth : ByteArray := prog_3_method_10_code
def yX1_heapWorth : MethodName := ⟨RX1, "heapWorth", "(II)I"⟩
abbrev cX1_dearest : ByteArray := prog_3_method_11_code
def yX1_dearest : MethodName := ⟨RX1, "dearest", "(LThreeDots$Talk;)I"⟩
abbrev cX1_crossings : ByteArray := prog_3_method_12_code
def yX1_crossings : MethodName := ⟨RX1, "crossings", "(LThreeDots$Talk;)I"⟩
abbrev cX1_gatherPauses : ByteArray := prog_3_method_13_code
def yX1_gatherPauses : MethodName := ⟨RX1, "gatherPauses", "(LThreeDots$Talk;)V"⟩
abbrev cX1_insertPause : ByteArray := prog_3_method_14_code
def yX1_insertPause : MethodName := ⟨RX1, "insertPause", "(II)V"⟩
abbrev cX1_bestCut : ByteArray := prog_3_method_15_code
def yX1_bestCut : MethodName := ⟨RX1, "bestCut", "()I"⟩
abbrev cX1_costOfCut : ByteArray := prog_3_method_16_code
def yX1_costOfCut : MethodName := ⟨RX1, "costOfCut", "(I)I"⟩
abbrev cX1_spread : ByteArray := prog_3_method_17_code
def yX1_spread : MethodName := ⟨RX1, "spread", "(II)I"⟩
abbrev cX1_ofFirstBelow : ByteArray := prog_3_method_18_code
def yX1_ofFirstBelow : MethodName := ⟨RX1, "ofFirstBelow", "(I)I"⟩
def RX2 : String := "ThreeDots$Judge"
def TX2 : u_T := fun k => match k with
  | 0 => ("ThreeDots$Judge", "facts", "[I", true)
  | 1 => ("ThreeDots$Judge", "heap", "[I", true)
  | _ => ("ThreeDots$Judge", "height", "I", false)
def tyX2 : Nat → FieldType := fun k => match k with
  | 0 => .array .int
  | 1 => .array .int
  | _ => .int
abbrev wsX20 : List Cond := u_ws RX2 TX2 3
theorem nmX2 : ∀ a, a < 3 → ∀ b, b < 3 → a ≠ b → (TX2 a).2.1 ≠ (TX2 b).2.1 := by decide +kernel
theorem tyX2_ok : ∀ k, k < 3 → parseFieldDescriptor (TX2 k).2.2.1 = some (tyX2 k) := by decide +kernel
abbrev cX2_init : ByteArray := prog_4_method_1_code
def yX2_init : MethodName := ⟨RX2, "<init>", "()V"⟩
abbrev cX2_step : ByteArray := prog_4_method_2_code
def yX2_step : MethodName := ⟨RX2, "step", "(II)I"⟩
abbrev cX2_sit : ByteArray := prog_4_method_3_code
def yX2_sit : MethodName := ⟨RX2, "sit", "(LThreeDots$World;LThreeDots$Talk;I)V"⟩
abbrev cX2_lay : ByteArray := prog_4_method_4_code
def yX2_lay : MethodName := ⟨RX2, "lay", "(III)V"⟩
abbrev cX2_tells : ByteArray := prog_4_method_5_code
def yX2_tells : MethodName := ⟨RX2, "tells", "(LThreeDots$Sheet;I)I"⟩
abbrev cX2_untold : ByteArray := prog_4_method_6_code
def yX2_untold : MethodName := ⟨RX2, "untold", "(I)I"⟩
abbrev cX2_reckon : ByteArray := prog_4_method_7_code
def yX2_reckon : MethodName := ⟨RX2, "reckon", "(LThreeDots$Sheet;II)I"⟩
abbrev cX2_join : ByteArray := prog_4_method_8_code
def yX2_join : MethodName := ⟨RX2, "join", "(III)I"⟩
def RX3 : String := "ThreeDots$Past"
def TX3 : u_T := fun k => match k with
  | 0 => ("ThreeDots$Past", "talks", "[LThreeDots$Talk;", true)
  | 1 => ("ThreeDots$Past", "first", "I", false)
  | _ => ("ThreeDots$Past", "kept", "I", false)
def tyX3 : Nat → FieldType := fun k => match k with
  | 0 => .array (.object "ThreeDots$Talk")
  | 1 => .int
  | _ => .int
abbrev wsX30 : List Cond := u_ws RX3 TX3 3
theorem nmX3 : ∀ a, a < 3 → ∀ b, b < 3 → a ≠ b → (TX3 a).2.1 ≠ (TX3 b).2.1 := by decide +kernel
theorem tyX3_ok : ∀ k, k < 3 → parseFieldDescriptor (TX3 k).2.2.1 = some (tyX3 k) := by decide +kernel
abbrev cX3_init : ByteArray := prog_5_method_1_code
def yX3_init : MethodName := ⟨RX3, "<init>", "()V"⟩
abbrev cX3_keep : ByteArray := prog_5_method_2_code
def yX3_keep : MethodName := ⟨RX3, "keep", "(LThreeDots$Talk;)V"⟩
abbrev cX3_goBack : ByteArray := prog_5_method_3_code
def yX3_goBack : MethodName := ⟨RX3, "goBack", "(LThreeDots$Talk;)Z"⟩
abbrev cX3_forget : ByteArray := prog_5_method_4_code
def yX3_forget : MethodName := ⟨RX3, "forget", "()V"⟩
def RX4 : String := "ThreeDots$Reader"
def TX4 : u_T := fun k => match k with
  | 0 => ("ThreeDots$Reader", "sheet", "LThreeDots$Sheet;", true)
  | 1 => ("ThreeDots$Reader", "length", "I", false)
  | 2 => ("ThreeDots$Reader", "fault", "I", false)
  | 3 => ("ThreeDots$Reader", "faultPlace", "I", false)
  | 4 => ("ThreeDots$Reader", "tape", "[I", true)
  | 5 => ("ThreeDots$Reader", "kinds", "[I", true)
  | 6 => ("ThreeDots$Reader", "values", "[I", true)
  | 7 => ("ThreeDots$Reader", "places", "[I", true)
  | 8 => ("ThreeDots$Reader", "tokens", "I", false)
  | _ => ("ThreeDots$Reader", "at", "I", false)
def tyX4 : Nat → FieldType := fun k => match k with
  | 0 => .object "ThreeDots$Sheet"
  | 1 => .int
  | 2 => .int
  | 3 => .int
  | 4 => .array .int
  | 5 => .array .int
  | 6 => .array .int
  | 7 => .array .int
  | 8 => .int
  | _ => .int
abbrev wsX40 : List Cond := u_ws RX4 TX4 10
theorem nmX4 : ∀ a, a < 10 → ∀ b, b < 10 → a ≠ b → (TX4 a).2.1 ≠ (TX4 b).2.1 := by decide +kernel
theorem tyX4_ok : ∀ k, k < 10 → parseFieldDescriptor (TX4 k).2.2.1 = some (tyX4 k) := by decide +kernel
abbrev cX4_init : ByteArray := prog_6_method_1_code
def yX4_init : MethodName := ⟨RX4, "<init>", "()V"⟩
abbrev cX4_hasRoom : ByteArray := prog_6_method_2_code
def yX4_hasRoom : MethodName := ⟨RX4, "hasRoom", "(I)Z"⟩
abbrev cX4_append : ByteArray := prog_6_method_3_code
def yX4_append : MethodName := ⟨RX4, "append", "(I)V"⟩
abbrev cX4_cutTokens : ByteArray := prog_6_method_4_code
def yX4_cutTokens : MethodName := ⟨RX4, "cutTokens", "(I)V"⟩
abbrev cX4_wordsOf : ByteArray := prog_6_method_5_code
def yX4_wordsOf : MethodName := ⟨RX4, "wordsOf", "(I)Ljava/lang/String;"⟩
abbrev cX4_cutOne : ByteArray := prog_6_method_6_code
def yX4_cutOne : MethodName := ⟨RX4, "cutOne", "(Ljava/lang/String;II)I"⟩
abbrev cX4_isLetter : ByteArray := prog_6_method_7_code
def yX4_isLetter : MethodName := ⟨RX4, "isLetter", "(I)Z"⟩
abbrev cX4_isDigit : ByteArray := prog_6_method_8_code
def yX4_isDigit : MethodName := ⟨RX4, "isDigit", "(I)Z"⟩
abbrev cX4_findWord : ByteArray := prog_6_method_9_code
def yX4_findWord : MethodName := ⟨RX4, "findWord", "(Ljava/lang/String;II)I"⟩
abbrev cX4_addToken : ByteArray := prog_6_method_10_code
def yX4_addToken : MethodName := ⟨RX4, "addToken", "(III)V"⟩
abbrev cX4_parse : ByteArray := prog_6_method_11_code
def yX4_parse : MethodName := ⟨RX4, "parse", "(I)Z"⟩
abbrev cX4_widthOf : ByteArray := prog_6_method_12_code
def yX4_widthOf : MethodName := ⟨RX4, "widthOf", "(I)I"⟩
abbrev cX4_parseLaw : ByteArray := prog_6_method_13_code
def yX4_parseLaw : MethodName := ⟨RX4, "parseLaw", "()Z"⟩
abbrev cX4_parseHours : ByteArray := prog_6_method_14_code
def yX4_parseHours : MethodName := ⟨RX4, "parseHours", "()Z"⟩
abbrev cX4_takeDoing : ByteArray := prog_6_method_15_code
def yX4_takeDoing : MethodName := ⟨RX4, "takeDoing", "()Z"⟩
abbrev cX4_parseSaying : ByteArray := prog_6_method_16_code
def yX4_parseSaying : MethodName := ⟨RX4, "parseSaying", "()Z"⟩
abbrev cX4_parseHabit : ByteArray := prog_6_method_17_code
def yX4_parseHabit : MethodName := ⟨RX4, "parseHabit", "()Z"⟩
abbrev cX4_parseCondition : ByteArray := prog_6_method_18_code
def yX4_parseCondition : MethodName := ⟨RX4, "parseCondition", "(I)Z"⟩
abbrev cX4_parseSingle : ByteArray := prog_6_method_19_code
def yX4_parseSingle : MethodName := ⟨RX4, "parseSingle", "(I)Z"⟩
abbrev cX4_comparisonHere : ByteArray := prog_6_method_20_code
def yX4_comparisonHere : MethodName := ⟨RX4, "comparisonHere", "()I"⟩
abbrev cX4_parseSum : ByteArray := prog_6_method_21_code
def yX4_parseSum : MethodName := ⟨RX4, "parseSum", "()Z"⟩
abbrev cX4_takeOperand : ByteArray := prog_6_method_22_code
def yX4_takeOperand : MethodName := ⟨RX4, "takeOperand", "()Z"⟩
abbrev cX4_takeParts : ByteArray := prog_6_method_23_code
def yX4_takeParts : MethodName := ⟨RX4, "takeParts", "()Z"⟩
abbrev cX4_advance : ByteArray := prog_6_method_24_code
def yX4_advance : MethodName := ⟨RX4, "advance", "()V"⟩
abbrev cX4_isWord : ByteArray := prog_6_method_25_code
def yX4_isWord : MethodName := ⟨RX4, "isWord", "(I)Z"⟩
abbrev cX4_isSign : ByteArray := prog_6_method_26_code
def yX4_isSign : MethodName := ⟨RX4, "isSign", "(I)Z"⟩
abbrev cX4_takeWord : ByteArray := prog_6_method_27_code
def yX4_takeWord : MethodName := ⟨RX4, "takeWord", "(I)Z"⟩
abbrev cX4_takeSign : ByteArray := prog_6_method_28_code
def yX4_takeSign : MethodName := ⟨RX4, "takeSign", "(I)Z"⟩
abbrev cX4_takeNumber : ByteArray := prog_6_method_29_code
def yX4_takeNumber : MethodName := ⟨RX4, "takeNumber", "(II)Z"⟩
abbrev cX4_refuse : ByteArray := prog_6_method_30_code
def yX4_refuse : MethodName := ⟨RX4, "refuse", "(I)Z"⟩
def RX5 : String := "ThreeDots$Sheet"
def TX5 : u_T := fun k => match k with
  | 0 => ("ThreeDots$Sheet", "lines", "I", false)
  | 1 => ("ThreeDots$Sheet", "width", "I", false)
  | 2 => ("ThreeDots$Sheet", "filled", "I", false)
  | 3 => ("ThreeDots$Sheet", "steps", "I", false)
  | 4 => ("ThreeDots$Sheet", "cells", "[I", true)
  | _ => ("ThreeDots$Sheet", "code", "[I", true)
def tyX5 : Nat → FieldType := fun k => match k with
  | 0 => .int
  | 1 => .int
  | 2 => .int
  | 3 => .int
  | 4 => .array .int
  | _ => .array .int
abbrev wsX50 : List Cond := u_ws RX5 TX5 6
theorem nmX5 : ∀ a, a < 6 → ∀ b, b < 6 → a ≠ b → (TX5 a).2.1 ≠ (TX5 b).2.1 := by decide +kernel
theorem tyX5_ok : ∀ k, k < 6 → parseFieldDescriptor (TX5 k).2.2.1 = some (tyX5 k) := by decide +kernel
abbrev cX5_init : ByteArray := prog_7_method_1_code
def yX5_init : MethodName := ⟨RX5, "<init>", "(II)V"⟩
abbrev cX5_clear : ByteArray := prog_7_method_2_code
def yX5_clear : MethodName := ⟨RX5, "clear", "(I)V"⟩
abbrev cX5_copyFrom : ByteArray := prog_7_method_3_code
def yX5_copyFrom : MethodName := ⟨RX5, "copyFrom", "(LThreeDots$Sheet;)V"⟩
abbrev cX5_cell : ByteArray := prog_7_method_4_code
def yX5_cell : MethodName := ⟨RX5, "cell", "(II)I"⟩
abbrev cX5_put : ByteArray := prog_7_method_5_code
def yX5_put : MethodName := ⟨RX5, "put", "(I)V"⟩
abbrev cX5_emit : ByteArray := prog_7_method_6_code
def yX5_emit : MethodName := ⟨RX5, "emit", "(I)V"⟩
def RX6 : String := "ThreeDots$Talk"
def TX6 : u_T := fun k => match k with
  | 0 => ("ThreeDots$Talk", "minute", "I", false)
  | 1 => ("ThreeDots$Talk", "state", "I", false)
  | 2 => ("ThreeDots$Talk", "count", "I", false)
  | 3 => ("ThreeDots$Talk", "noted", "I", false)
  | 4 => ("ThreeDots$Talk", "open", "I", false)
  | 5 => ("ThreeDots$Talk", "awaited", "I", false)
  | 6 => ("ThreeDots$Talk", "cross", "[I", true)
  | 7 => ("ThreeDots$Talk", "took", "[I", true)
  | 8 => ("ThreeDots$Talk", "ticks", "[I", true)
  | 9 => ("ThreeDots$Talk", "from", "[I", true)
  | 10 => ("ThreeDots$Talk", "sent", "[I", true)
  | 11 => ("ThreeDots$Talk", "read", "[I", true)
  | 12 => ("ThreeDots$Talk", "lasting", "[I", true)
  | 13 => ("ThreeDots$Talk", "kisses", "[I", true)
  | 14 => ("ThreeDots$Talk", "stop", "[I", true)
  | 15 => ("ThreeDots$Talk", "to", "[I", true)
  | 16 => ("ThreeDots$Talk", "back", "[I", true)
  | _ => ("ThreeDots$Talk", "due", "[I", true)
def tyX6 : Nat → FieldType := fun k => match k with
  | 0 => .int
  | 1 => .int
  | 2 => .int
  | 3 => .int
  | 4 => .int
  | 5 => .int
  | 6 => .array .int
  | 7 => .array .int
  | 8 => .array .int
  | 9 => .array .int
  | 10 => .array .int
  | 11 => .array .int
  | 12 => .array .int
  | 13 => .array .int
  | 14 => .array .int
  | 15 => .array .int
  | 16 => .array .int
  | _ => .array .int
abbrev wsX60 : List Cond := u_ws RX6 TX6 18
theorem nmX6 : ∀ a, a < 18 → ∀ b, b < 18 → a ≠ b → (TX6 a).2.1 ≠ (TX6 b).2.1 := by decide +kernel
theorem tyX6_ok : ∀ k, k < 18 → parseFieldDescriptor (TX6 k).2.2.1 = some (tyX6 k) := by decide +kernel
abbrev cX6_init : ByteArray := prog_8_method_1_code
def yX6_init : MethodName := ⟨RX6, "<init>", "()V"⟩
abbrev cX6_copyFrom : ByteArray := prog_8_method_2_code
def yX6_copyFrom : MethodName := ⟨RX6, "copyFrom", "(LThreeDots$Talk;)V"⟩
abbrev cX6_hour : ByteArray := prog_8_method_3_code
def yX6_hour : MethodName := ⟨RX6, "hour", "()I"⟩
abbrev cX6_crossTogether : ByteArray := prog_8_method_4_code
def yX6_crossTogether : MethodName := ⟨RX6, "crossTogether", "()I"⟩
abbrev cX6_isFull : ByteArray := prog_8_method_5_code
def yX6_isFull : MethodName := ⟨RX6, "isFull", "()Z"⟩
abbrev cX6_has : ByteArray := prog_8_method_6_code
def yX6_has : MethodName := ⟨RX6, "has", "(I)Z"⟩
abbrev cX6_isOpen : ByteArray := prog_8_method_7_code
def yX6_isOpen : MethodName := ⟨RX6, "isOpen", "(I)Z"⟩
abbrev cX6_clearMessages : ByteArray := prog_8_method_8_code
def yX6_clearMessages : MethodName := ⟨RX6, "clearMessages", "()V"⟩
abbrev cX6_add : ByteArray := prog_8_method_9_code
def yX6_add : MethodName := ⟨RX6, "add", "(IIIII)I"⟩
abbrev cX6_latestOpenOf : ByteArray := prog_8_method_10_code
def yX6_latestOpenOf : MethodName := ⟨RX6, "latestOpenOf", "(I)I"⟩
abbrev cX6_openOf : ByteArray := prog_8_method_11_code
def yX6_openOf : MethodName := ⟨RX6, "openOf", "(I)I"⟩
abbrev cX6_whoseIsLast : ByteArray := prog_8_method_12_code
def yX6_whoseIsLast : MethodName := ⟨RX6, "whoseIsLast", "()I"⟩
abbrev cX6_isAnswer : ByteArray := prog_8_method_13_code
def yX6_isAnswer : MethodName := ⟨RX6, "isAnswer", "(I)Z"⟩
abbrev cX6_pauseOf : ByteArray := prog_8_method_14_code
def yX6_pauseOf : MethodName := ⟨RX6, "pauseOf", "(I)I"⟩
abbrev cX6_waitsFor : ByteArray := prog_8_method_15_code
def yX6_waitsFor : MethodName := ⟨RX6, "waitsFor", "(II)Z"⟩
def RX7 : String := "ThreeDots$World"
def TX7 : u_T := fun k => match k with
  | 0 => ("ThreeDots$World", "talk", "LThreeDots$Talk;", true)
  | 1 => ("ThreeDots$World", "book", "[I", true)
  | 2 => ("ThreeDots$World", "texts", "[LThreeDots$Sheet;", true)
  | 3 => ("ThreeDots$World", "times", "[I", true)
  | 4 => ("ThreeDots$World", "timesTold", "I", false)
  | _ => ("ThreeDots$World", "costs", "[I", true)
def tyX7 : Nat → FieldType := fun k => match k with
  | 0 => .object "ThreeDots$Talk"
  | 1 => .array .int
  | 2 => .array (.object "ThreeDots$Sheet")
  | 3 => .array .int
  | 4 => .int
  | _ => .array .int
abbrev wsX70 : List Cond := u_ws RX7 TX7 6
theorem nmX7 : ∀ a, a < 6 → ∀ b, b < 6 → a ≠ b → (TX7 a).2.1 ≠ (TX7 b).2.1 := by decide +kernel
theorem tyX7_ok : ∀ k, k < 6 → parseFieldDescriptor (TX7 k).2.2.1 = some (tyX7 k) := by decide +kernel
abbrev cX7_init : ByteArray := prog_9_method_1_code
def yX7_init : MethodName := ⟨RX7, "<init>", "()V"⟩
abbrev cX7_copyFrom : ByteArray := prog_9_method_2_code
def yX7_copyFrom : MethodName := ⟨RX7, "copyFrom", "(LThreeDots$World;)V"⟩
abbrev cX7_doing : ByteArray := prog_9_method_3_code
def yX7_doing : MethodName := ⟨RX7, "doing", "(II)I"⟩
abbrev cX7_reads : ByteArray := prog_9_method_4_code
def yX7_reads : MethodName := ⟨RX7, "reads", "(II)Z"⟩
abbrev cX7_signs : ByteArray := prog_9_method_5_code
def yX7_signs : MethodName := ⟨RX7, "signs", "()I"⟩
abbrev cX7_surer : ByteArray := prog_9_method_6_code
def yX7_surer : MethodName := ⟨RX7, "surer", "(IIZ)I"⟩
abbrev cX7_busFits : ByteArray := prog_9_method_7_code
def yX7_busFits : MethodName := ⟨RX7, "busFits", "(II)Z"⟩
def RX8 : String := "ThreeDots"
def TX8 : u_T := fun k => match k with
  | 0 => ("ThreeDots", "now", "LThreeDots$World;", true)
  | 1 => ("ThreeDots", "image", "LThreeDots$World;", true)
  | 2 => ("ThreeDots", "past", "LThreeDots$Past;", true)
  | 3 => ("ThreeDots", "reader", "LThreeDots$Reader;", true)
  | 4 => ("ThreeDots", "judge", "LThreeDots$Judge;", true)
  | 5 => ("ThreeDots", "course", "LThreeDots$Course;", true)
  | 6 => ("ThreeDots", "thought", "LThreeDots$Talk;", true)
  | 7 => ("ThreeDots", "glance", "LThreeDots$Glance;", true)
  | 8 => ("ThreeDots", "delays", "[I", true)
  | _ => ("ThreeDots", "imaged", "Z", false)
def tyX8 : Nat → FieldType := fun k => match k with
  | 0 => .object "ThreeDots$World"
  | 1 => .object "ThreeDots$World"
  | 2 => .object "ThreeDots$Past"
  | 3 => .object "ThreeDots$Reader"
  | 4 => .object "ThreeDots$Judge"
  | 5 => .object "ThreeDots$Course"
  | 6 => .object "ThreeDots$Talk"
  | 7 => .object "ThreeDots$Glance"
  | 8 => .array .int
  | _ => .boolean
abbrev wsX80 : List Cond := u_ws RX8 TX8 10
theorem nmX8 : ∀ a, a < 10 → ∀ b, b < 10 → a ≠ b → (TX8 a).2.1 ≠ (TX8 b).2.1 := by decide +kernel
theorem tyX8_ok : ∀ k, k < 10 → parseFieldDescriptor (TX8 k).2.2.1 = some (tyX8 k) := by decide +kernel
abbrev cX8_init : ByteArray := prog_1_method_1_code
def yX8_init : MethodName := ⟨RX8, "<init>", "()V"⟩
abbrev cX8_state : ByteArray := prog_1_method_2_code
def yX8_state : MethodName := ⟨RX8, "state", "(I)I"⟩
abbrev cX8_set : ByteArray := prog_1_method_3_code
def yX8_set : MethodName := ⟨RX8, "set", "(III)Z"⟩
abbrev cX8_say : ByteArray := prog_1_method_4_code
def yX8_say : MethodName := ⟨RX8, "say", "(IIIZ)I"⟩
abbrev cX8_takeBack : ByteArray := prog_1_method_5_code
def yX8_takeBack : MethodName := ⟨RX8, "takeBack", "(I)Z"⟩
abbrev cX8_ring : ByteArray := prog_1_method_6_code
def yX8_ring : MethodName := ⟨RX8, "ring", "()I"⟩
abbrev cX8_minutes : ByteArray := prog_1_method_7_code
def yX8_minutes : MethodName := ⟨RX8, "minutes", "(I)I"⟩
abbrev cX8_feed : ByteArray := prog_1_method_8_code
def yX8_feed : MethodName := ⟨RX8, "feed", "(IIIII)I"⟩
abbrev cX8_end : ByteArray := prog_1_method_9_code
def yX8_end : MethodName := ⟨RX8, "end", "(I)Z"⟩
abbrev cX8_text : ByteArray := prog_1_method_10_code
def yX8_text : MethodName := ⟨RX8, "text", "(I)I"⟩
abbrev cX8_fault : ByteArray := prog_1_method_11_code
def yX8_fault : MethodName := ⟨RX8, "fault", "(I)I"⟩
abbrev cX8_of : ByteArray := prog_1_method_12_code
def yX8_of : MethodName := ⟨RX8, "of", "(II)I"⟩
abbrev cX8_message : ByteArray := prog_1_method_13_code
def yX8_message : MethodName := ⟨RX8, "message", "(II)I"⟩
abbrev cX8_asks : ByteArray := prog_1_method_14_code
def yX8_asks : MethodName := ⟨RX8, "asks", "(II)I"⟩
abbrev cX8_book : ByteArray := prog_1_method_15_code
def yX8_book : MethodName := ⟨RX8, "book", "(II)I"⟩
abbrev cX8_goes : ByteArray := prog_1_method_16_code
def yX8_goes : MethodName := ⟨RX8, "goes", "(II)I"⟩
abbrev cX8_copies : ByteArray := prog_1_method_17_code
def yX8_copies : MethodName := ⟨RX8, "copies", "(III)I"⟩
abbrev cX8_sure : ByteArray := prog_1_method_18_code
def yX8_sure : MethodName := ⟨RX8, "sure", "(III)I"⟩
abbrev cX8_needs : ByteArray := prog_1_method_19_code
def yX8_needs : MethodName := ⟨RX8, "needs", "(II)I"⟩
abbrev cX8_waits : ByteArray := prog_1_method_20_code
def yX8_waits : MethodName := ⟨RX8, "waits", "(I)I"⟩
abbrev cX8_which : ByteArray := prog_1_method_21_code
def yX8_which : MethodName := ⟨RX8, "which", "(I)I"⟩
abbrev cX8_drift : ByteArray := prog_1_method_22_code
def yX8_drift : MethodName := ⟨RX8, "drift", "(II)I"⟩
abbrev cX8_pauses : ByteArray := prog_1_method_23_code
def yX8_pauses : MethodName := ⟨RX8, "pauses", "(II)I"⟩
abbrev cX8_time : ByteArray := prog_1_method_24_code
def yX8_time : MethodName := ⟨RX8, "time", "(I)I"⟩
abbrev cX8_fits : ByteArray := prog_1_method_25_code
def yX8_fits : MethodName := ⟨RX8, "fits", "(I)I"⟩
abbrev cX8_game : ByteArray := prog_1_method_26_code
def yX8_game : MethodName := ⟨RX8, "game", "(I)I"⟩
abbrev cX8_table : ByteArray := prog_1_method_27_code
def yX8_table : MethodName := ⟨RX8, "table", "(III)Z"⟩
abbrev cX8_rests : ByteArray := prog_1_method_28_code
def yX8_rests : MethodName := ⟨RX8, "rests", "()I"⟩
abbrev cX8_deletes : ByteArray := prog_1_method_29_code
def yX8_deletes : MethodName := ⟨RX8, "deletes", "(III)I"⟩
abbrev cX8_thread : ByteArray := prog_1_method_30_code
def yX8_thread : MethodName := ⟨RX8, "thread", "(I)I"⟩
abbrev cX8_crossed : ByteArray := prog_1_method_31_code
def yX8_crossed : MethodName := ⟨RX8, "crossed", "()I"⟩
abbrev cX8_awake : ByteArray := prog_1_method_32_code
def yX8_awake : MethodName := ⟨RX8, "awake", "(II)I"⟩
abbrev cX8_mirrors : ByteArray := prog_1_method_33_code
def yX8_mirrors : MethodName := ⟨RX8, "mirrors", "(II)I"⟩
abbrev cX8_ease : ByteArray := prog_1_method_34_code
def yX8_ease : MethodName := ⟨RX8, "ease", "(III)I"⟩
abbrev cX8_split : ByteArray := prog_1_method_35_code
def yX8_split : MethodName := ⟨RX8, "split", "(I)I"⟩
abbrev cX8_undo : ByteArray := prog_1_method_36_code
def yX8_undo : MethodName := ⟨RX8, "undo", "()Z"⟩
abbrev cX8_image : ByteArray := prog_1_method_37_code
def yX8_image : MethodName := ⟨RX8, "image", "(Z)Z"⟩
abbrev cX8_look : ByteArray := prog_1_method_38_code
def yX8_look : MethodName := ⟨RX8, "look", "(I)I"⟩
abbrev cX8_within : ByteArray := prog_1_method_39_code
def yX8_within : MethodName := ⟨RX8, "within", "(III)Z"⟩
abbrev cX8_isOne : ByteArray := prog_1_method_40_code
def yX8_isOne : MethodName := ⟨RX8, "isOne", "(I)Z"⟩
abbrev cX8_imagine : ByteArray := prog_1_method_41_code
def yX8_imagine : MethodName := ⟨RX8, "imagine", "()V"⟩
abbrev cX8_comesRound : ByteArray := prog_1_method_42_code
def yX8_comesRound : MethodName := ⟨RX8, "comesRound", "(I)I"⟩
def RX9 : String := "ThreeDotsModel"
def TX9 : u_T := fun k => match k with
  | 0 => ("ThreeDotsModel", "w", "[I", true)
  | 1 => ("ThreeDotsModel", "kept", "[I", true)
  | 2 => ("ThreeDotsModel", "back", "[I", true)
  | 3 => ("ThreeDotsModel", "lying", "[I", true)
  | 4 => ("ThreeDotsModel", "backMany", "I", false)
  | 5 => ("ThreeDotsModel", "hasImage", "Z", false)
  | 6 => ("ThreeDotsModel", "freshLine", "[I", true)
  | 7 => ("ThreeDotsModel", "freshStep", "[I", true)
  | 8 => ("ThreeDotsModel", "freshRow", "[I", true)
  | 9 => ("ThreeDotsModel", "tape", "[I", true)
  | 10 => ("ThreeDotsModel", "pile", "[I", true)
  | 11 => ("ThreeDotsModel", "facts", "[I", true)
  | 12 => ("ThreeDotsModel", "reading", "I", false)
  | 13 => ("ThreeDotsModel", "lines", "I", false)
  | 14 => ("ThreeDotsModel", "steps", "I", false)
  | 15 => ("ThreeDotsModel", "rows", "I", false)
  | 16 => ("ThreeDotsModel", "taped", "I", false)
  | 17 => ("ThreeDotsModel", "at", "I", false)
  | 18 => ("ThreeDotsModel", "token", "I", false)
  | 19 => ("ThreeDotsModel", "tokenAt", "I", false)
  | 20 => ("ThreeDotsModel", "value", "I", false)
  | 21 => ("ThreeDotsModel", "wrong", "I", false)
  | 22 => ("ThreeDotsModel", "wrongAt", "I", false)
  | 23 => ("ThreeDotsModel", "faultKind", "I", false)
  | 24 => ("ThreeDotsModel", "depth", "I", false)
  | 25 => ("ThreeDotsModel", "faultPlace", "I", false)
  | 26 => ("ThreeDotsModel", "isTrue", "Z", false)
  | 27 => ("ThreeDotsModel", "easedOne", "I", false)
  | 28 => ("ThreeDotsModel", "easedBy", "I", false)
  | 29 => ("ThreeDotsModel", "firsts", "[I", true)
  | 30 => ("ThreeDotsModel", "delays", "[I", true)
  | 31 => ("ThreeDotsModel", "falls", "[I", true)
  | 32 => ("ThreeDotsModel", "bySize", "[I", true)
  | 33 => ("ThreeDotsModel", "whose", "[I", true)
  | _ => ("ThreeDotsModel", "dearest", "[I", true)
def tyX9 : Nat → FieldType := fun k => match k with
  | 0 => .array .int
  | 1 => .array .int
  | 2 => .array .int
  | 3 => .array .int
  | 4 => .int
  | 5 => .boolean
  | 6 => .array .int
  | 7 => .array .int
  | 8 => .array .int
  | 9 => .array .int
  | 10 => .array .int
  | 11 => .array .int
  | 12 => .int
  | 13 => .int
  | 14 => .int
  | 15 => .int
  | 16 => .int
  | 17 => .int
  | 18 => .int
  | 19 => .int
  | 20 => .int
  | 21 => .int
  | 22 => .int
  | 23 => .int
  | 24 => .int
  | 25 => .int
  | 26 => .boolean
  | 27 => .int
  | 28 => .int
  | 29 => .array .int
  | 30 => .array .int
  | 31 => .array .int
  | 32 => .array .int
  | 33 => .array .int
  | _ => .array .int
abbrev wsX90 : List Cond := u_ws RX9 TX9 35
theorem nmX9 : ∀ a, a < 35 → ∀ b, b < 35 → a ≠ b → (TX9 a).2.1 ≠ (TX9 b).2.1 := by decide +kernel
theorem tyX9_ok : ∀ k, k < 35 → parseFieldDescriptor (TX9 k).2.2.1 = some (tyX9 k) := by decide +kernel
abbrev cX9_init : ByteArray := prog_11_method_1_code
def yX9_init : MethodName := ⟨RX9, "<init>", "()V"⟩
abbrev cX9_isIn : ByteArray := prog_11_method_2_code
def yX9_isIn : MethodName := ⟨RX9, "isIn", "(III)Z"⟩
abbrev cX9_lesser : ByteArray := prog_11_method_3_code
def yX9_lesser : MethodName := ⟨RX9, "lesser", "(II)I"⟩
abbrev cX9_greater : ByteArray := prog_11_method_4_code
def yX9_greater : MethodName := ⟨RX9, "greater", "(II)I"⟩
abbrev cX9_size : ByteArray := prog_11_method_5_code
def yX9_size : MethodName := ⟨RX9, "size", "(I)I"⟩
abbrev cX9_held : ByteArray := prog_11_method_6_code
def yX9_held : MethodName := ⟨RX9, "held", "(III)I"⟩
abbrev cX9_isOne : ByteArray := prog_11_method_7_code
def yX9_isOne : MethodName := ⟨RX9, "isOne", "(I)Z"⟩
abbrev cX9_isMessage : ByteArray := prog_11_method_8_code
def yX9_isMessage : MethodName := ⟨RX9, "isMessage", "(I)Z"⟩
abbrev cX9_of0 : ByteArray := prog_11_method_9_code
def yX9_of0 : MethodName := ⟨RX9, "of0", "(II)I"⟩
abbrev cX9_puts0 : ByteArray := prog_11_method_10_code
def yX9_puts0 : MethodName := ⟨RX9, "puts0", "(III)V"⟩
abbrev cX9_isBack : ByteArray := prog_11_method_11_code
def yX9_isBack : MethodName := ⟨RX9, "isBack", "(I)Z"⟩
abbrev cX9_isUnread : ByteArray := prog_11_method_12_code
def yX9_isUnread : MethodName := ⟨RX9, "isUnread", "(I)Z"⟩
abbrev cX9_goesTo : ByteArray := prog_11_method_13_code
def yX9_goesTo : MethodName := ⟨RX9, "goesTo", "(I)I"⟩
abbrev cX9_hourNow : ByteArray := prog_11_method_14_code
def yX9_hourNow : MethodName := ⟨RX9, "hourNow", "()I"⟩
abbrev cX9_forgets : ByteArray := prog_11_method_15_code
def yX9_forgets : MethodName := ⟨RX9, "forgets", "()V"⟩
abbrev cX9_state : ByteArray := prog_11_method_16_code
def yX9_state : MethodName := ⟨RX9, "state", "(I)I"⟩
abbrev cX9_draw : ByteArray := prog_11_method_17_code
def yX9_draw : MethodName := ⟨RX9, "draw", "(I)I"⟩
abbrev cX9_set : ByteArray := prog_11_method_18_code
def yX9_set : MethodName := ⟨RX9, "set", "(III)Z"⟩
abbrev cX9_feed : ByteArray := prog_11_method_19_code
def yX9_feed : MethodName := ⟨RX9, "feed", "(IIIII)I"⟩
abbrev cX9_end : ByteArray := prog_11_method_20_code
def yX9_end : MethodName := ⟨RX9, "end", "(I)Z"⟩
abbrev cX9_see : ByteArray := prog_11_method_21_code
def yX9_see : MethodName := ⟨RX9, "see", "(I)I"⟩
abbrev cX9_isLetter : ByteArray := prog_11_method_22_code
def yX9_isLetter : MethodName := ⟨RX9, "isLetter", "(I)Z"⟩
abbrev cX9_isDigit : ByteArray := prog_11_method_23_code
def yX9_isDigit : MethodName := ⟨RX9, "isDigit", "(I)Z"⟩
abbrev cX9_is : ByteArray := prog_11_method_24_code
def yX9_is : MethodName := ⟨RX9, "is", "(Ljava/lang/String;)Z"⟩
abbrev cX9_asked : ByteArray := prog_11_method_25_code
def yX9_asked : MethodName := ⟨RX9, "asked", "()I"⟩
abbrev cX9_lawWord : ByteArray := prog_11_method_26_code
def yX9_lawWord : MethodName := ⟨RX9, "lawWord", "()I"⟩
abbrev cX9_hourWord : ByteArray := prog_11_method_27_code
def yX9_hourWord : MethodName := ⟨RX9, "hourWord", "()I"⟩
abbrev cX9_sayingWord : ByteArray := prog_11_method_28_code
def yX9_sayingWord : MethodName := ⟨RX9, "sayingWord", "()I"⟩
abbrev cX9_word : ByteArray := prog_11_method_29_code
def yX9_word : MethodName := ⟨RX9, "word", "()I"⟩
abbrev cX9_next0 : ByteArray := prog_11_method_30_code
def yX9_next0 : MethodName := ⟨RX9, "next0", "()V"⟩
abbrev cX9_bad : ByteArray := prog_11_method_31_code
def yX9_bad : MethodName := ⟨RX9, "bad", "(I)Z"⟩
abbrev cX9_need : ByteArray := prog_11_method_32_code
def yX9_need : MethodName := ⟨RX9, "need", "(I)Z"⟩
abbrev cX9_lay : ByteArray := prog_11_method_33_code
def yX9_lay : MethodName := ⟨RX9, "lay", "(II)V"⟩
abbrev cX9_opens : ByteArray := prog_11_method_34_code
def yX9_opens : MethodName := ⟨RX9, "opens", "()Z"⟩
abbrev cX9_sumUp : ByteArray := prog_11_method_35_code
def yX9_sumUp : MethodName := ⟨RX9, "sumUp", "()Z"⟩
abbrev cX9_product : ByteArray := prog_11_method_36_code
def yX9_product : MethodName := ⟨RX9, "product", "()Z"⟩
abbrev cX9_unit : ByteArray := prog_11_method_37_code
def yX9_unit : MethodName := ⟨RX9, "unit", "()Z"⟩
abbrev cX9_any : ByteArray := prog_11_method_38_code
def yX9_any : MethodName := ⟨RX9, "any", "()Z"⟩
abbrev cX9_every : ByteArray := prog_11_method_39_code
def yX9_every : MethodName := ⟨RX9, "every", "()Z"⟩
abbrev cX9_oneTest : ByteArray := prog_11_method_40_code
def yX9_oneTest : MethodName := ⟨RX9, "oneTest", "()Z"⟩
abbrev cX9_aLine : ByteArray := prog_11_method_41_code
def yX9_aLine : MethodName := ⟨RX9, "aLine", "()Z"⟩
abbrev cX9_readsLaw : ByteArray := prog_11_method_42_code
def yX9_readsLaw : MethodName := ⟨RX9, "readsLaw", "()Z"⟩
abbrev cX9_number : ByteArray := prog_11_method_43_code
def yX9_number : MethodName := ⟨RX9, "number", "(III)Z"⟩
abbrev cX9_told : ByteArray := prog_11_method_44_code
def yX9_told : MethodName := ⟨RX9, "told", "(IIII)Z"⟩
abbrev cX9_anHour : ByteArray := prog_11_method_45_code
def yX9_anHour : MethodName := ⟨RX9, "anHour", "()Z"⟩
abbrev cX9_aSaying : ByteArray := prog_11_method_46_code
def yX9_aSaying : MethodName := ⟨RX9, "aSaying", "()Z"⟩
abbrev cX9_aHabit : ByteArray := prog_11_method_47_code
def yX9_aHabit : MethodName := ⟨RX9, "aHabit", "()Z"⟩
abbrev cX9_aRow : ByteArray := prog_11_method_48_code
def yX9_aRow : MethodName := ⟨RX9, "aRow", "()Z"⟩
abbrev cX9_readsRows : ByteArray := prog_11_method_49_code
def yX9_readsRows : MethodName := ⟨RX9, "readsRows", "()Z"⟩
abbrev cX9_putsLaw : ByteArray := prog_11_method_50_code
def yX9_putsLaw : MethodName := ⟨RX9, "putsLaw", "()I"⟩
abbrev cX9_puts : ByteArray := prog_11_method_51_code
def yX9_puts : MethodName := ⟨RX9, "puts", "(III)I"⟩
abbrev cX9_putsText : ByteArray := prog_11_method_52_code
def yX9_putsText : MethodName := ⟨RX9, "putsText", "(I)I"⟩
abbrev cX9_text : ByteArray := prog_11_method_53_code
def yX9_text : MethodName := ⟨RX9, "text", "(I)I"⟩
abbrev cX9_fault : ByteArray := prog_11_method_54_code
def yX9_fault : MethodName := ⟨RX9, "fault", "(I)I"⟩
abbrev cX9_both : ByteArray := prog_11_method_55_code
def yX9_both : MethodName := ⟨RX9, "both", "(III)I"⟩
abbrev cX9_comesTo : ByteArray := prog_11_method_56_code
def yX9_comesTo : MethodName := ⟨RX9, "comesTo", "(III)I"⟩
abbrev cX9_isSo : ByteArray := prog_11_method_57_code
def yX9_isSo : MethodName := ⟨RX9, "isSo", "(I)Z"⟩
abbrev cX9_says : ByteArray := prog_11_method_58_code
def yX9_says : MethodName := ⟨RX9, "says", "(IIII)I"⟩
abbrev cX9_isIn0 : ByteArray := prog_11_method_59_code
def yX9_isIn0 : MethodName := ⟨RX9, "isIn0", "(II)I"⟩
abbrev cX9_canRead : ByteArray := prog_11_method_60_code
def yX9_canRead : MethodName := ⟨RX9, "canRead", "(II)Z"⟩
abbrev cX9_lays : ByteArray := prog_11_method_61_code
def yX9_lays : MethodName := ⟨RX9, "lays", "(IIII)V"⟩
abbrev cX9_laysMessage : ByteArray := prog_11_method_62_code
def yX9_laysMessage : MethodName := ⟨RX9, "laysMessage", "(I)V"⟩
abbrev cX9_delayNow : ByteArray := prog_11_method_63_code
def yX9_delayNow : MethodName := ⟨RX9, "delayNow", "()I"⟩
abbrev cX9_lastsNow : ByteArray := prog_11_method_64_code
def yX9_lastsNow : MethodName := ⟨RX9, "lastsNow", "()I"⟩
abbrev cX9_kissNow : ByteArray := prog_11_method_65_code
def yX9_kissNow : MethodName := ⟨RX9, "kissNow", "()I"⟩
abbrev cX9_hurtNow : ByteArray := prog_11_method_66_code
def yX9_hurtNow : MethodName := ⟨RX9, "hurtNow", "()I"⟩
abbrev cX9_goNow : ByteArray := prog_11_method_67_code
def yX9_goNow : MethodName := ⟨RX9, "goNow", "()I"⟩
abbrev cX9_keeps : ByteArray := prog_11_method_68_code
def yX9_keeps : MethodName := ⟨RX9, "keeps", "()V"⟩
abbrev cX9_undo : ByteArray := prog_11_method_69_code
def yX9_undo : MethodName := ⟨RX9, "undo", "()Z"⟩
abbrev cX9_notes : ByteArray := prog_11_method_70_code
def yX9_notes : MethodName := ⟨RX9, "notes", "(III)V"⟩
abbrev cX9_comes : ByteArray := prog_11_method_71_code
def yX9_comes : MethodName := ⟨RX9, "comes", "(IIIII)I"⟩
abbrev cX9_saysNow : ByteArray := prog_11_method_72_code
def yX9_saysNow : MethodName := ⟨RX9, "saysNow", "(IIII)I"⟩
abbrev cX9_say : ByteArray := prog_11_method_73_code
def yX9_say : MethodName := ⟨RX9, "say", "(IIIZ)I"⟩
abbrev cX9_takesBack : ByteArray := prog_11_method_74_code
def yX9_takesBack : MethodName := ⟨RX9, "takesBack", "(I)V"⟩
abbrev cX9_takeBack : ByteArray := prog_11_method_75_code
def yX9_takeBack : MethodName := ⟨RX9, "takeBack", "(I)Z"⟩
abbrev cX9_ring : ByteArray := prog_11_method_76_code
def yX9_ring : MethodName := ⟨RX9, "ring", "()I"⟩
abbrev cX9_deletesLatest : ByteArray := prog_11_method_77_code
def yX9_deletesLatest : MethodName := ⟨RX9, "deletesLatest", "(I)V"⟩
abbrev cX9_doesSaying : ByteArray := prog_11_method_78_code
def yX9_doesSaying : MethodName := ⟨RX9, "doesSaying", "(I)V"⟩
abbrev cX9_reads0 : ByteArray := prog_11_method_79_code
def yX9_reads0 : MethodName := ⟨RX9, "reads0", "(I)V"⟩
abbrev cX9_answers : ByteArray := prog_11_method_80_code
def yX9_answers : MethodName := ⟨RX9, "answers", "(I)V"⟩
abbrev cX9_aMinute : ByteArray := prog_11_method_81_code
def yX9_aMinute : MethodName := ⟨RX9, "aMinute", "()I"⟩
abbrev cX9_minutes : ByteArray := prog_11_method_82_code
def yX9_minutes : MethodName := ⟨RX9, "minutes", "(I)I"⟩
abbrev cX9_of : ByteArray := prog_11_method_83_code
def yX9_of : MethodName := ⟨RX9, "of", "(II)I"⟩
abbrev cX9_message : ByteArray := prog_11_method_84_code
def yX9_message : MethodName := ⟨RX9, "message", "(II)I"⟩
abbrev cX9_asks : ByteArray := prog_11_method_85_code
def yX9_asks : MethodName := ⟨RX9, "asks", "(II)I"⟩
abbrev cX9_book : ByteArray := prog_11_method_86_code
def yX9_book : MethodName := ⟨RX9, "book", "(II)I"⟩
abbrev cX9_laysAside : ByteArray := prog_11_method_87_code
def yX9_laysAside : MethodName := ⟨RX9, "laysAside", "()V"⟩
abbrev cX9_putsBack : ByteArray := prog_11_method_88_code
def yX9_putsBack : MethodName := ⟨RX9, "putsBack", "()V"⟩
abbrev cX9_lastFrom : ByteArray := prog_11_method_89_code
def yX9_lastFrom : MethodName := ⟨RX9, "lastFrom", "()I"⟩
abbrev cX9_goes : ByteArray := prog_11_method_90_code
def yX9_goes : MethodName := ⟨RX9, "goes", "(II)I"⟩
abbrev cX9_deletes : ByteArray := prog_11_method_91_code
def yX9_deletes : MethodName := ⟨RX9, "deletes", "(III)I"⟩
abbrev cX9_count : ByteArray := prog_11_method_92_code
def yX9_count : MethodName := ⟨RX9, "count", "(I)I"⟩
abbrev cX9_ease : ByteArray := prog_11_method_93_code
def yX9_ease : MethodName := ⟨RX9, "ease", "(III)I"⟩
abbrev cX9_copies : ByteArray := prog_11_method_94_code
def yX9_copies : MethodName := ⟨RX9, "copies", "(III)I"⟩
abbrev cX9_mirrors : ByteArray := prog_11_method_95_code
def yX9_mirrors : MethodName := ⟨RX9, "mirrors", "(II)I"⟩
abbrev cX9_bySign : ByteArray := prog_11_method_96_code
def yX9_bySign : MethodName := ⟨RX9, "bySign", "(JIZ)J"⟩
abbrev cX9_areSigns : ByteArray := prog_11_method_97_code
def yX9_areSigns : MethodName := ⟨RX9, "areSigns", "(I)Z"⟩
abbrev cX9_sure : ByteArray := prog_11_method_98_code
def yX9_sure : MethodName := ⟨RX9, "sure", "(III)I"⟩
abbrev cX9_needs : ByteArray := prog_11_method_99_code
def yX9_needs : MethodName := ⟨RX9, "needs", "(II)I"⟩
abbrev cX9_waits : ByteArray := prog_11_method_100_code
def yX9_waits : MethodName := ⟨RX9, "waits", "(I)I"⟩
abbrev cX9_isAnswered : ByteArray := prog_11_method_101_code
def yX9_isAnswered : MethodName := ⟨RX9, "isAnswered", "(I)Z"⟩
abbrev cX9_isWaiting : ByteArray := prog_11_method_102_code
def yX9_isWaiting : MethodName := ⟨RX9, "isWaiting", "(II)Z"⟩
abbrev cX9_which : ByteArray := prog_11_method_103_code
def yX9_which : MethodName := ⟨RX9, "which", "(I)I"⟩
abbrev cX9_drift : ByteArray := prog_11_method_104_code
def yX9_drift : MethodName := ⟨RX9, "drift", "(II)I"⟩
abbrev cX9_isAnswer : ByteArray := prog_11_method_105_code
def yX9_isAnswer : MethodName := ⟨RX9, "isAnswer", "(I)Z"⟩
abbrev cX9_pauseOf : ByteArray := prog_11_method_106_code
def yX9_pauseOf : MethodName := ⟨RX9, "pauseOf", "(I)I"⟩
abbrev cX9_pauses : ByteArray := prog_11_method_107_code
def yX9_pauses : MethodName := ⟨RX9, "pauses", "(II)I"⟩
abbrev cX9_laysPauses : ByteArray := prog_11_method_108_code
def yX9_laysPauses : MethodName := ⟨RX9, "laysPauses", "()I"⟩
abbrev cX9_farFromMiddle : ByteArray := prog_11_method_109_code
def yX9_farFromMiddle : MethodName := ⟨RX9, "farFromMiddle", "(II)I"⟩
abbrev cX9_split : ByteArray := prog_11_method_110_code
def yX9_split : MethodName := ⟨RX9, "split", "(I)I"⟩
abbrev cX9_time : ByteArray := prog_11_method_111_code
def yX9_time : MethodName := ⟨RX9, "time", "(I)I"⟩
abbrev cX9_isBusOf : ByteArray := prog_11_method_112_code
def yX9_isBusOf : MethodName := ⟨RX9, "isBusOf", "(II)Z"⟩
abbrev cX9_fits : ByteArray := prog_11_method_113_code
def yX9_fits : MethodName := ⟨RX9, "fits", "(I)I"⟩
abbrev cX9_heapOf : ByteArray := prog_11_method_114_code
def yX9_heapOf : MethodName := ⟨RX9, "heapOf", "(I)I"⟩
abbrev cX9_game : ByteArray := prog_11_method_115_code
def yX9_game : MethodName := ⟨RX9, "game", "(I)I"⟩
abbrev cX9_table : ByteArray := prog_11_method_116_code
def yX9_table : MethodName := ⟨RX9, "table", "(III)Z"⟩
abbrev cX9_rests : ByteArray := prog_11_method_117_code
def yX9_rests : MethodName := ⟨RX9, "rests", "()I"⟩
abbrev cX9_thread : ByteArray := prog_11_method_118_code
def yX9_thread : MethodName := ⟨RX9, "thread", "(I)I"⟩
abbrev cX9_haveCrossed : ByteArray := prog_11_method_119_code
def yX9_haveCrossed : MethodName := ⟨RX9, "haveCrossed", "(II)Z"⟩
abbrev cX9_crossed : ByteArray := prog_11_method_120_code
def yX9_crossed : MethodName := ⟨RX9, "crossed", "()I"⟩
abbrev cX9_awake : ByteArray := prog_11_method_121_code
def yX9_awake : MethodName := ⟨RX9, "awake", "(II)I"⟩
abbrev cX9_image : ByteArray := prog_11_method_122_code
def yX9_image : MethodName := ⟨RX9, "image", "(Z)Z"⟩
abbrev cX9_look : ByteArray := prog_11_method_123_code
def yX9_look : MethodName := ⟨RX9, "look", "(I)I"⟩
def RJ6 : String := "java/lang/Integer"
def TJ6 : u_T := fun k => match k with
  | _ => ("", "", "", false)
def tyJ6 : Nat → FieldType := fun k => match k with
  | _ => .int
abbrev wsJ60 : List Cond := u_ws RJ6 TJ6 0
theorem nmJ6 : ∀ a, a < 0 → ∀ b, b < 0 → a ≠ b → (TJ6 a).2.1 ≠ (TJ6 b).2.1 := by decide +kernel
theorem tyJ6_ok : ∀ k, k < 0 → parseFieldDescriptor (TJ6 k).2.2.1 = some (tyJ6 k) := by decide +kernel
abbrev cJ6_compare_7cf53 : ByteArray := prog_12_method_40_code
def yJ6_compare_7cf53 : MethodName := ⟨RJ6, "compare", "(II)I"⟩
abbrev cJ6_bitCount_0f7a4 : ByteArray := prog_12_method_49_code
def yJ6_bitCount_0f7a4 : MethodName := ⟨RJ6, "bitCount", "(I)I"⟩
def RJ9 : String := "java/lang/Math"
def TJ9 : u_T := fun k => match k with
  | _ => ("", "", "", false)
def tyJ9 : Nat → FieldType := fun k => match k with
  | _ => .int
abbrev wsJ90 : List Cond := u_ws RJ9 TJ9 0
theorem nmJ9 : ∀ a, a < 0 → ∀ b, b < 0 → a ≠ b → (TJ9 a).2.1 ≠ (TJ9 b).2.1 := by decide +kernel
theorem tyJ9_ok : ∀ k, k < 0 → parseFieldDescriptor (TJ9 k).2.2.1 = some (tyJ9 k) := by decide +kernel
abbrev cJ9_abs_0f7a4 : ByteArray := prog_13_method_59_code
def yJ9_abs_0f7a4 : MethodName := ⟨RJ9, "abs", "(I)I"⟩
abbrev cJ9_max_7cf53 : ByteArray := prog_13_method_65_code
def yJ9_max_7cf53 : MethodName := ⟨RJ9, "max", "(II)I"⟩
abbrev cJ9_min_7cf53 : ByteArray := prog_13_method_69_code
def yJ9_min_7cf53 : MethodName := ⟨RJ9, "min", "(II)I"⟩
def RJ0 : String := "java/lang/String"
def TJ0 : u_T := fun k => match k with
  | _ => ("", "", "", false)
def tyJ0 : Nat → FieldType := fun k => match k with
  | _ => .int
abbrev wsJ00 : List Cond := u_ws RJ0 TJ0 0
theorem nmJ0 : ∀ a, a < 0 → ∀ b, b < 0 → a ≠ b → (TJ0 a).2.1 ≠ (TJ0 b).2.1 := by decide +kernel
theorem tyJ0_ok : ∀ k, k < 0 → parseFieldDescriptor (TJ0 k).2.2.1 = some (tyJ0 k) := by decide +kernel
abbrev cJ0_length_8abf5 : ByteArray := prog_14_method_54_code
def yJ0_length_8abf5 : MethodName := ⟨RJ0, "length", "()I"⟩
abbrev cJ0_charAt_5068e : ByteArray := prog_14_method_56_code
def yJ0_charAt_5068e : MethodName := ⟨RJ0, "charAt", "(I)C"⟩
abbrev cJ0_coder_7d493 : ByteArray := prog_14_method_152_code
def yJ0_coder_7d493 : MethodName := ⟨RJ0, "coder", "()B"⟩
abbrev cJ0_isLatin1_aae02 : ByteArray := prog_14_method_154_code
def yJ0_isLatin1_aae02 : MethodName := ⟨RJ0, "isLatin1", "()Z"⟩
abbrev cJ0_checkIndex_df160 : ByteArray := prog_14_method_155_code
def yJ0_checkIndex_df160 : MethodName := ⟨RJ0, "checkIndex", "(II)V"⟩
def RJ1 : String := "java/lang/StringLatin1"
def TJ1 : u_T := fun k => match k with
  | _ => ("", "", "", false)
def tyJ1 : Nat → FieldType := fun k => match k with
  | _ => .int
abbrev wsJ10 : List Cond := u_ws RJ1 TJ1 0
theorem nmJ1 : ∀ a, a < 0 → ∀ b, b < 0 → a ≠ b → (TJ1 a).2.1 ≠ (TJ1 b).2.1 := by decide +kernel
theorem tyJ1_ok : ∀ k, k < 0 → parseFieldDescriptor (TJ1 k).2.2.1 = some (tyJ1 k) := by decide +kernel
abbrev cJ1_charAt_3b067 : ByteArray := prog_15_method_2_code
def yJ1_charAt_3b067 : MethodName := ⟨RJ1, "charAt", "([BI)C"⟩
def RJ2 : String := "java/lang/StringUTF16"
def TJ2 : u_T := fun k => match k with
  | _ => ("", "", "", false)
def tyJ2 : Nat → FieldType := fun k => match k with
  | _ => .int
abbrev wsJ20 : List Cond := u_ws RJ2 TJ2 0
theorem nmJ2 : ∀ a, a < 0 → ∀ b, b < 0 → a ≠ b → (TJ2 a).2.1 ≠ (TJ2 b).2.1 := by decide +kernel
theorem tyJ2_ok : ∀ k, k < 0 → parseFieldDescriptor (TJ2 k).2.2.1 = some (tyJ2 k) := by decide +kernel
abbrev cJ2_getChar_3b067 : ByteArray := prog_16_method_5_code
def yJ2_getChar_3b067 : MethodName := ⟨RJ2, "getChar", "([BI)C"⟩
abbrev cJ2_length_9d52b : ByteArray := prog_16_method_6_code
def yJ2_length_9d52b : MethodName := ⟨RJ2, "length", "([B)I"⟩
abbrev cJ2_charAt_3b067 : ByteArray := prog_16_method_83_code
def yJ2_charAt_3b067 : MethodName := ⟨RJ2, "charAt", "([BI)C"⟩
abbrev cJ2_checkIndex_2214a : ByteArray := prog_16_method_91_code
def yJ2_checkIndex_2214a : MethodName := ⟨RJ2, "checkIndex", "(I[B)V"⟩
def RJ10 : String := "java/lang/System"
def TJ10 : u_T := fun k => match k with
  | _ => ("", "", "", false)
def tyJ10 : Nat → FieldType := fun k => match k with
  | _ => .int
abbrev wsJ100 : List Cond := u_ws RJ10 TJ10 0
theorem nmJ10 : ∀ a, a < 0 → ∀ b, b < 0 → a ≠ b → (TJ10 a).2.1 ≠ (TJ10 b).2.1 := by decide +kernel
theorem tyJ10_ok : ∀ k, k < 0 → parseFieldDescriptor (TJ10 k).2.2.1 = some (tyJ10 k) := by decide +kernel
def RJ3 : String := "jdk/internal/util/Preconditions"
def TJ3 : u_T := fun k => match k with
  | _ => ("", "", "", false)
def tyJ3 : Nat → FieldType := fun k => match k with
  | _ => .int
abbrev wsJ30 : List Cond := u_ws RJ3 TJ3 0
theorem nmJ3 : ∀ a, a < 0 → ∀ b, b < 0 → a ≠ b → (TJ3 a).2.1 ≠ (TJ3 b).2.1 := by decide +kernel
theorem tyJ3_ok : ∀ k, k < 0 → parseFieldDescriptor (TJ3 k).2.2.1 = some (tyJ3 k) := by decide +kernel
abbrev cJ3_checkIndex_8e157 : ByteArray := prog_18_method_11_code
def yJ3_checkIndex_8e157 : MethodName := ⟨RJ3, "checkIndex", "(IILjava/util/function/BiFunction;)I"⟩
def RL : String := "ThreeDotsLaw"
abbrev cL_law : ByteArray := code
def yL_law : MethodName := ⟨RL, "law", "([I)Z"⟩
abbrev vwCl : List vw_C := [(RX0, TX0, 6), (RX1, TX1, 5), (RX2, TX2, 3), (RX3, TX3, 3), (RX4, TX4, 10), (RX5, TX5, 6), (RX6, TX6, 18), (RX7, TX7, 6), (RX8, TX8, 10), (RX9, TX9, 35)]
