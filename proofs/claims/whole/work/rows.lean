section
-- ===== PART A: goes FIRST, ahead of the names: the tables' words, and 'selects' of the private methods out of them =====
/-- a private method of a class that the tables say can be made, by its rows of tables_1 -/
def lw_okq (q : MethodName × Nat) : Prop := (q.1.cls ≠ "java/lang/invoke/MethodHandle" ∧ q.1.cls ≠ "java/lang/invoke/VarHandle") ∧ Cond.instantiable q.1.cls q.2 ∈ tables_1 ∧ Cond.privateMethod q.1 ∈ tables_1 ∧ Cond.instanceMethod q.1 ∈ tables_1
theorem lw_p0 : lw_okq (⟨"TalkKnots", "tell", "(I)I"⟩, 8) := ⟨⟨by decide +kernel, by decide +kernel⟩, List.mem_of_getElem? (i := 16) (by decide +kernel), List.mem_of_getElem? (i := 194) (by decide +kernel), List.mem_of_getElem? (i := 195) (by decide +kernel)⟩
theorem lw_p1 : lw_okq (⟨"TalkKnots$Yard", "countFast", "()V"⟩, 7) := ⟨⟨by decide +kernel, by decide +kernel⟩, List.mem_of_getElem? (i := 24) (by decide +kernel), List.mem_of_getElem? (i := 233) (by decide +kernel), List.mem_of_getElem? (i := 234) (by decide +kernel)⟩
theorem lw_p2 : lw_okq (⟨"TalkKnots$Yard", "strain", "(II)I"⟩, 7) := ⟨⟨by decide +kernel, by decide +kernel⟩, List.mem_of_getElem? (i := 24) (by decide +kernel), List.mem_of_getElem? (i := 245) (by decide +kernel), List.mem_of_getElem? (i := 246) (by decide +kernel)⟩
theorem lw_p3 : lw_okq (⟨"TalkKnots$Yard", "heldBy", "(LTalkKnots$Knot;I)I"⟩, 7) := ⟨⟨by decide +kernel, by decide +kernel⟩, List.mem_of_getElem? (i := 24) (by decide +kernel), List.mem_of_getElem? (i := 257) (by decide +kernel), List.mem_of_getElem? (i := 258) (by decide +kernel)⟩
theorem lw_p4 : lw_okq (⟨"TalkKnots$Knot", "spliceHolding", "()I"⟩, 5) := ⟨⟨by decide +kernel, by decide +kernel⟩, List.mem_of_getElem? (i := 31) (by decide +kernel), List.mem_of_getElem? (i := 265) (by decide +kernel), List.mem_of_getElem? (i := 266) (by decide +kernel)⟩
theorem lw_p5 : lw_okq (⟨"TalkKnots", "isKnot", "(I)Z"⟩, 8) := ⟨⟨by decide +kernel, by decide +kernel⟩, List.mem_of_getElem? (i := 16) (by decide +kernel), List.mem_of_getElem? (i := 306) (by decide +kernel), List.mem_of_getElem? (i := 307) (by decide +kernel)⟩
theorem lw_p6 : lw_okq (⟨"TalkKnots$Knot", "openBy", "(I)V"⟩, 5) := ⟨⟨by decide +kernel, by decide +kernel⟩, List.mem_of_getElem? (i := 31) (by decide +kernel), List.mem_of_getElem? (i := 353) (by decide +kernel), List.mem_of_getElem? (i := 354) (by decide +kernel)⟩
theorem lw_p7 : lw_okq (⟨"TalkKnots$Yard", "letGo", "(I)V"⟩, 7) := ⟨⟨by decide +kernel, by decide +kernel⟩, List.mem_of_getElem? (i := 24) (by decide +kernel), List.mem_of_getElem? (i := 382) (by decide +kernel), List.mem_of_getElem? (i := 383) (by decide +kernel)⟩
theorem lw_p8 : lw_okq (⟨"TalkKnots$Yard", "dropMasts", "()V"⟩, 7) := ⟨⟨by decide +kernel, by decide +kernel⟩, List.mem_of_getElem? (i := 24) (by decide +kernel), List.mem_of_getElem? (i := 387) (by decide +kernel), List.mem_of_getElem? (i := 388) (by decide +kernel)⟩
theorem lw_p9 : lw_okq (⟨"TalkKnots$Yard", "settleKnots", "(I)V"⟩, 7) := ⟨⟨by decide +kernel, by decide +kernel⟩, List.mem_of_getElem? (i := 24) (by decide +kernel), List.mem_of_getElem? (i := 392) (by decide +kernel), List.mem_of_getElem? (i := 393) (by decide +kernel)⟩
theorem lw_p10 : lw_okq (⟨"TalkKnots$TextReader", "readToken", "()V"⟩, 7) := ⟨⟨by decide +kernel, by decide +kernel⟩, List.mem_of_getElem? (i := 112) (by decide +kernel), List.mem_of_getElem? (i := 499) (by decide +kernel), List.mem_of_getElem? (i := 500) (by decide +kernel)⟩
theorem lw_p11 : lw_okq (⟨"TalkKnots$TextReader", "readItem", "()Z"⟩, 7) := ⟨⟨by decide +kernel, by decide +kernel⟩, List.mem_of_getElem? (i := 112) (by decide +kernel), List.mem_of_getElem? (i := 514) (by decide +kernel), List.mem_of_getElem? (i := 515) (by decide +kernel)⟩
theorem lw_p12 : lw_okq (⟨"TalkKnots$TextReader", "takeWord", "(Ljava/lang/String;)Z"⟩, 7) := ⟨⟨by decide +kernel, by decide +kernel⟩, List.mem_of_getElem? (i := 112) (by decide +kernel), List.mem_of_getElem? (i := 519) (by decide +kernel), List.mem_of_getElem? (i := 520) (by decide +kernel)⟩
theorem lw_p13 : lw_okq (⟨"TalkKnots$TextReader", "isWord", "(Ljava/lang/String;)Z"⟩, 7) := ⟨⟨by decide +kernel, by decide +kernel⟩, List.mem_of_getElem? (i := 112) (by decide +kernel), List.mem_of_getElem? (i := 523) (by decide +kernel), List.mem_of_getElem? (i := 524) (by decide +kernel)⟩
theorem lw_p14 : lw_okq (⟨"TalkKnots$TextReader", "readMast", "()Z"⟩, 7) := ⟨⟨by decide +kernel, by decide +kernel⟩, List.mem_of_getElem? (i := 112) (by decide +kernel), List.mem_of_getElem? (i := 575) (by decide +kernel), List.mem_of_getElem? (i := 576) (by decide +kernel)⟩
theorem lw_p15 : lw_okq (⟨"TalkKnots$TextReader", "takeNumber", "(I)Z"⟩, 7) := ⟨⟨by decide +kernel, by decide +kernel⟩, List.mem_of_getElem? (i := 112) (by decide +kernel), List.mem_of_getElem? (i := 579) (by decide +kernel), List.mem_of_getElem? (i := 580) (by decide +kernel)⟩
def lw_privs_1 : List (MethodName × Nat) := [(⟨"TalkKnots", "tell", "(I)I"⟩, 8), (⟨"TalkKnots$Yard", "countFast", "()V"⟩, 7), (⟨"TalkKnots$Yard", "strain", "(II)I"⟩, 7), (⟨"TalkKnots$Yard", "heldBy", "(LTalkKnots$Knot;I)I"⟩, 7), (⟨"TalkKnots$Knot", "spliceHolding", "()I"⟩, 5), (⟨"TalkKnots", "isKnot", "(I)Z"⟩, 8), (⟨"TalkKnots$Knot", "openBy", "(I)V"⟩, 5), (⟨"TalkKnots$Yard", "letGo", "(I)V"⟩, 7), (⟨"TalkKnots$Yard", "dropMasts", "()V"⟩, 7), (⟨"TalkKnots$Yard", "settleKnots", "(I)V"⟩, 7), (⟨"TalkKnots$TextReader", "readToken", "()V"⟩, 7), (⟨"TalkKnots$TextReader", "readItem", "()Z"⟩, 7), (⟨"TalkKnots$TextReader", "takeWord", "(Ljava/lang/String;)Z"⟩, 7), (⟨"TalkKnots$TextReader", "isWord", "(Ljava/lang/String;)Z"⟩, 7), (⟨"TalkKnots$TextReader", "readMast", "()Z"⟩, 7), (⟨"TalkKnots$TextReader", "takeNumber", "(I)Z"⟩, 7)]
theorem lw_r1 : ∀ q ∈ lw_privs_1, lw_okq q := List.forall_mem_cons.mpr ⟨lw_p0, List.forall_mem_cons.mpr ⟨lw_p1, List.forall_mem_cons.mpr ⟨lw_p2, List.forall_mem_cons.mpr ⟨lw_p3, List.forall_mem_cons.mpr ⟨lw_p4, List.forall_mem_cons.mpr ⟨lw_p5, List.forall_mem_cons.mpr ⟨lw_p6, List.forall_mem_cons.mpr ⟨lw_p7, List.forall_mem_cons.mpr ⟨lw_p8, List.forall_mem_cons.mpr ⟨lw_p9, List.forall_mem_cons.mpr ⟨lw_p10, List.forall_mem_cons.mpr ⟨lw_p11, List.forall_mem_cons.mpr ⟨lw_p12, List.forall_mem_cons.mpr ⟨lw_p13, List.forall_mem_cons.mpr ⟨lw_p14, List.forall_mem_cons.mpr ⟨lw_p15, fun _ h => absurd h List.not_mem_nil⟩⟩⟩⟩⟩⟩⟩⟩⟩⟩⟩⟩⟩⟩⟩⟩
theorem lw_p16 : lw_okq (⟨"TalkKnots$TextReader", "readWind", "()Z"⟩, 7) := ⟨⟨by decide +kernel, by decide +kernel⟩, List.mem_of_getElem? (i := 112) (by decide +kernel), List.mem_of_getElem? (i := 586) (by decide +kernel), List.mem_of_getElem? (i := 587) (by decide +kernel)⟩
theorem lw_p17 : lw_okq (⟨"TalkKnots$TextReader", "readTease", "()Z"⟩, 7) := ⟨⟨by decide +kernel, by decide +kernel⟩, List.mem_of_getElem? (i := 112) (by decide +kernel), List.mem_of_getElem? (i := 591) (by decide +kernel), List.mem_of_getElem? (i := 592) (by decide +kernel)⟩
theorem lw_p18 : lw_okq (⟨"TalkKnots$TextReader", "readKnot", "()Z"⟩, 7) := ⟨⟨by decide +kernel, by decide +kernel⟩, List.mem_of_getElem? (i := 112) (by decide +kernel), List.mem_of_getElem? (i := 596) (by decide +kernel), List.mem_of_getElem? (i := 597) (by decide +kernel)⟩
theorem lw_p19 : lw_okq (⟨"TalkKnots$TextReader", "kindTold", "()I"⟩, 7) := ⟨⟨by decide +kernel, by decide +kernel⟩, List.mem_of_getElem? (i := 112) (by decide +kernel), List.mem_of_getElem? (i := 600) (by decide +kernel), List.mem_of_getElem? (i := 601) (by decide +kernel)⟩
theorem lw_p20 : lw_okq (⟨"TalkKnots", "goesAsTold", "(LTalkKnots$Sheet;III)Z"⟩, 8) := ⟨⟨by decide +kernel, by decide +kernel⟩, List.mem_of_getElem? (i := 16) (by decide +kernel), List.mem_of_getElem? (i := 673) (by decide +kernel), List.mem_of_getElem? (i := 674) (by decide +kernel)⟩
theorem lw_p21 : lw_okq (⟨"TalkKnots", "allTold", "()I"⟩, 8) := ⟨⟨by decide +kernel, by decide +kernel⟩, List.mem_of_getElem? (i := 16) (by decide +kernel), List.mem_of_getElem? (i := 705) (by decide +kernel), List.mem_of_getElem? (i := 706) (by decide +kernel)⟩
theorem lw_p22 : lw_okq (⟨"TalkKnotsModel", "puts1", "(III)V"⟩, 19) := ⟨⟨by decide +kernel, by decide +kernel⟩, List.mem_of_getElem? (i := 709) (by decide +kernel), List.mem_of_getElem? (i := 715) (by decide +kernel), List.mem_of_getElem? (i := 716) (by decide +kernel)⟩
theorem lw_p23 : lw_okq (⟨"TalkKnotsModel", "becomes", "(II)I"⟩, 19) := ⟨⟨by decide +kernel, by decide +kernel⟩, List.mem_of_getElem? (i := 709) (by decide +kernel), List.mem_of_getElem? (i := 784) (by decide +kernel), List.mem_of_getElem? (i := 785) (by decide +kernel)⟩
theorem lw_p24 : lw_okq (⟨"TalkKnotsModel", "finds", "(I)I"⟩, 19) := ⟨⟨by decide +kernel, by decide +kernel⟩, List.mem_of_getElem? (i := 709) (by decide +kernel), List.mem_of_getElem? (i := 789) (by decide +kernel), List.mem_of_getElem? (i := 790) (by decide +kernel)⟩
theorem lw_p25 : lw_okq (⟨"TalkKnotsModel", "ofMast", "(II)I"⟩, 19) := ⟨⟨by decide +kernel, by decide +kernel⟩, List.mem_of_getElem? (i := 709) (by decide +kernel), List.mem_of_getElem? (i := 808) (by decide +kernel), List.mem_of_getElem? (i := 809) (by decide +kernel)⟩
theorem lw_p26 : lw_okq (⟨"TalkKnotsModel", "knotsOf", "(IZ)I"⟩, 19) := ⟨⟨by decide +kernel, by decide +kernel⟩, List.mem_of_getElem? (i := 709) (by decide +kernel), List.mem_of_getElem? (i := 812) (by decide +kernel), List.mem_of_getElem? (i := 813) (by decide +kernel)⟩
theorem lw_p27 : lw_okq (⟨"TalkKnotsModel", "its", "(II)I"⟩, 19) := ⟨⟨by decide +kernel, by decide +kernel⟩, List.mem_of_getElem? (i := 709) (by decide +kernel), List.mem_of_getElem? (i := 816) (by decide +kernel), List.mem_of_getElem? (i := 817) (by decide +kernel)⟩
theorem lw_p28 : lw_okq (⟨"TalkKnotsModel", "strain", "(I)I"⟩, 19) := ⟨⟨by decide +kernel, by decide +kernel⟩, List.mem_of_getElem? (i := 709) (by decide +kernel), List.mem_of_getElem? (i := 820) (by decide +kernel), List.mem_of_getElem? (i := 821) (by decide +kernel)⟩
theorem lw_p29 : lw_okq (⟨"TalkKnotsModel", "blowing", "()I"⟩, 19) := ⟨⟨by decide +kernel, by decide +kernel⟩, List.mem_of_getElem? (i := 709) (by decide +kernel), List.mem_of_getElem? (i := 827) (by decide +kernel), List.mem_of_getElem? (i := 828) (by decide +kernel)⟩
theorem lw_p30 : lw_okq (⟨"TalkKnotsModel", "heldOf", "(I)I"⟩, 19) := ⟨⟨by decide +kernel, by decide +kernel⟩, List.mem_of_getElem? (i := 709) (by decide +kernel), List.mem_of_getElem? (i := 831) (by decide +kernel), List.mem_of_getElem? (i := 832) (by decide +kernel)⟩
theorem lw_p31 : lw_okq (⟨"TalkKnotsModel", "holding", "(I)I"⟩, 19) := ⟨⟨by decide +kernel, by decide +kernel⟩, List.mem_of_getElem? (i := 709) (by decide +kernel), List.mem_of_getElem? (i := 835) (by decide +kernel), List.mem_of_getElem? (i := 836) (by decide +kernel)⟩
def lw_privs_2 : List (MethodName × Nat) := [(⟨"TalkKnots$TextReader", "readWind", "()Z"⟩, 7), (⟨"TalkKnots$TextReader", "readTease", "()Z"⟩, 7), (⟨"TalkKnots$TextReader", "readKnot", "()Z"⟩, 7), (⟨"TalkKnots$TextReader", "kindTold", "()I"⟩, 7), (⟨"TalkKnots", "goesAsTold", "(LTalkKnots$Sheet;III)Z"⟩, 8), (⟨"TalkKnots", "allTold", "()I"⟩, 8), (⟨"TalkKnotsModel", "puts1", "(III)V"⟩, 19), (⟨"TalkKnotsModel", "becomes", "(II)I"⟩, 19), (⟨"TalkKnotsModel", "finds", "(I)I"⟩, 19), (⟨"TalkKnotsModel", "ofMast", "(II)I"⟩, 19), (⟨"TalkKnotsModel", "knotsOf", "(IZ)I"⟩, 19), (⟨"TalkKnotsModel", "its", "(II)I"⟩, 19), (⟨"TalkKnotsModel", "strain", "(I)I"⟩, 19), (⟨"TalkKnotsModel", "blowing", "()I"⟩, 19), (⟨"TalkKnotsModel", "heldOf", "(I)I"⟩, 19), (⟨"TalkKnotsModel", "holding", "(I)I"⟩, 19)]
theorem lw_r2 : ∀ q ∈ lw_privs_2, lw_okq q := List.forall_mem_cons.mpr ⟨lw_p16, List.forall_mem_cons.mpr ⟨lw_p17, List.forall_mem_cons.mpr ⟨lw_p18, List.forall_mem_cons.mpr ⟨lw_p19, List.forall_mem_cons.mpr ⟨lw_p20, List.forall_mem_cons.mpr ⟨lw_p21, List.forall_mem_cons.mpr ⟨lw_p22, List.forall_mem_cons.mpr ⟨lw_p23, List.forall_mem_cons.mpr ⟨lw_p24, List.forall_mem_cons.mpr ⟨lw_p25, List.forall_mem_cons.mpr ⟨lw_p26, List.forall_mem_cons.mpr ⟨lw_p27, List.forall_mem_cons.mpr ⟨lw_p28, List.forall_mem_cons.mpr ⟨lw_p29, List.forall_mem_cons.mpr ⟨lw_p30, List.forall_mem_cons.mpr ⟨lw_p31, fun _ h => absurd h List.not_mem_nil⟩⟩⟩⟩⟩⟩⟩⟩⟩⟩⟩⟩⟩⟩⟩⟩
theorem lw_p32 : lw_okq (⟨"TalkKnotsModel", "upSet", "()I"⟩, 19) := ⟨⟨by decide +kernel, by decide +kernel⟩, List.mem_of_getElem? (i := 709) (by decide +kernel), List.mem_of_getElem? (i := 846) (by decide +kernel), List.mem_of_getElem? (i := 847) (by decide +kernel)⟩
theorem lw_p33 : lw_okq (⟨"TalkKnotsModel", "fastSet", "()I"⟩, 19) := ⟨⟨by decide +kernel, by decide +kernel⟩, List.mem_of_getElem? (i := 709) (by decide +kernel), List.mem_of_getElem? (i := 850) (by decide +kernel), List.mem_of_getElem? (i := 851) (by decide +kernel)⟩
theorem lw_p34 : lw_okq (⟨"TalkKnotsModel", "sumOf", "(I)I"⟩, 19) := ⟨⟨by decide +kernel, by decide +kernel⟩, List.mem_of_getElem? (i := 709) (by decide +kernel), List.mem_of_getElem? (i := 854) (by decide +kernel), List.mem_of_getElem? (i := 855) (by decide +kernel)⟩
theorem lw_p35 : lw_okq (⟨"TalkKnotsModel", "adds", "(IIII)V"⟩, 19) := ⟨⟨by decide +kernel, by decide +kernel⟩, List.mem_of_getElem? (i := 709) (by decide +kernel), List.mem_of_getElem? (i := 866) (by decide +kernel), List.mem_of_getElem? (i := 867) (by decide +kernel)⟩
theorem lw_p36 : lw_okq (⟨"TalkKnotsModel", "puts", "(III)V"⟩, 19) := ⟨⟨by decide +kernel, by decide +kernel⟩, List.mem_of_getElem? (i := 709) (by decide +kernel), List.mem_of_getElem? (i := 870) (by decide +kernel), List.mem_of_getElem? (i := 871) (by decide +kernel)⟩
theorem lw_p37 : lw_okq (⟨"TalkKnotsModel", "isOne", "(I)Z"⟩, 19) := ⟨⟨by decide +kernel, by decide +kernel⟩, List.mem_of_getElem? (i := 709) (by decide +kernel), List.mem_of_getElem? (i := 878) (by decide +kernel), List.mem_of_getElem? (i := 879) (by decide +kernel)⟩
theorem lw_p38 : lw_okq (⟨"TalkKnotsModel", "settling", "(I)I"⟩, 19) := ⟨⟨by decide +kernel, by decide +kernel⟩, List.mem_of_getElem? (i := 709) (by decide +kernel), List.mem_of_getElem? (i := 882) (by decide +kernel), List.mem_of_getElem? (i := 883) (by decide +kernel)⟩
theorem lw_p39 : lw_okq (⟨"TalkKnotsModel", "teasing", "(I)I"⟩, 19) := ⟨⟨by decide +kernel, by decide +kernel⟩, List.mem_of_getElem? (i := 709) (by decide +kernel), List.mem_of_getElem? (i := 886) (by decide +kernel), List.mem_of_getElem? (i := 887) (by decide +kernel)⟩
theorem lw_p40 : lw_okq (⟨"TalkKnotsModel", "isGiving", "(II)Z"⟩, 19) := ⟨⟨by decide +kernel, by decide +kernel⟩, List.mem_of_getElem? (i := 709) (by decide +kernel), List.mem_of_getElem? (i := 890) (by decide +kernel), List.mem_of_getElem? (i := 891) (by decide +kernel)⟩
theorem lw_p41 : lw_okq (⟨"TalkKnotsModel", "teases", "(I)V"⟩, 19) := ⟨⟨by decide +kernel, by decide +kernel⟩, List.mem_of_getElem? (i := 709) (by decide +kernel), List.mem_of_getElem? (i := 914) (by decide +kernel), List.mem_of_getElem? (i := 915) (by decide +kernel)⟩
theorem lw_p42 : lw_okq (⟨"TalkKnotsModel", "passes", "(I)V"⟩, 19) := ⟨⟨by decide +kernel, by decide +kernel⟩, List.mem_of_getElem? (i := 709) (by decide +kernel), List.mem_of_getElem? (i := 932) (by decide +kernel), List.mem_of_getElem? (i := 933) (by decide +kernel)⟩
theorem lw_p43 : lw_okq (⟨"TalkKnotsModel", "oneHour", "()V"⟩, 19) := ⟨⟨by decide +kernel, by decide +kernel⟩, List.mem_of_getElem? (i := 709) (by decide +kernel), List.mem_of_getElem? (i := 936) (by decide +kernel), List.mem_of_getElem? (i := 937) (by decide +kernel)⟩
theorem lw_p44 : lw_okq (⟨"TalkKnotsModel", "pulls", "(I)V"⟩, 19) := ⟨⟨by decide +kernel, by decide +kernel⟩, List.mem_of_getElem? (i := 709) (by decide +kernel), List.mem_of_getElem? (i := 940) (by decide +kernel), List.mem_of_getElem? (i := 941) (by decide +kernel)⟩
theorem lw_p45 : lw_okq (⟨"TalkKnotsModel", "moveAll", "(Z[I)V"⟩, 19) := ⟨⟨by decide +kernel, by decide +kernel⟩, List.mem_of_getElem? (i := 709) (by decide +kernel), List.mem_of_getElem? (i := 948) (by decide +kernel), List.mem_of_getElem? (i := 949) (by decide +kernel)⟩
theorem lw_p46 : lw_okq (⟨"TalkKnotsModel", "goneIn", "(I)I"⟩, 19) := ⟨⟨by decide +kernel, by decide +kernel⟩, List.mem_of_getElem? (i := 709) (by decide +kernel), List.mem_of_getElem? (i := 960) (by decide +kernel), List.mem_of_getElem? (i := 961) (by decide +kernel)⟩
theorem lw_p47 : lw_okq (⟨"TalkKnotsModel", "lasts", "(II)Z"⟩, 19) := ⟨⟨by decide +kernel, by decide +kernel⟩, List.mem_of_getElem? (i := 709) (by decide +kernel), List.mem_of_getElem? (i := 981) (by decide +kernel), List.mem_of_getElem? (i := 982) (by decide +kernel)⟩
def lw_privs_3 : List (MethodName × Nat) := [(⟨"TalkKnotsModel", "upSet", "()I"⟩, 19), (⟨"TalkKnotsModel", "fastSet", "()I"⟩, 19), (⟨"TalkKnotsModel", "sumOf", "(I)I"⟩, 19), (⟨"TalkKnotsModel", "adds", "(IIII)V"⟩, 19), (⟨"TalkKnotsModel", "puts", "(III)V"⟩, 19), (⟨"TalkKnotsModel", "isOne", "(I)Z"⟩, 19), (⟨"TalkKnotsModel", "settling", "(I)I"⟩, 19), (⟨"TalkKnotsModel", "teasing", "(I)I"⟩, 19), (⟨"TalkKnotsModel", "isGiving", "(II)Z"⟩, 19), (⟨"TalkKnotsModel", "teases", "(I)V"⟩, 19), (⟨"TalkKnotsModel", "passes", "(I)V"⟩, 19), (⟨"TalkKnotsModel", "oneHour", "()V"⟩, 19), (⟨"TalkKnotsModel", "pulls", "(I)V"⟩, 19), (⟨"TalkKnotsModel", "moveAll", "(Z[I)V"⟩, 19), (⟨"TalkKnotsModel", "goneIn", "(I)I"⟩, 19), (⟨"TalkKnotsModel", "lasts", "(II)Z"⟩, 19)]
theorem lw_r3 : ∀ q ∈ lw_privs_3, lw_okq q := List.forall_mem_cons.mpr ⟨lw_p32, List.forall_mem_cons.mpr ⟨lw_p33, List.forall_mem_cons.mpr ⟨lw_p34, List.forall_mem_cons.mpr ⟨lw_p35, List.forall_mem_cons.mpr ⟨lw_p36, List.forall_mem_cons.mpr ⟨lw_p37, List.forall_mem_cons.mpr ⟨lw_p38, List.forall_mem_cons.mpr ⟨lw_p39, List.forall_mem_cons.mpr ⟨lw_p40, List.forall_mem_cons.mpr ⟨lw_p41, List.forall_mem_cons.mpr ⟨lw_p42, List.forall_mem_cons.mpr ⟨lw_p43, List.forall_mem_cons.mpr ⟨lw_p44, List.forall_mem_cons.mpr ⟨lw_p45, List.forall_mem_cons.mpr ⟨lw_p46, List.forall_mem_cons.mpr ⟨lw_p47, fun _ h => absurd h List.not_mem_nil⟩⟩⟩⟩⟩⟩⟩⟩⟩⟩⟩⟩⟩⟩⟩⟩
theorem lw_p48 : lw_okq (⟨"TalkKnotsModel", "advance", "()V"⟩, 19) := ⟨⟨by decide +kernel, by decide +kernel⟩, List.mem_of_getElem? (i := 709) (by decide +kernel), List.mem_of_getElem? (i := 1013) (by decide +kernel), List.mem_of_getElem? (i := 1014) (by decide +kernel)⟩
theorem lw_p49 : lw_okq (⟨"TalkKnotsModel", "byteAt", "(I)I"⟩, 19) := ⟨⟨by decide +kernel, by decide +kernel⟩, List.mem_of_getElem? (i := 709) (by decide +kernel), List.mem_of_getElem? (i := 1017) (by decide +kernel), List.mem_of_getElem? (i := 1018) (by decide +kernel)⟩
theorem lw_p50 : lw_okq (⟨"TalkKnotsModel", "wantItem", "()V"⟩, 19) := ⟨⟨by decide +kernel, by decide +kernel⟩, List.mem_of_getElem? (i := 709) (by decide +kernel), List.mem_of_getElem? (i := 1030) (by decide +kernel), List.mem_of_getElem? (i := 1031) (by decide +kernel)⟩
theorem lw_p51 : lw_okq (⟨"TalkKnotsModel", "kindHere", "()I"⟩, 19) := ⟨⟨by decide +kernel, by decide +kernel⟩, List.mem_of_getElem? (i := 709) (by decide +kernel), List.mem_of_getElem? (i := 1034) (by decide +kernel), List.mem_of_getElem? (i := 1035) (by decide +kernel)⟩
theorem lw_p52 : lw_okq (⟨"TalkKnotsModel", "isWord", "(J)Z"⟩, 19) := ⟨⟨by decide +kernel, by decide +kernel⟩, List.mem_of_getElem? (i := 709) (by decide +kernel), List.mem_of_getElem? (i := 1039) (by decide +kernel), List.mem_of_getElem? (i := 1040) (by decide +kernel)⟩
theorem lw_p53 : lw_okq (⟨"TalkKnotsModel", "wantOne", "(I)V"⟩, 19) := ⟨⟨by decide +kernel, by decide +kernel⟩, List.mem_of_getElem? (i := 709) (by decide +kernel), List.mem_of_getElem? (i := 1048) (by decide +kernel), List.mem_of_getElem? (i := 1049) (by decide +kernel)⟩
theorem lw_p54 : lw_okq (⟨"TalkKnotsModel", "wantNumber", "(II)I"⟩, 19) := ⟨⟨by decide +kernel, by decide +kernel⟩, List.mem_of_getElem? (i := 709) (by decide +kernel), List.mem_of_getElem? (i := 1052) (by decide +kernel), List.mem_of_getElem? (i := 1053) (by decide +kernel)⟩
theorem lw_p55 : lw_okq (⟨"TalkKnotsModel", "mayWant", "(JIII)I"⟩, 19) := ⟨⟨by decide +kernel, by decide +kernel⟩, List.mem_of_getElem? (i := 709) (by decide +kernel), List.mem_of_getElem? (i := 1057) (by decide +kernel), List.mem_of_getElem? (i := 1058) (by decide +kernel)⟩
theorem lw_p56 : lw_okq (⟨"TalkKnotsModel", "may", "(J)Z"⟩, 19) := ⟨⟨by decide +kernel, by decide +kernel⟩, List.mem_of_getElem? (i := 709) (by decide +kernel), List.mem_of_getElem? (i := 1062) (by decide +kernel), List.mem_of_getElem? (i := 1063) (by decide +kernel)⟩
theorem lw_p57 : lw_okq (⟨"TalkKnotsModel", "wantMast", "()V"⟩, 19) := ⟨⟨by decide +kernel, by decide +kernel⟩, List.mem_of_getElem? (i := 709) (by decide +kernel), List.mem_of_getElem? (i := 1067) (by decide +kernel), List.mem_of_getElem? (i := 1068) (by decide +kernel)⟩
theorem lw_p58 : lw_okq (⟨"TalkKnotsModel", "wantWind", "()V"⟩, 19) := ⟨⟨by decide +kernel, by decide +kernel⟩, List.mem_of_getElem? (i := 709) (by decide +kernel), List.mem_of_getElem? (i := 1073) (by decide +kernel), List.mem_of_getElem? (i := 1074) (by decide +kernel)⟩
theorem lw_p59 : lw_okq (⟨"TalkKnotsModel", "isPart", "(III)Z"⟩, 19) := ⟨⟨by decide +kernel, by decide +kernel⟩, List.mem_of_getElem? (i := 709) (by decide +kernel), List.mem_of_getElem? (i := 1098) (by decide +kernel), List.mem_of_getElem? (i := 1099) (by decide +kernel)⟩
theorem lw_p60 : lw_okq (⟨"TalkKnotsModel", "badSheet", "(I)I"⟩, 19) := ⟨⟨by decide +kernel, by decide +kernel⟩, List.mem_of_getElem? (i := 709) (by decide +kernel), List.mem_of_getElem? (i := 1106) (by decide +kernel), List.mem_of_getElem? (i := 1107) (by decide +kernel)⟩
theorem lw_p61 : lw_okq (⟨"TalkKnotsModel", "isSo", "(II)Z"⟩, 19) := ⟨⟨by decide +kernel, by decide +kernel⟩, List.mem_of_getElem? (i := 709) (by decide +kernel), List.mem_of_getElem? (i := 1119) (by decide +kernel), List.mem_of_getElem? (i := 1120) (by decide +kernel)⟩
theorem lw_p62 : lw_okq (⟨"TalkKnotsModel", "weights", "()I"⟩, 19) := ⟨⟨by decide +kernel, by decide +kernel⟩, List.mem_of_getElem? (i := 709) (by decide +kernel), List.mem_of_getElem? (i := 1139) (by decide +kernel), List.mem_of_getElem? (i := 1140) (by decide +kernel)⟩
def lw_privs_4 : List (MethodName × Nat) := [(⟨"TalkKnotsModel", "advance", "()V"⟩, 19), (⟨"TalkKnotsModel", "byteAt", "(I)I"⟩, 19), (⟨"TalkKnotsModel", "wantItem", "()V"⟩, 19), (⟨"TalkKnotsModel", "kindHere", "()I"⟩, 19), (⟨"TalkKnotsModel", "isWord", "(J)Z"⟩, 19), (⟨"TalkKnotsModel", "wantOne", "(I)V"⟩, 19), (⟨"TalkKnotsModel", "wantNumber", "(II)I"⟩, 19), (⟨"TalkKnotsModel", "mayWant", "(JIII)I"⟩, 19), (⟨"TalkKnotsModel", "may", "(J)Z"⟩, 19), (⟨"TalkKnotsModel", "wantMast", "()V"⟩, 19), (⟨"TalkKnotsModel", "wantWind", "()V"⟩, 19), (⟨"TalkKnotsModel", "isPart", "(III)Z"⟩, 19), (⟨"TalkKnotsModel", "badSheet", "(I)I"⟩, 19), (⟨"TalkKnotsModel", "isSo", "(II)Z"⟩, 19), (⟨"TalkKnotsModel", "weights", "()I"⟩, 19)]
theorem lw_r4 : ∀ q ∈ lw_privs_4, lw_okq q := List.forall_mem_cons.mpr ⟨lw_p48, List.forall_mem_cons.mpr ⟨lw_p49, List.forall_mem_cons.mpr ⟨lw_p50, List.forall_mem_cons.mpr ⟨lw_p51, List.forall_mem_cons.mpr ⟨lw_p52, List.forall_mem_cons.mpr ⟨lw_p53, List.forall_mem_cons.mpr ⟨lw_p54, List.forall_mem_cons.mpr ⟨lw_p55, List.forall_mem_cons.mpr ⟨lw_p56, List.forall_mem_cons.mpr ⟨lw_p57, List.forall_mem_cons.mpr ⟨lw_p58, List.forall_mem_cons.mpr ⟨lw_p59, List.forall_mem_cons.mpr ⟨lw_p60, List.forall_mem_cons.mpr ⟨lw_p61, List.forall_mem_cons.mpr ⟨lw_p62, fun _ h => absurd h List.not_mem_nil⟩⟩⟩⟩⟩⟩⟩⟩⟩⟩⟩⟩⟩⟩⟩
def lw_privs : List (MethodName × Nat) := lw_privs_1 ++ (lw_privs_2 ++ (lw_privs_3 ++ (lw_privs_4)))
def lw_tbl : List Cond := k2_sels lw_privs ++ tables_1
theorem lw_privs_ok : ∀ q ∈ lw_privs, lw_okq q := by
  show ∀ q ∈ lw_privs_1 ++ (lw_privs_2 ++ (lw_privs_3 ++ (lw_privs_4))), lw_okq q
  exact List.forall_mem_append.mpr ⟨lw_r1, List.forall_mem_append.mpr ⟨lw_r2, List.forall_mem_append.mpr ⟨lw_r3, lw_r4⟩⟩⟩
end
section
def RX0 : String := "TalkKnots$Knot"
def TX0 : u_T := fun k => match k with
  | 0 => ("TalkKnots$Knot", "kind", "I", false)
  | 1 => ("TalkKnots$Knot", "mast", "I", false)
  | 2 => ("TalkKnots$Knot", "open", "I", false)
  | 3 => ("TalkKnots$Knot", "age", "I", false)
  | _ => ("TalkKnots$Knot", "fast", "Z", false)
def tyX0 : Nat → FieldType := fun k => match k with
  | 0 => .int
  | 1 => .int
  | 2 => .int
  | 3 => .int
  | _ => .boolean
abbrev wsX00 : List Cond := u_ws RX0 TX0 5
theorem nmX0 : ∀ a, a < 5 → ∀ b, b < 5 → a ≠ b → (TX0 a).2.1 ≠ (TX0 b).2.1 := by decide +kernel
theorem tyX0_ok : ∀ k, k < 5 → parseFieldDescriptor (TX0 k).2.2.1 = some (tyX0 k) := by decide +kernel
abbrev cX0_init : ByteArray := prog_2_method_1_code
def yX0_init : MethodName := ⟨RX0, "<init>", "()V"⟩
abbrev cX0_begin : ByteArray := prog_2_method_2_code
def yX0_begin : MethodName := ⟨RX0, "begin", "(II)V"⟩
abbrev cX0_beLike : ByteArray := prog_2_method_3_code
def yX0_beLike : MethodName := ⟨RX0, "beLike", "(LTalkKnots$Knot;)V"⟩
abbrev cX0_isOf : ByteArray := prog_2_method_4_code
def yX0_isOf : MethodName := ⟨RX0, "isOf", "(I)Z"⟩
abbrev cX0_holding : ByteArray := prog_2_method_5_code
def yX0_holding : MethodName := ⟨RX0, "holding", "(II)I"⟩
abbrev cX0_spliceHolding : ByteArray := prog_2_method_6_code
def yX0_spliceHolding : MethodName := ⟨RX0, "spliceHolding", "()I"⟩
abbrev cX0_settling : ByteArray := prog_2_method_7_code
def yX0_settling : MethodName := ⟨RX0, "settling", "(I)I"⟩
abbrev cX0_teasing : ByteArray := prog_2_method_8_code
def yX0_teasing : MethodName := ⟨RX0, "teasing", "()I"⟩
abbrev cX0_givesWay : ByteArray := prog_2_method_9_code
def yX0_givesWay : MethodName := ⟨RX0, "givesWay", "(II)Z"⟩
abbrev cX0_beTeased : ByteArray := prog_2_method_10_code
def yX0_beTeased : MethodName := ⟨RX0, "beTeased", "()V"⟩
abbrev cX0_settle : ByteArray := prog_2_method_11_code
def yX0_settle : MethodName := ⟨RX0, "settle", "(I)V"⟩
abbrev cX0_openBy : ByteArray := prog_2_method_12_code
def yX0_openBy : MethodName := ⟨RX0, "openBy", "(I)V"⟩
def RX1 : String := "TalkKnots$Sheet"
def TX1 : u_T := fun k => match k with
  | 0 => ("TalkKnots$Sheet", "bits", "I", false)
  | 1 => ("TalkKnots$Sheet", "size", "I", false)
  | _ => ("TalkKnots$Sheet", "numbers", "[J", true)
def tyX1 : Nat → FieldType := fun k => match k with
  | 0 => .int
  | 1 => .int
  | _ => .array .long
abbrev wsX10 : List Cond := u_ws RX1 TX1 3
theorem nmX1 : ∀ a, a < 3 → ∀ b, b < 3 → a ≠ b → (TX1 a).2.1 ≠ (TX1 b).2.1 := by decide +kernel
theorem tyX1_ok : ∀ k, k < 3 → parseFieldDescriptor (TX1 k).2.2.1 = some (tyX1 k) := by decide +kernel
abbrev cX1_init : ByteArray := prog_3_method_1_code
def yX1_init : MethodName := ⟨RX1, "<init>", "()V"⟩
abbrev cX1_begin : ByteArray := prog_3_method_2_code
def yX1_begin : MethodName := ⟨RX1, "begin", "(II)V"⟩
abbrev cX1_isMissing : ByteArray := prog_3_method_3_code
def yX1_isMissing : MethodName := ⟨RX1, "isMissing", "()Z"⟩
abbrev cX1_has : ByteArray := prog_3_method_4_code
def yX1_has : MethodName := ⟨RX1, "has", "(II)Z"⟩
abbrev cX1_mayBeginWith : ByteArray := prog_3_method_5_code
def yX1_mayBeginWith : MethodName := ⟨RX1, "mayBeginWith", "(I)Z"⟩
abbrev cX1_put : ByteArray := prog_3_method_6_code
def yX1_put : MethodName := ⟨RX1, "put", "(IJ)V"⟩
def RX2 : String := "TalkKnots$Tape"
def TX2 : u_T := fun k => match k with
  | 0 => ("TalkKnots$Tape", "bytes", "[I", true)
  | _ => ("TalkKnots$Tape", "length", "I", false)
def tyX2 : Nat → FieldType := fun k => match k with
  | 0 => .array .int
  | _ => .int
abbrev wsX20 : List Cond := u_ws RX2 TX2 2
theorem nmX2 : ∀ a, a < 2 → ∀ b, b < 2 → a ≠ b → (TX2 a).2.1 ≠ (TX2 b).2.1 := by decide +kernel
theorem tyX2_ok : ∀ k, k < 2 → parseFieldDescriptor (TX2 k).2.2.1 = some (tyX2 k) := by decide +kernel
abbrev cX2_init : ByteArray := prog_4_method_1_code
def yX2_init : MethodName := ⟨RX2, "<init>", "()V"⟩
abbrev cX2_add : ByteArray := prog_4_method_2_code
def yX2_add : MethodName := ⟨RX2, "add", "(I)V"⟩
abbrev cX2_byteAt : ByteArray := prog_4_method_3_code
def yX2_byteAt : MethodName := ⟨RX2, "byteAt", "(I)I"⟩
def RX3 : String := "TalkKnots$TextReader"
def TX3 : u_T := fun k => match k with
  | 0 => ("TalkKnots$TextReader", "tape", "LTalkKnots$Tape;", true)
  | 1 => ("TalkKnots$TextReader", "yard", "LTalkKnots$Yard;", true)
  | 2 => ("TalkKnots$TextReader", "at", "I", false)
  | 3 => ("TalkKnots$TextReader", "token", "I", false)
  | 4 => ("TalkKnots$TextReader", "start", "I", false)
  | 5 => ("TalkKnots$TextReader", "value", "I", false)
  | _ => ("TalkKnots$TextReader", "taken", "I", false)
def tyX3 : Nat → FieldType := fun k => match k with
  | 0 => .object "TalkKnots$Tape"
  | 1 => .object "TalkKnots$Yard"
  | 2 => .int
  | 3 => .int
  | 4 => .int
  | 5 => .int
  | _ => .int
abbrev wsX30 : List Cond := u_ws RX3 TX3 7
theorem nmX3 : ∀ a, a < 7 → ∀ b, b < 7 → a ≠ b → (TX3 a).2.1 ≠ (TX3 b).2.1 := by decide +kernel
theorem tyX3_ok : ∀ k, k < 7 → parseFieldDescriptor (TX3 k).2.2.1 = some (tyX3 k) := by decide +kernel
abbrev cX3_init : ByteArray := prog_5_method_1_code
def yX3_init : MethodName := ⟨RX3, "<init>", "(LTalkKnots$Tape;LTalkKnots$Yard;)V"⟩
abbrev cX3_readText : ByteArray := prog_5_method_2_code
def yX3_readText : MethodName := ⟨RX3, "readText", "()I"⟩
abbrev cX3_readItem : ByteArray := prog_5_method_3_code
def yX3_readItem : MethodName := ⟨RX3, "readItem", "()Z"⟩
abbrev cX3_readMast : ByteArray := prog_5_method_4_code
def yX3_readMast : MethodName := ⟨RX3, "readMast", "()Z"⟩
abbrev cX3_readWind : ByteArray := prog_5_method_5_code
def yX3_readWind : MethodName := ⟨RX3, "readWind", "()Z"⟩
abbrev cX3_readTease : ByteArray := prog_5_method_6_code
def yX3_readTease : MethodName := ⟨RX3, "readTease", "()Z"⟩
abbrev cX3_readKnot : ByteArray := prog_5_method_7_code
def yX3_readKnot : MethodName := ⟨RX3, "readKnot", "()Z"⟩
abbrev cX3_kindTold : ByteArray := prog_5_method_8_code
def yX3_kindTold : MethodName := ⟨RX3, "kindTold", "()I"⟩
abbrev cX3_nameOf : ByteArray := prog_5_method_9_code
def yX3_nameOf : MethodName := ⟨RX3, "nameOf", "(I)Ljava/lang/String;"⟩
abbrev cX3_takeWord : ByteArray := prog_5_method_10_code
def yX3_takeWord : MethodName := ⟨RX3, "takeWord", "(Ljava/lang/String;)Z"⟩
abbrev cX3_isWord : ByteArray := prog_5_method_11_code
def yX3_isWord : MethodName := ⟨RX3, "isWord", "(Ljava/lang/String;)Z"⟩
abbrev cX3_takeNumber : ByteArray := prog_5_method_12_code
def yX3_takeNumber : MethodName := ⟨RX3, "takeNumber", "(I)Z"⟩
abbrev cX3_readToken : ByteArray := prog_5_method_13_code
def yX3_readToken : MethodName := ⟨RX3, "readToken", "()V"⟩
abbrev cX3_isLetter : ByteArray := prog_5_method_14_code
def yX3_isLetter : MethodName := ⟨RX3, "isLetter", "(I)Z"⟩
abbrev cX3_isDigit : ByteArray := prog_5_method_15_code
def yX3_isDigit : MethodName := ⟨RX3, "isDigit", "(I)Z"⟩
def RX4 : String := "TalkKnots$Yard"
def TX4 : u_T := fun k => match k with
  | 0 => ("TalkKnots$Yard", "hour", "I", false)
  | 1 => ("TalkKnots$Yard", "count", "I", false)
  | 2 => ("TalkKnots$Yard", "up", "I", false)
  | 3 => ("TalkKnots$Yard", "winds", "[I", true)
  | 4 => ("TalkKnots$Yard", "weights", "[I", true)
  | 5 => ("TalkKnots$Yard", "knots", "[LTalkKnots$Knot;", true)
  | _ => ("TalkKnots$Yard", "fastOn", "[I", true)
def tyX4 : Nat → FieldType := fun k => match k with
  | 0 => .int
  | 1 => .int
  | 2 => .int
  | 3 => .array .int
  | 4 => .array .int
  | 5 => .array (.object "TalkKnots$Knot")
  | _ => .array .int
abbrev wsX40 : List Cond := u_ws RX4 TX4 7
theorem nmX4 : ∀ a, a < 7 → ∀ b, b < 7 → a ≠ b → (TX4 a).2.1 ≠ (TX4 b).2.1 := by decide +kernel
theorem tyX4_ok : ∀ k, k < 7 → parseFieldDescriptor (TX4 k).2.2.1 = some (tyX4 k) := by decide +kernel
abbrev cX4_init : ByteArray := prog_6_method_1_code
def yX4_init : MethodName := ⟨RX4, "<init>", "()V"⟩
abbrev cX4_become : ByteArray := prog_6_method_2_code
def yX4_become : MethodName := ⟨RX4, "become", "(LTalkKnots$Yard;)V"⟩
abbrev cX4_place : ByteArray := prog_6_method_3_code
def yX4_place : MethodName := ⟨RX4, "place", "()I"⟩
abbrev cX4_windNow : ByteArray := prog_6_method_4_code
def yX4_windNow : MethodName := ⟨RX4, "windNow", "()I"⟩
abbrev cX4_isUp : ByteArray := prog_6_method_5_code
def yX4_isUp : MethodName := ⟨RX4, "isUp", "(I)Z"⟩
abbrev cX4_putUp : ByteArray := prog_6_method_6_code
def yX4_putUp : MethodName := ⟨RX4, "putUp", "(IZ)V"⟩
abbrev cX4_isFull : ByteArray := prog_6_method_7_code
def yX4_isFull : MethodName := ⟨RX4, "isFull", "()Z"⟩
abbrev cX4_addKnot : ByteArray := prog_6_method_8_code
def yX4_addKnot : MethodName := ⟨RX4, "addKnot", "(II)I"⟩
abbrev cX4_knotsOf : ByteArray := prog_6_method_9_code
def yX4_knotsOf : MethodName := ⟨RX4, "knotsOf", "(I)I"⟩
abbrev cX4_fastKnots : ByteArray := prog_6_method_10_code
def yX4_fastKnots : MethodName := ⟨RX4, "fastKnots", "()I"⟩
abbrev cX4_allOpen : ByteArray := prog_6_method_11_code
def yX4_allOpen : MethodName := ⟨RX4, "allOpen", "()I"⟩
abbrev cX4_allAges : ByteArray := prog_6_method_12_code
def yX4_allAges : MethodName := ⟨RX4, "allAges", "()I"⟩
abbrev cX4_allWeights : ByteArray := prog_6_method_13_code
def yX4_allWeights : MethodName := ⟨RX4, "allWeights", "()I"⟩
abbrev cX4_strainOn : ByteArray := prog_6_method_14_code
def yX4_strainOn : MethodName := ⟨RX4, "strainOn", "(I)I"⟩
abbrev cX4_holdingOf : ByteArray := prog_6_method_15_code
def yX4_holdingOf : MethodName := ⟨RX4, "holdingOf", "(LTalkKnots$Knot;)I"⟩
abbrev cX4_allHolding : ByteArray := prog_6_method_16_code
def yX4_allHolding : MethodName := ⟨RX4, "allHolding", "(I)I"⟩
abbrev cX4_wouldGive : ByteArray := prog_6_method_17_code
def yX4_wouldGive : MethodName := ⟨RX4, "wouldGive", "(LTalkKnots$Knot;)Z"⟩
abbrev cX4_passHours : ByteArray := prog_6_method_18_code
def yX4_passHours : MethodName := ⟨RX4, "passHours", "(I)V"⟩
abbrev cX4_passHour : ByteArray := prog_6_method_19_code
def yX4_passHour : MethodName := ⟨RX4, "passHour", "()V"⟩
abbrev cX4_staysUp : ByteArray := prog_6_method_20_code
def yX4_staysUp : MethodName := ⟨RX4, "staysUp", "(II)Z"⟩
abbrev cX4_staysFast : ByteArray := prog_6_method_21_code
def yX4_staysFast : MethodName := ⟨RX4, "staysFast", "(LTalkKnots$Knot;I)Z"⟩
abbrev cX4_hoursTillFallen : ByteArray := prog_6_method_22_code
def yX4_hoursTillFallen : MethodName := ⟨RX4, "hoursTillFallen", "(I)I"⟩
abbrev cX4_hoursTillLoose : ByteArray := prog_6_method_23_code
def yX4_hoursTillLoose : MethodName := ⟨RX4, "hoursTillLoose", "(LTalkKnots$Knot;)I"⟩
abbrev cX4_countFast : ByteArray := prog_6_method_24_code
def yX4_countFast : MethodName := ⟨RX4, "countFast", "()V"⟩
abbrev cX4_strain : ByteArray := prog_6_method_25_code
def yX4_strain : MethodName := ⟨RX4, "strain", "(II)I"⟩
abbrev cX4_heldBy : ByteArray := prog_6_method_26_code
def yX4_heldBy : MethodName := ⟨RX4, "heldBy", "(LTalkKnots$Knot;I)I"⟩
abbrev cX4_letGo : ByteArray := prog_6_method_27_code
def yX4_letGo : MethodName := ⟨RX4, "letGo", "(I)V"⟩
abbrev cX4_dropMasts : ByteArray := prog_6_method_28_code
def yX4_dropMasts : MethodName := ⟨RX4, "dropMasts", "()V"⟩
abbrev cX4_settleKnots : ByteArray := prog_6_method_29_code
def yX4_settleKnots : MethodName := ⟨RX4, "settleKnots", "(I)V"⟩
def RX5 : String := "TalkKnots"
def TX5 : u_T := fun k => match k with
  | 0 => ("TalkKnots", "present", "LTalkKnots$Yard;", true)
  | 1 => ("TalkKnots", "trial", "LTalkKnots$Yard;", true)
  | 2 => ("TalkKnots", "kept", "LTalkKnots$Yard;", true)
  | 3 => ("TalkKnots", "isKept", "Z", false)
  | 4 => ("TalkKnots", "tape", "LTalkKnots$Tape;", true)
  | 5 => ("TalkKnots", "reader", "LTalkKnots$TextReader;", true)
  | 6 => ("TalkKnots", "sheets", "[LTalkKnots$Sheet;", true)
  | _ => ("TalkKnots", "told", "[I", true)
def tyX5 : Nat → FieldType := fun k => match k with
  | 0 => .object "TalkKnots$Yard"
  | 1 => .object "TalkKnots$Yard"
  | 2 => .object "TalkKnots$Yard"
  | 3 => .boolean
  | 4 => .object "TalkKnots$Tape"
  | 5 => .object "TalkKnots$TextReader"
  | 6 => .array (.object "TalkKnots$Sheet")
  | _ => .array .int
abbrev wsX50 : List Cond := u_ws RX5 TX5 8
theorem nmX5 : ∀ a, a < 8 → ∀ b, b < 8 → a ≠ b → (TX5 a).2.1 ≠ (TX5 b).2.1 := by decide +kernel
theorem tyX5_ok : ∀ k, k < 8 → parseFieldDescriptor (TX5 k).2.2.1 = some (tyX5 k) := by decide +kernel
abbrev cX5_init : ByteArray := prog_1_method_1_code
def yX5_init : MethodName := ⟨RX5, "<init>", "()V"⟩
abbrev cX5_wind : ByteArray := prog_1_method_2_code
def yX5_wind : MethodName := ⟨RX5, "wind", "(II)I"⟩
abbrev cX5_weight : ByteArray := prog_1_method_3_code
def yX5_weight : MethodName := ⟨RX5, "weight", "(II)I"⟩
abbrev cX5_raise : ByteArray := prog_1_method_4_code
def yX5_raise : MethodName := ⟨RX5, "raise", "(I)I"⟩
abbrev cX5_mastOf : ByteArray := prog_1_method_5_code
def yX5_mastOf : MethodName := ⟨RX5, "mastOf", "(II)I"⟩
abbrev cX5_now : ByteArray := prog_1_method_6_code
def yX5_now : MethodName := ⟨RX5, "now", "(I)I"⟩
abbrev cX5_knot : ByteArray := prog_1_method_7_code
def yX5_knot : MethodName := ⟨RX5, "knot", "(II)I"⟩
abbrev cX5_of : ByteArray := prog_1_method_8_code
def yX5_of : MethodName := ⟨RX5, "of", "(II)I"⟩
abbrev cX5_set : ByteArray := prog_1_method_9_code
def yX5_set : MethodName := ⟨RX5, "set", "(III)I"⟩
abbrev cX5_turn : ByteArray := prog_1_method_10_code
def yX5_turn : MethodName := ⟨RX5, "turn", "(II)I"⟩
abbrev cX5_as : ByteArray := prog_1_method_11_code
def yX5_as : MethodName := ⟨RX5, "as", "(II)I"⟩
abbrev cX5_tease : ByteArray := prog_1_method_12_code
def yX5_tease : MethodName := ⟨RX5, "tease", "(I)I"⟩
abbrev cX5_tie : ByteArray := prog_1_method_13_code
def yX5_tie : MethodName := ⟨RX5, "tie", "(I)I"⟩
abbrev cX5_cast : ByteArray := prog_1_method_14_code
def yX5_cast : MethodName := ⟨RX5, "cast", "(I)I"⟩
abbrev cX5_hours : ByteArray := prog_1_method_15_code
def yX5_hours : MethodName := ⟨RX5, "hours", "(I)I"⟩
abbrev cX5_on : ByteArray := prog_1_method_16_code
def yX5_on : MethodName := ⟨RX5, "on", "(III)I"⟩
abbrev cX5_then : ByteArray := prog_1_method_17_code
def yX5_then : MethodName := ⟨RX5, "then", "(II)I"⟩
abbrev cX5_falls : ByteArray := prog_1_method_18_code
def yX5_falls : MethodName := ⟨RX5, "falls", "(I)I"⟩
abbrev cX5_gives : ByteArray := prog_1_method_19_code
def yX5_gives : MethodName := ⟨RX5, "gives", "(I)I"⟩
abbrev cX5_best : ByteArray := prog_1_method_20_code
def yX5_best : MethodName := ⟨RX5, "best", "(I)I"⟩
abbrev cX5_kind : ByteArray := prog_1_method_21_code
def yX5_kind : MethodName := ⟨RX5, "kind", "(I)I"⟩
abbrev cX5_open : ByteArray := prog_1_method_22_code
def yX5_open : MethodName := ⟨RX5, "open", "(II)I"⟩
abbrev cX5_bears : ByteArray := prog_1_method_23_code
def yX5_bears : MethodName := ⟨RX5, "bears", "(II)I"⟩
abbrev cX5_move : ByteArray := prog_1_method_24_code
def yX5_move : MethodName := ⟨RX5, "move", "(II)I"⟩
abbrev cX5_calm : ByteArray := prog_1_method_25_code
def yX5_calm : MethodName := ⟨RX5, "calm", "(I)I"⟩
abbrev cX5_firmest : ByteArray := prog_1_method_26_code
def yX5_firmest : MethodName := ⟨RX5, "firmest", "(I)I"⟩
abbrev cX5_feed : ByteArray := prog_1_method_27_code
def yX5_feed : MethodName := ⟨RX5, "feed", "(II)I"⟩
abbrev cX5_wipe : ByteArray := prog_1_method_28_code
def yX5_wipe : MethodName := ⟨RX5, "wipe", "()I"⟩
abbrev cX5_yard : ByteArray := prog_1_method_29_code
def yX5_yard : MethodName := ⟨RX5, "yard", "()I"⟩
abbrev cX5_sheet : ByteArray := prog_1_method_30_code
def yX5_sheet : MethodName := ⟨RX5, "sheet", "(III)I"⟩
abbrev cX5_write : ByteArray := prog_1_method_31_code
def yX5_write : MethodName := ⟨RX5, "write", "(IIJ)J"⟩
abbrev cX5_copy : ByteArray := prog_1_method_32_code
def yX5_copy : MethodName := ⟨RX5, "copy", "(IIIII)I"⟩
abbrev cX5_lays : ByteArray := prog_1_method_33_code
def yX5_lays : MethodName := ⟨RX5, "lays", "(I)I"⟩
abbrev cX5_book : ByteArray := prog_1_method_34_code
def yX5_book : MethodName := ⟨RX5, "book", "(II)I"⟩
abbrev cX5_read : ByteArray := prog_1_method_35_code
def yX5_read : MethodName := ⟨RX5, "read", "(II)I"⟩
abbrev cX5_image : ByteArray := prog_1_method_36_code
def yX5_image : MethodName := ⟨RX5, "image", "()I"⟩
abbrev cX5_undo : ByteArray := prog_1_method_37_code
def yX5_undo : MethodName := ⟨RX5, "undo", "()I"⟩
abbrev cX5_tear : ByteArray := prog_1_method_38_code
def yX5_tear : MethodName := ⟨RX5, "tear", "()I"⟩
abbrev cX5_count : ByteArray := prog_1_method_39_code
def yX5_count : MethodName := ⟨RX5, "count", "(I)I"⟩
abbrev cX5_status : ByteArray := prog_1_method_40_code
def yX5_status : MethodName := ⟨RX5, "status", "(I)I"⟩
abbrev cX5_tell : ByteArray := prog_1_method_41_code
def yX5_tell : MethodName := ⟨RX5, "tell", "(I)I"⟩
abbrev cX5_allTold : ByteArray := prog_1_method_42_code
def yX5_allTold : MethodName := ⟨RX5, "allTold", "()I"⟩
abbrev cX5_isKnot : ByteArray := prog_1_method_43_code
def yX5_isKnot : MethodName := ⟨RX5, "isKnot", "(I)Z"⟩
abbrev cX5_goesAsTold : ByteArray := prog_1_method_44_code
def yX5_goesAsTold : MethodName := ⟨RX5, "goesAsTold", "(LTalkKnots$Sheet;III)Z"⟩
abbrev cX5_isWithin : ByteArray := prog_1_method_45_code
def yX5_isWithin : MethodName := ⟨RX5, "isWithin", "(III)Z"⟩
abbrev cX5_isMast : ByteArray := prog_1_method_46_code
def yX5_isMast : MethodName := ⟨RX5, "isMast", "(I)Z"⟩
abbrev cX5_isKind : ByteArray := prog_1_method_47_code
def yX5_isKind : MethodName := ⟨RX5, "isKind", "(I)Z"⟩
abbrev cX5_isSheet : ByteArray := prog_1_method_48_code
def yX5_isSheet : MethodName := ⟨RX5, "isSheet", "(I)Z"⟩
abbrev cX5_isSheetBits : ByteArray := prog_1_method_49_code
def yX5_isSheetBits : MethodName := ⟨RX5, "isSheetBits", "(I)Z"⟩
def RX6 : String := "TalkKnotsModel"
def TX6 : u_T := fun k => match k with
  | 0 => ("TalkKnotsModel", "row", "[I", true)
  | 1 => ("TalkKnotsModel", "found", "[I", true)
  | 2 => ("TalkKnotsModel", "tried", "[I", true)
  | 3 => ("TalkKnotsModel", "before1", "[I", true)
  | 4 => ("TalkKnotsModel", "tape", "[I", true)
  | 5 => ("TalkKnotsModel", "tapeMany", "I", false)
  | 6 => ("TalkKnotsModel", "sort", "I", false)
  | 7 => ("TalkKnotsModel", "begins", "I", false)
  | 8 => ("TalkKnotsModel", "tokenEnds", "I", false)
  | 9 => ("TalkKnotsModel", "word", "J", false)
  | 10 => ("TalkKnotsModel", "value", "I", false)
  | 11 => ("TalkKnotsModel", "good", "Z", false)
  | 12 => ("TalkKnotsModel", "bitsOf", "[I", true)
  | 13 => ("TalkKnotsModel", "sizeOf", "[I", true)
  | 14 => ("TalkKnotsModel", "sheets", "[J", true)
  | 15 => ("TalkKnotsModel", "lent", "[J", true)
  | 16 => ("TalkKnotsModel", "image", "[I", true)
  | 17 => ("TalkKnotsModel", "before", "[I", true)
  | _ => ("TalkKnotsModel", "isKept", "Z", false)
def tyX6 : Nat → FieldType := fun k => match k with
  | 0 => .array .int
  | 1 => .array .int
  | 2 => .array .int
  | 3 => .array .int
  | 4 => .array .int
  | 5 => .int
  | 6 => .int
  | 7 => .int
  | 8 => .int
  | 9 => .long
  | 10 => .int
  | 11 => .boolean
  | 12 => .array .int
  | 13 => .array .int
  | 14 => .array .long
  | 15 => .array .long
  | 16 => .array .int
  | 17 => .array .int
  | _ => .boolean
abbrev wsX60 : List Cond := u_ws RX6 TX6 19
theorem nmX6 : ∀ a, a < 19 → ∀ b, b < 19 → a ≠ b → (TX6 a).2.1 ≠ (TX6 b).2.1 := by decide +kernel
theorem tyX6_ok : ∀ k, k < 19 → parseFieldDescriptor (TX6 k).2.2.1 = some (tyX6 k) := by decide +kernel
abbrev cX6_init : ByteArray := prog_8_method_1_code
def yX6_init : MethodName := ⟨RX6, "<init>", "()V"⟩
abbrev cX6_in : ByteArray := prog_8_method_2_code
def yX6_in : MethodName := ⟨RX6, "in", "(III)Z"⟩
abbrev cX6_finds : ByteArray := prog_8_method_3_code
def yX6_finds : MethodName := ⟨RX6, "finds", "(I)I"⟩
abbrev cX6_held : ByteArray := prog_8_method_4_code
def yX6_held : MethodName := ⟨RX6, "held", "(III)I"⟩
abbrev cX6_its : ByteArray := prog_8_method_5_code
def yX6_its : MethodName := ⟨RX6, "its", "(II)I"⟩
abbrev cX6_puts : ByteArray := prog_8_method_6_code
def yX6_puts : MethodName := ⟨RX6, "puts", "(III)V"⟩
abbrev cX6_ofMast : ByteArray := prog_8_method_7_code
def yX6_ofMast : MethodName := ⟨RX6, "ofMast", "(II)I"⟩
abbrev cX6_puts1 : ByteArray := prog_8_method_8_code
def yX6_puts1 : MethodName := ⟨RX6, "puts1", "(III)V"⟩
abbrev cX6_becomes : ByteArray := prog_8_method_9_code
def yX6_becomes : MethodName := ⟨RX6, "becomes", "(II)I"⟩
abbrev cX6_isOne : ByteArray := prog_8_method_10_code
def yX6_isOne : MethodName := ⟨RX6, "isOne", "(I)Z"⟩
abbrev cX6_isKind : ByteArray := prog_8_method_11_code
def yX6_isKind : MethodName := ⟨RX6, "isKind", "(I)Z"⟩
abbrev cX6_isMast : ByteArray := prog_8_method_12_code
def yX6_isMast : MethodName := ⟨RX6, "isMast", "(I)Z"⟩
abbrev cX6_bits : ByteArray := prog_8_method_13_code
def yX6_bits : MethodName := ⟨RX6, "bits", "(I)I"⟩
abbrev cX6_blowing : ByteArray := prog_8_method_14_code
def yX6_blowing : MethodName := ⟨RX6, "blowing", "()I"⟩
abbrev cX6_knotsOf : ByteArray := prog_8_method_15_code
def yX6_knotsOf : MethodName := ⟨RX6, "knotsOf", "(IZ)I"⟩
abbrev cX6_fastSet : ByteArray := prog_8_method_16_code
def yX6_fastSet : MethodName := ⟨RX6, "fastSet", "()I"⟩
abbrev cX6_upSet : ByteArray := prog_8_method_17_code
def yX6_upSet : MethodName := ⟨RX6, "upSet", "()I"⟩
abbrev cX6_strain : ByteArray := prog_8_method_18_code
def yX6_strain : MethodName := ⟨RX6, "strain", "(I)I"⟩
abbrev cX6_holding : ByteArray := prog_8_method_19_code
def yX6_holding : MethodName := ⟨RX6, "holding", "(I)I"⟩
abbrev cX6_settling : ByteArray := prog_8_method_20_code
def yX6_settling : MethodName := ⟨RX6, "settling", "(I)I"⟩
abbrev cX6_teasing : ByteArray := prog_8_method_21_code
def yX6_teasing : MethodName := ⟨RX6, "teasing", "(I)I"⟩
abbrev cX6_isGiving : ByteArray := prog_8_method_22_code
def yX6_isGiving : MethodName := ⟨RX6, "isGiving", "(II)Z"⟩
abbrev cX6_wind : ByteArray := prog_8_method_23_code
def yX6_wind : MethodName := ⟨RX6, "wind", "(II)I"⟩
abbrev cX6_weight : ByteArray := prog_8_method_24_code
def yX6_weight : MethodName := ⟨RX6, "weight", "(II)I"⟩
abbrev cX6_raise : ByteArray := prog_8_method_25_code
def yX6_raise : MethodName := ⟨RX6, "raise", "(I)I"⟩
abbrev cX6_heldOf : ByteArray := prog_8_method_26_code
def yX6_heldOf : MethodName := ⟨RX6, "heldOf", "(I)I"⟩
abbrev cX6_mastOf : ByteArray := prog_8_method_27_code
def yX6_mastOf : MethodName := ⟨RX6, "mastOf", "(II)I"⟩
abbrev cX6_sumOf : ByteArray := prog_8_method_28_code
def yX6_sumOf : MethodName := ⟨RX6, "sumOf", "(I)I"⟩
abbrev cX6_now : ByteArray := prog_8_method_29_code
def yX6_now : MethodName := ⟨RX6, "now", "(I)I"⟩
abbrev cX6_adds : ByteArray := prog_8_method_30_code
def yX6_adds : MethodName := ⟨RX6, "adds", "(IIII)V"⟩
abbrev cX6_knot : ByteArray := prog_8_method_31_code
def yX6_knot : MethodName := ⟨RX6, "knot", "(II)I"⟩
abbrev cX6_of : ByteArray := prog_8_method_32_code
def yX6_of : MethodName := ⟨RX6, "of", "(II)I"⟩
abbrev cX6_isPart : ByteArray := prog_8_method_33_code
def yX6_isPart : MethodName := ⟨RX6, "isPart", "(II)Z"⟩
abbrev cX6_set : ByteArray := prog_8_method_34_code
def yX6_set : MethodName := ⟨RX6, "set", "(III)I"⟩
abbrev cX6_turn : ByteArray := prog_8_method_35_code
def yX6_turn : MethodName := ⟨RX6, "turn", "(II)I"⟩
abbrev cX6_as : ByteArray := prog_8_method_36_code
def yX6_as : MethodName := ⟨RX6, "as", "(II)I"⟩
abbrev cX6_teases : ByteArray := prog_8_method_37_code
def yX6_teases : MethodName := ⟨RX6, "teases", "(I)V"⟩
abbrev cX6_tease : ByteArray := prog_8_method_38_code
def yX6_tease : MethodName := ⟨RX6, "tease", "(I)I"⟩
abbrev cX6_tie : ByteArray := prog_8_method_39_code
def yX6_tie : MethodName := ⟨RX6, "tie", "(I)I"⟩
abbrev cX6_cast : ByteArray := prog_8_method_40_code
def yX6_cast : MethodName := ⟨RX6, "cast", "(I)I"⟩
abbrev cX6_pulls : ByteArray := prog_8_method_41_code
def yX6_pulls : MethodName := ⟨RX6, "pulls", "(I)V"⟩
abbrev cX6_oneHour : ByteArray := prog_8_method_42_code
def yX6_oneHour : MethodName := ⟨RX6, "oneHour", "()V"⟩
abbrev cX6_passes : ByteArray := prog_8_method_43_code
def yX6_passes : MethodName := ⟨RX6, "passes", "(I)V"⟩
abbrev cX6_hours : ByteArray := prog_8_method_44_code
def yX6_hours : MethodName := ⟨RX6, "hours", "(I)I"⟩
abbrev cX6_on : ByteArray := prog_8_method_45_code
def yX6_on : MethodName := ⟨RX6, "on", "(III)I"⟩
abbrev cX6_then : ByteArray := prog_8_method_46_code
def yX6_then : MethodName := ⟨RX6, "then", "(II)I"⟩
abbrev cX6_goneIn : ByteArray := prog_8_method_47_code
def yX6_goneIn : MethodName := ⟨RX6, "goneIn", "(I)I"⟩
abbrev cX6_falls : ByteArray := prog_8_method_48_code
def yX6_falls : MethodName := ⟨RX6, "falls", "(I)I"⟩
abbrev cX6_gives : ByteArray := prog_8_method_49_code
def yX6_gives : MethodName := ⟨RX6, "gives", "(I)I"⟩
abbrev cX6_best : ByteArray := prog_8_method_50_code
def yX6_best : MethodName := ⟨RX6, "best", "(I)I"⟩
abbrev cX6_kind : ByteArray := prog_8_method_51_code
def yX6_kind : MethodName := ⟨RX6, "kind", "(I)I"⟩
abbrev cX6_lasts : ByteArray := prog_8_method_52_code
def yX6_lasts : MethodName := ⟨RX6, "lasts", "(II)Z"⟩
abbrev cX6_open : ByteArray := prog_8_method_53_code
def yX6_open : MethodName := ⟨RX6, "open", "(II)I"⟩
abbrev cX6_bears : ByteArray := prog_8_method_54_code
def yX6_bears : MethodName := ⟨RX6, "bears", "(II)I"⟩
abbrev cX6_move : ByteArray := prog_8_method_55_code
def yX6_move : MethodName := ⟨RX6, "move", "(II)I"⟩
abbrev cX6_calm : ByteArray := prog_8_method_56_code
def yX6_calm : MethodName := ⟨RX6, "calm", "(I)I"⟩
abbrev cX6_firmest : ByteArray := prog_8_method_57_code
def yX6_firmest : MethodName := ⟨RX6, "firmest", "(I)I"⟩
abbrev cX6_feed : ByteArray := prog_8_method_58_code
def yX6_feed : MethodName := ⟨RX6, "feed", "(II)I"⟩
abbrev cX6_wipe : ByteArray := prog_8_method_59_code
def yX6_wipe : MethodName := ⟨RX6, "wipe", "()I"⟩
abbrev cX6_byteAt : ByteArray := prog_8_method_60_code
def yX6_byteAt : MethodName := ⟨RX6, "byteAt", "(I)I"⟩
abbrev cX6_isLetter : ByteArray := prog_8_method_61_code
def yX6_isLetter : MethodName := ⟨RX6, "isLetter", "(I)Z"⟩
abbrev cX6_isDigit : ByteArray := prog_8_method_62_code
def yX6_isDigit : MethodName := ⟨RX6, "isDigit", "(I)Z"⟩
abbrev cX6_advance : ByteArray := prog_8_method_63_code
def yX6_advance : MethodName := ⟨RX6, "advance", "()V"⟩
abbrev cX6_isWord : ByteArray := prog_8_method_64_code
def yX6_isWord : MethodName := ⟨RX6, "isWord", "(J)Z"⟩
abbrev cX6_kindHere : ByteArray := prog_8_method_65_code
def yX6_kindHere : MethodName := ⟨RX6, "kindHere", "()I"⟩
abbrev cX6_wantNumber : ByteArray := prog_8_method_66_code
def yX6_wantNumber : MethodName := ⟨RX6, "wantNumber", "(II)I"⟩
abbrev cX6_mayWant : ByteArray := prog_8_method_67_code
def yX6_mayWant : MethodName := ⟨RX6, "mayWant", "(JIII)I"⟩
abbrev cX6_may : ByteArray := prog_8_method_68_code
def yX6_may : MethodName := ⟨RX6, "may", "(J)Z"⟩
abbrev cX6_wantOne : ByteArray := prog_8_method_69_code
def yX6_wantOne : MethodName := ⟨RX6, "wantOne", "(I)V"⟩
abbrev cX6_wantMast : ByteArray := prog_8_method_70_code
def yX6_wantMast : MethodName := ⟨RX6, "wantMast", "()V"⟩
abbrev cX6_wantWind : ByteArray := prog_8_method_71_code
def yX6_wantWind : MethodName := ⟨RX6, "wantWind", "()V"⟩
abbrev cX6_wantItem : ByteArray := prog_8_method_72_code
def yX6_wantItem : MethodName := ⟨RX6, "wantItem", "()V"⟩
abbrev cX6_yard : ByteArray := prog_8_method_73_code
def yX6_yard : MethodName := ⟨RX6, "yard", "()I"⟩
abbrev cX6_isSheet : ByteArray := prog_8_method_74_code
def yX6_isSheet : MethodName := ⟨RX6, "isSheet", "(I)Z"⟩
abbrev cX6_narrow : ByteArray := prog_8_method_75_code
def yX6_narrow : MethodName := ⟨RX6, "narrow", "(IJ)J"⟩
abbrev cX6_sheet : ByteArray := prog_8_method_76_code
def yX6_sheet : MethodName := ⟨RX6, "sheet", "(III)I"⟩
abbrev cX6_write : ByteArray := prog_8_method_77_code
def yX6_write : MethodName := ⟨RX6, "write", "(IIJ)J"⟩
abbrev cX6_isPart_ : ByteArray := prog_8_method_78_code
def yX6_isPart_ : MethodName := ⟨RX6, "isPart", "(III)Z"⟩
abbrev cX6_copy : ByteArray := prog_8_method_79_code
def yX6_copy : MethodName := ⟨RX6, "copy", "(IIIII)I"⟩
abbrev cX6_badSheet : ByteArray := prog_8_method_80_code
def yX6_badSheet : MethodName := ⟨RX6, "badSheet", "(I)I"⟩
abbrev cX6_lays : ByteArray := prog_8_method_81_code
def yX6_lays : MethodName := ⟨RX6, "lays", "(I)I"⟩
abbrev cX6_book : ByteArray := prog_8_method_82_code
def yX6_book : MethodName := ⟨RX6, "book", "(II)I"⟩
abbrev cX6_isSo : ByteArray := prog_8_method_83_code
def yX6_isSo : MethodName := ⟨RX6, "isSo", "(II)Z"⟩
abbrev cX6_read : ByteArray := prog_8_method_84_code
def yX6_read : MethodName := ⟨RX6, "read", "(II)I"⟩
abbrev cX6_moveAll : ByteArray := prog_8_method_85_code
def yX6_moveAll : MethodName := ⟨RX6, "moveAll", "(Z[I)V"⟩
abbrev cX6_image : ByteArray := prog_8_method_86_code
def yX6_image : MethodName := ⟨RX6, "image", "()I"⟩
abbrev cX6_undo : ByteArray := prog_8_method_87_code
def yX6_undo : MethodName := ⟨RX6, "undo", "()I"⟩
abbrev cX6_tear : ByteArray := prog_8_method_88_code
def yX6_tear : MethodName := ⟨RX6, "tear", "()I"⟩
abbrev cX6_weights : ByteArray := prog_8_method_89_code
def yX6_weights : MethodName := ⟨RX6, "weights", "()I"⟩
abbrev cX6_count : ByteArray := prog_8_method_90_code
def yX6_count : MethodName := ⟨RX6, "count", "(I)I"⟩
abbrev cX6_status : ByteArray := prog_8_method_91_code
def yX6_status : MethodName := ⟨RX6, "status", "(I)I"⟩
def RJ6 : String := "java/lang/Integer"
def TJ6 : u_T := fun k => match k with
  | _ => ("", "", "", false)
def tyJ6 : Nat → FieldType := fun k => match k with
  | _ => .int
abbrev wsJ60 : List Cond := u_ws RJ6 TJ6 0
theorem nmJ6 : ∀ a, a < 0 → ∀ b, b < 0 → a ≠ b → (TJ6 a).2.1 ≠ (TJ6 b).2.1 := by decide +kernel
theorem tyJ6_ok : ∀ k, k < 0 → parseFieldDescriptor (TJ6 k).2.2.1 = some (tyJ6 k) := by decide +kernel
abbrev cJ6_bitCount_0f7a4 : ByteArray := prog_9_method_49_code
def yJ6_bitCount_0f7a4 : MethodName := ⟨RJ6, "bitCount", "(I)I"⟩
def RJ9 : String := "java/lang/Math"
def TJ9 : u_T := fun k => match k with
  | _ => ("", "", "", false)
def tyJ9 : Nat → FieldType := fun k => match k with
  | _ => .int
abbrev wsJ90 : List Cond := u_ws RJ9 TJ9 0
theorem nmJ9 : ∀ a, a < 0 → ∀ b, b < 0 → a ≠ b → (TJ9 a).2.1 ≠ (TJ9 b).2.1 := by decide +kernel
theorem tyJ9_ok : ∀ k, k < 0 → parseFieldDescriptor (TJ9 k).2.2.1 = some (tyJ9 k) := by decide +kernel
abbrev cJ9_max_7cf53 : ByteArray := prog_10_method_65_code
def yJ9_max_7cf53 : MethodName := ⟨RJ9, "max", "(II)I"⟩
abbrev cJ9_min_7cf53 : ByteArray := prog_10_method_69_code
def yJ9_min_7cf53 : MethodName := ⟨RJ9, "min", "(II)I"⟩
def RJ0 : String := "java/lang/String"
def TJ0 : u_T := fun k => match k with
  | _ => ("", "", "", false)
def tyJ0 : Nat → FieldType := fun k => match k with
  | _ => .int
abbrev wsJ00 : List Cond := u_ws RJ0 TJ0 0
theorem nmJ0 : ∀ a, a < 0 → ∀ b, b < 0 → a ≠ b → (TJ0 a).2.1 ≠ (TJ0 b).2.1 := by decide +kernel
theorem tyJ0_ok : ∀ k, k < 0 → parseFieldDescriptor (TJ0 k).2.2.1 = some (tyJ0 k) := by decide +kernel
abbrev cJ0_length_8abf5 : ByteArray := prog_11_method_54_code
def yJ0_length_8abf5 : MethodName := ⟨RJ0, "length", "()I"⟩
abbrev cJ0_charAt_5068e : ByteArray := prog_11_method_56_code
def yJ0_charAt_5068e : MethodName := ⟨RJ0, "charAt", "(I)C"⟩
abbrev cJ0_coder_7d493 : ByteArray := prog_11_method_152_code
def yJ0_coder_7d493 : MethodName := ⟨RJ0, "coder", "()B"⟩
abbrev cJ0_isLatin1_aae02 : ByteArray := prog_11_method_154_code
def yJ0_isLatin1_aae02 : MethodName := ⟨RJ0, "isLatin1", "()Z"⟩
abbrev cJ0_checkIndex_df160 : ByteArray := prog_11_method_155_code
def yJ0_checkIndex_df160 : MethodName := ⟨RJ0, "checkIndex", "(II)V"⟩
def RJ1 : String := "java/lang/StringLatin1"
def TJ1 : u_T := fun k => match k with
  | _ => ("", "", "", false)
def tyJ1 : Nat → FieldType := fun k => match k with
  | _ => .int
abbrev wsJ10 : List Cond := u_ws RJ1 TJ1 0
theorem nmJ1 : ∀ a, a < 0 → ∀ b, b < 0 → a ≠ b → (TJ1 a).2.1 ≠ (TJ1 b).2.1 := by decide +kernel
theorem tyJ1_ok : ∀ k, k < 0 → parseFieldDescriptor (TJ1 k).2.2.1 = some (tyJ1 k) := by decide +kernel
abbrev cJ1_charAt_3b067 : ByteArray := prog_12_method_2_code
def yJ1_charAt_3b067 : MethodName := ⟨RJ1, "charAt", "([BI)C"⟩
def RJ2 : String := "java/lang/StringUTF16"
def TJ2 : u_T := fun k => match k with
  | _ => ("", "", "", false)
def tyJ2 : Nat → FieldType := fun k => match k with
  | _ => .int
abbrev wsJ20 : List Cond := u_ws RJ2 TJ2 0
theorem nmJ2 : ∀ a, a < 0 → ∀ b, b < 0 → a ≠ b → (TJ2 a).2.1 ≠ (TJ2 b).2.1 := by decide +kernel
theorem tyJ2_ok : ∀ k, k < 0 → parseFieldDescriptor (TJ2 k).2.2.1 = some (tyJ2 k) := by decide +kernel
abbrev cJ2_getChar_3b067 : ByteArray := prog_13_method_5_code
def yJ2_getChar_3b067 : MethodName := ⟨RJ2, "getChar", "([BI)C"⟩
abbrev cJ2_length_9d52b : ByteArray := prog_13_method_6_code
def yJ2_length_9d52b : MethodName := ⟨RJ2, "length", "([B)I"⟩
abbrev cJ2_charAt_3b067 : ByteArray := prog_13_method_83_code
def yJ2_charAt_3b067 : MethodName := ⟨RJ2, "charAt", "([BI)C"⟩
abbrev cJ2_checkIndex_2214a : ByteArray := prog_13_method_91_code
def yJ2_checkIndex_2214a : MethodName := ⟨RJ2, "checkIndex", "(I[B)V"⟩
def RJ10 : String := "java/lang/System"
def TJ10 : u_T := fun k => match k with
  | _ => ("", "", "", false)
def tyJ10 : Nat → FieldType := fun k => match k with
  | _ => .int
abbrev wsJ100 : List Cond := u_ws RJ10 TJ10 0
theorem nmJ10 : ∀ a, a < 0 → ∀ b, b < 0 → a ≠ b → (TJ10 a).2.1 ≠ (TJ10 b).2.1 := by decide +kernel
theorem tyJ10_ok : ∀ k, k < 0 → parseFieldDescriptor (TJ10 k).2.2.1 = some (tyJ10 k) := by decide +kernel
def RJ3 : String := "jdk/internal/util/Preconditions"
def TJ3 : u_T := fun k => match k with
  | _ => ("", "", "", false)
def tyJ3 : Nat → FieldType := fun k => match k with
  | _ => .int
abbrev wsJ30 : List Cond := u_ws RJ3 TJ3 0
theorem nmJ3 : ∀ a, a < 0 → ∀ b, b < 0 → a ≠ b → (TJ3 a).2.1 ≠ (TJ3 b).2.1 := by decide +kernel
theorem tyJ3_ok : ∀ k, k < 0 → parseFieldDescriptor (TJ3 k).2.2.1 = some (tyJ3 k) := by decide +kernel
abbrev cJ3_checkIndex_8e157 : ByteArray := prog_15_method_11_code
def yJ3_checkIndex_8e157 : MethodName := ⟨RJ3, "checkIndex", "(IILjava/util/function/BiFunction;)I"⟩
def RL : String := "TalkKnotsLaw"
abbrev cL_law : ByteArray := code
def yL_law : MethodName := ⟨RL, "law", "([I)Z"⟩
abbrev vwCl : List vw_C := [(RX0, TX0, 5), (RX1, TX1, 3), (RX2, TX2, 2), (RX3, TX3, 7), (RX4, TX4, 7), (RX5, TX5, 8), (RX6, TX6, 19)]
end
section
theorem dX0_init_0 : decode cX0_init 0 = .ok (.aload_n 0, 1) := by decide +kernel
theorem dX0_init_1 : decode cX0_init 1 = .ok (.invokespecial 3, 3) := by decide +kernel
theorem dX0_init_4 : decode cX0_init 4 = .ok (.aload_n 0, 1) := by decide +kernel
theorem dX0_init_5 : decode cX0_init 5 = .ok (.iconst 0, 1) := by decide +kernel
theorem dX0_init_6 : decode cX0_init 6 = .ok (.putfield 9, 3) := by decide +kernel
theorem dX0_init_9 : decode cX0_init 9 = .ok (.aload_n 0, 1) := by decide +kernel
theorem dX0_init_10 : decode cX0_init 10 = .ok (.iconst 0, 1) := by decide +kernel
theorem dX0_init_11 : decode cX0_init 11 = .ok (.putfield 15, 3) := by decide +kernel
theorem dX0_init_14 : decode cX0_init 14 = .ok (.aload_n 0, 1) := by decide +kernel
theorem dX0_init_15 : decode cX0_init 15 = .ok (.bipush 50, 2) := by decide +kernel
theorem dX0_init_17 : decode cX0_init 17 = .ok (.putfield 18, 3) := by decide +kernel
theorem dX0_init_20 : decode cX0_init 20 = .ok (.aload_n 0, 1) := by decide +kernel
theorem dX0_init_21 : decode cX0_init 21 = .ok (.iconst 0, 1) := by decide +kernel
theorem dX0_init_22 : decode cX0_init 22 = .ok (.putfield 21, 3) := by decide +kernel
theorem dX0_init_25 : decode cX0_init 25 = .ok (.aload_n 0, 1) := by decide +kernel
theorem dX0_init_26 : decode cX0_init 26 = .ok (.iconst 1, 1) := by decide +kernel
theorem dX0_init_27 : decode cX0_init 27 = .ok (.putfield 24, 3) := by decide +kernel
theorem dX0_init_30 : decode cX0_init 30 = .ok (.return_, 1) := by decide +kernel
theorem dX0_begin_0 : decode cX0_begin 0 = .ok (.aload_n 0, 1) := by decide +kernel
theorem dX0_begin_1 : decode cX0_begin 1 = .ok (.iload_n 1, 1) := by decide +kernel
theorem dX0_begin_2 : decode cX0_begin 2 = .ok (.putfield 9, 3) := by decide +kernel
theorem dX0_begin_5 : decode cX0_begin 5 = .ok (.aload_n 0, 1) := by decide +kernel
theorem dX0_begin_6 : decode cX0_begin 6 = .ok (.iload_n 2, 1) := by decide +kernel
theorem dX0_begin_7 : decode cX0_begin 7 = .ok (.putfield 15, 3) := by decide +kernel
theorem dX0_begin_10 : decode cX0_begin 10 = .ok (.aload_n 0, 1) := by decide +kernel
theorem dX0_begin_11 : decode cX0_begin 11 = .ok (.bipush 50, 2) := by decide +kernel
theorem dX0_begin_13 : decode cX0_begin 13 = .ok (.putfield 18, 3) := by decide +kernel
theorem dX0_begin_16 : decode cX0_begin 16 = .ok (.aload_n 0, 1) := by decide +kernel
theorem dX0_begin_17 : decode cX0_begin 17 = .ok (.iconst 0, 1) := by decide +kernel
theorem dX0_begin_18 : decode cX0_begin 18 = .ok (.putfield 21, 3) := by decide +kernel
theorem dX0_begin_21 : decode cX0_begin 21 = .ok (.aload_n 0, 1) := by decide +kernel
theorem dX0_begin_22 : decode cX0_begin 22 = .ok (.iconst 1, 1) := by decide +kernel
theorem dX0_begin_23 : decode cX0_begin 23 = .ok (.putfield 24, 3) := by decide +kernel
theorem dX0_begin_26 : decode cX0_begin 26 = .ok (.return_, 1) := by decide +kernel
theorem dX0_beLike_0 : decode cX0_beLike 0 = .ok (.aload_n 0, 1) := by decide +kernel
theorem dX0_beLike_1 : decode cX0_beLike 1 = .ok (.aload_n 1, 1) := by decide +kernel
theorem dX0_beLike_2 : decode cX0_beLike 2 = .ok (.getfield 9, 3) := by decide +kernel
theorem dX0_beLike_5 : decode cX0_beLike 5 = .ok (.putfield 9, 3) := by decide +kernel
theorem dX0_beLike_8 : decode cX0_beLike 8 = .ok (.aload_n 0, 1) := by decide +kernel
theorem dX0_beLike_9 : decode cX0_beLike 9 = .ok (.aload_n 1, 1) := by decide +kernel
theorem dX0_beLike_10 : decode cX0_beLike 10 = .ok (.getfield 15, 3) := by decide +kernel
theorem dX0_beLike_13 : decode cX0_beLike 13 = .ok (.putfield 15, 3) := by decide +kernel
theorem dX0_beLike_16 : decode cX0_beLike 16 = .ok (.aload_n 0, 1) := by decide +kernel
theorem dX0_beLike_17 : decode cX0_beLike 17 = .ok (.aload_n 1, 1) := by decide +kernel
theorem dX0_beLike_18 : decode cX0_beLike 18 = .ok (.getfield 18, 3) := by decide +kernel
theorem dX0_beLike_21 : decode cX0_beLike 21 = .ok (.putfield 18, 3) := by decide +kernel
theorem dX0_beLike_24 : decode cX0_beLike 24 = .ok (.aload_n 0, 1) := by decide +kernel
theorem dX0_beLike_25 : decode cX0_beLike 25 = .ok (.aload_n 1, 1) := by decide +kernel
theorem dX0_beLike_26 : decode cX0_beLike 26 = .ok (.getfield 21, 3) := by decide +kernel
theorem dX0_beLike_29 : decode cX0_beLike 29 = .ok (.putfield 21, 3) := by decide +kernel
theorem dX0_beLike_32 : decode cX0_beLike 32 = .ok (.aload_n 0, 1) := by decide +kernel
theorem dX0_beLike_33 : decode cX0_beLike 33 = .ok (.aload_n 1, 1) := by decide +kernel
theorem dX0_beLike_34 : decode cX0_beLike 34 = .ok (.getfield 24, 3) := by decide +kernel
theorem dX0_beLike_37 : decode cX0_beLike 37 = .ok (.putfield 24, 3) := by decide +kernel
theorem dX0_beLike_40 : decode cX0_beLike 40 = .ok (.return_, 1) := by decide +kernel
theorem dX0_isOf_0 : decode cX0_isOf 0 = .ok (.iload_n 1, 1) := by decide +kernel
theorem dX0_isOf_1 : decode cX0_isOf 1 = .ok (.aload_n 0, 1) := by decide +kernel
theorem dX0_isOf_2 : decode cX0_isOf 2 = .ok (.getfield 9, 3) := by decide +kernel
theorem dX0_isOf_5 : decode cX0_isOf 5 = .ok (.if_icmp .eq 33, 3) := by decide +kernel
theorem dX0_isOf_8 : decode cX0_isOf 8 = .ok (.iload_n 1, 1) := by decide +kernel
theorem dX0_isOf_9 : decode cX0_isOf 9 = .ok (.ifCond .eq 29, 3) := by decide +kernel
theorem dX0_isOf_12 : decode cX0_isOf 12 = .ok (.iload_n 1, 1) := by decide +kernel
theorem dX0_isOf_13 : decode cX0_isOf 13 = .ok (.iconst 1, 1) := by decide +kernel
theorem dX0_isOf_14 : decode cX0_isOf 14 = .ok (.if_icmp .ne 11, 3) := by decide +kernel
theorem dX0_isOf_17 : decode cX0_isOf 17 = .ok (.aload_n 0, 1) := by decide +kernel
theorem dX0_isOf_18 : decode cX0_isOf 18 = .ok (.getfield 9, 3) := by decide +kernel
theorem dX0_isOf_21 : decode cX0_isOf 21 = .ok (.iconst 4, 1) := by decide +kernel
theorem dX0_isOf_22 : decode cX0_isOf 22 = .ok (.if_icmp .eq 16, 3) := by decide +kernel
theorem dX0_isOf_25 : decode cX0_isOf 25 = .ok (.iload_n 1, 1) := by decide +kernel
theorem dX0_isOf_26 : decode cX0_isOf 26 = .ok (.iconst 2, 1) := by decide +kernel
theorem dX0_isOf_27 : decode cX0_isOf 27 = .ok (.if_icmp .ne 15, 3) := by decide +kernel
theorem dX0_isOf_30 : decode cX0_isOf 30 = .ok (.aload_n 0, 1) := by decide +kernel
theorem dX0_isOf_31 : decode cX0_isOf 31 = .ok (.getfield 9, 3) := by decide +kernel
theorem dX0_isOf_34 : decode cX0_isOf 34 = .ok (.iconst 5, 1) := by decide +kernel
theorem dX0_isOf_35 : decode cX0_isOf 35 = .ok (.if_icmp .ne 7, 3) := by decide +kernel
theorem dX0_isOf_38 : decode cX0_isOf 38 = .ok (.iconst 1, 1) := by decide +kernel
theorem dX0_isOf_39 : decode cX0_isOf 39 = .ok (.goto 4, 3) := by decide +kernel
theorem dX0_isOf_42 : decode cX0_isOf 42 = .ok (.iconst 0, 1) := by decide +kernel
theorem dX0_isOf_43 : decode cX0_isOf 43 = .ok (.ireturn, 1) := by decide +kernel
theorem dX0_holding_0 : decode cX0_holding 0 = .ok (.aload_n 0, 1) := by decide +kernel
theorem dX0_holding_1 : decode cX0_holding 1 = .ok (.getfield 24, 3) := by decide +kernel
theorem dX0_holding_4 : decode cX0_holding 4 = .ok (.ifCond .ne 5, 3) := by decide +kernel
theorem dX0_holding_7 : decode cX0_holding 7 = .ok (.iconst 0, 1) := by decide +kernel
theorem dX0_holding_8 : decode cX0_holding 8 = .ok (.ireturn, 1) := by decide +kernel
theorem dX0_holding_9 : decode cX0_holding 9 = .ok (.aload_n 0, 1) := by decide +kernel
theorem dX0_holding_10 : decode cX0_holding 10 = .ok (.getfield 9, 3) := by decide +kernel
theorem dX0_holding_13 : decode cX0_holding 13 = .ok (.tableswitch 85 1 5 #[35, 40, 53, 61, 71], 35) := by decide +kernel
theorem dX0_holding_48 : decode cX0_holding 48 = .ok (.aload_n 0, 1) := by decide +kernel
theorem dX0_holding_49 : decode cX0_holding 49 = .ok (.invokevirtual 28, 3) := by decide +kernel
theorem dX0_holding_52 : decode cX0_holding 52 = .ok (.ireturn, 1) := by decide +kernel
theorem dX0_holding_53 : decode cX0_holding 53 = .ok (.iconst 0, 1) := by decide +kernel
theorem dX0_holding_54 : decode cX0_holding 54 = .ok (.iconst 2, 1) := by decide +kernel
theorem dX0_holding_55 : decode cX0_holding 55 = .ok (.aload_n 0, 1) := by decide +kernel
theorem dX0_holding_56 : decode cX0_holding 56 = .ok (.getfield 18, 3) := by decide +kernel
theorem dX0_holding_59 : decode cX0_holding 59 = .ok (.imul, 1) := by decide +kernel
theorem dX0_holding_60 : decode cX0_holding 60 = .ok (.iload_n 1, 1) := by decide +kernel
theorem dX0_holding_61 : decode cX0_holding 61 = .ok (.isub, 1) := by decide +kernel
theorem dX0_holding_62 : decode cX0_holding 62 = .ok (.invokestatic 32, 3) := by decide +kernel
theorem dX0_holding_65 : decode cX0_holding 65 = .ok (.ireturn, 1) := by decide +kernel
theorem dX0_holding_66 : decode cX0_holding 66 = .ok (.bipush 99, 2) := by decide +kernel
theorem dX0_holding_68 : decode cX0_holding 68 = .ok (.aload_n 0, 1) := by decide +kernel
theorem dX0_holding_69 : decode cX0_holding 69 = .ok (.getfield 18, 3) := by decide +kernel
theorem dX0_holding_72 : decode cX0_holding 72 = .ok (.isub, 1) := by decide +kernel
theorem dX0_holding_73 : decode cX0_holding 73 = .ok (.ireturn, 1) := by decide +kernel
theorem dX0_holding_74 : decode cX0_holding 74 = .ok (.aload_n 0, 1) := by decide +kernel
theorem dX0_holding_75 : decode cX0_holding 75 = .ok (.invokevirtual 28, 3) := by decide +kernel
theorem dX0_holding_78 : decode cX0_holding 78 = .ok (.bipush 10, 2) := by decide +kernel
theorem dX0_holding_80 : decode cX0_holding 80 = .ok (.iload_n 2, 1) := by decide +kernel
theorem dX0_holding_81 : decode cX0_holding 81 = .ok (.imul, 1) := by decide +kernel
theorem dX0_holding_82 : decode cX0_holding 82 = .ok (.iadd, 1) := by decide +kernel
theorem dX0_holding_83 : decode cX0_holding 83 = .ok (.ireturn, 1) := by decide +kernel
theorem dX0_holding_84 : decode cX0_holding 84 = .ok (.bipush 60, 2) := by decide +kernel
theorem dX0_holding_86 : decode cX0_holding 86 = .ok (.iconst 2, 1) := by decide +kernel
theorem dX0_holding_87 : decode cX0_holding 87 = .ok (.aload_n 0, 1) := by decide +kernel
theorem dX0_holding_88 : decode cX0_holding 88 = .ok (.getfield 18, 3) := by decide +kernel
theorem dX0_holding_91 : decode cX0_holding 91 = .ok (.imul, 1) := by decide +kernel
theorem dX0_holding_92 : decode cX0_holding 92 = .ok (.iload_n 1, 1) := by decide +kernel
theorem dX0_holding_93 : decode cX0_holding 93 = .ok (.isub, 1) := by decide +kernel
theorem dX0_holding_94 : decode cX0_holding 94 = .ok (.invokestatic 32, 3) := by decide +kernel
theorem dX0_holding_97 : decode cX0_holding 97 = .ok (.ireturn, 1) := by decide +kernel
theorem dX0_holding_98 : decode cX0_holding 98 = .ok (.iconst 2, 1) := by decide +kernel
theorem dX0_holding_99 : decode cX0_holding 99 = .ok (.aload_n 0, 1) := by decide +kernel
theorem dX0_holding_100 : decode cX0_holding 100 = .ok (.getfield 18, 3) := by decide +kernel
theorem dX0_holding_103 : decode cX0_holding 103 = .ok (.imul, 1) := by decide +kernel
theorem dX0_holding_104 : decode cX0_holding 104 = .ok (.ireturn, 1) := by decide +kernel
theorem dX0_spliceHolding_0 : decode cX0_spliceHolding 0 = .ok (.aload_n 0, 1) := by decide +kernel
theorem dX0_spliceHolding_1 : decode cX0_spliceHolding 1 = .ok (.getfield 18, 3) := by decide +kernel
theorem dX0_spliceHolding_4 : decode cX0_spliceHolding 4 = .ok (.bipush 60, 2) := by decide +kernel
theorem dX0_spliceHolding_6 : decode cX0_spliceHolding 6 = .ok (.if_icmp .lt 12, 3) := by decide +kernel
theorem dX0_spliceHolding_9 : decode cX0_spliceHolding 9 = .ok (.iconst 3, 1) := by decide +kernel
theorem dX0_spliceHolding_10 : decode cX0_spliceHolding 10 = .ok (.aload_n 0, 1) := by decide +kernel
theorem dX0_spliceHolding_11 : decode cX0_spliceHolding 11 = .ok (.getfield 18, 3) := by decide +kernel
theorem dX0_spliceHolding_14 : decode cX0_spliceHolding 14 = .ok (.imul, 1) := by decide +kernel
theorem dX0_spliceHolding_15 : decode cX0_spliceHolding 15 = .ok (.goto 9, 3) := by decide +kernel
theorem dX0_spliceHolding_18 : decode cX0_spliceHolding 18 = .ok (.iconst 2, 1) := by decide +kernel
theorem dX0_spliceHolding_19 : decode cX0_spliceHolding 19 = .ok (.aload_n 0, 1) := by decide +kernel
theorem dX0_spliceHolding_20 : decode cX0_spliceHolding 20 = .ok (.getfield 18, 3) := by decide +kernel
theorem dX0_spliceHolding_23 : decode cX0_spliceHolding 23 = .ok (.imul, 1) := by decide +kernel
theorem dX0_spliceHolding_24 : decode cX0_spliceHolding 24 = .ok (.ireturn, 1) := by decide +kernel
theorem dX0_settling_0 : decode cX0_settling 0 = .ok (.aload_n 0, 1) := by decide +kernel
theorem dX0_settling_1 : decode cX0_settling 1 = .ok (.getfield 9, 3) := by decide +kernel
theorem dX0_settling_4 : decode cX0_settling 4 = .ok (.tableswitch 95 1 5 #[36, 51, 58, 60, 75], 36) := by decide +kernel
theorem dX0_settling_40 : decode cX0_settling 40 = .ok (.aload_n 0, 1) := by decide +kernel
theorem dX0_settling_41 : decode cX0_settling 41 = .ok (.getfield 18, 3) := by decide +kernel
theorem dX0_settling_44 : decode cX0_settling 44 = .ok (.bipush 60, 2) := by decide +kernel
theorem dX0_settling_46 : decode cX0_settling 46 = .ok (.if_icmp .lt 7, 3) := by decide +kernel
theorem dX0_settling_49 : decode cX0_settling 49 = .ok (.iconst 0, 1) := by decide +kernel
theorem dX0_settling_50 : decode cX0_settling 50 = .ok (.goto 4, 3) := by decide +kernel
theorem dX0_settling_53 : decode cX0_settling 53 = .ok (.iconst 2, 1) := by decide +kernel
theorem dX0_settling_54 : decode cX0_settling 54 = .ok (.ireturn, 1) := by decide +kernel
theorem dX0_settling_55 : decode cX0_settling 55 = .ok (.iconst 2, 1) := by decide +kernel
theorem dX0_settling_56 : decode cX0_settling 56 = .ok (.iload_n 1, 1) := by decide +kernel
theorem dX0_settling_57 : decode cX0_settling 57 = .ok (.bipush 10, 2) := by decide +kernel
theorem dX0_settling_59 : decode cX0_settling 59 = .ok (.idiv, 1) := by decide +kernel
theorem dX0_settling_60 : decode cX0_settling 60 = .ok (.iadd, 1) := by decide +kernel
theorem dX0_settling_61 : decode cX0_settling 61 = .ok (.ireturn, 1) := by decide +kernel
theorem dX0_settling_62 : decode cX0_settling 62 = .ok (.iconst (-1), 1) := by decide +kernel
theorem dX0_settling_63 : decode cX0_settling 63 = .ok (.ireturn, 1) := by decide +kernel
theorem dX0_settling_64 : decode cX0_settling 64 = .ok (.aload_n 0, 1) := by decide +kernel
theorem dX0_settling_65 : decode cX0_settling 65 = .ok (.getfield 18, 3) := by decide +kernel
theorem dX0_settling_68 : decode cX0_settling 68 = .ok (.bipush 60, 2) := by decide +kernel
theorem dX0_settling_70 : decode cX0_settling 70 = .ok (.if_icmp .lt 7, 3) := by decide +kernel
theorem dX0_settling_73 : decode cX0_settling 73 = .ok (.iconst 0, 1) := by decide +kernel
theorem dX0_settling_74 : decode cX0_settling 74 = .ok (.goto 4, 3) := by decide +kernel
theorem dX0_settling_77 : decode cX0_settling 77 = .ok (.iconst 1, 1) := by decide +kernel
theorem dX0_settling_78 : decode cX0_settling 78 = .ok (.ireturn, 1) := by decide +kernel
theorem dX0_settling_79 : decode cX0_settling 79 = .ok (.aload_n 0, 1) := by decide +kernel
theorem dX0_settling_80 : decode cX0_settling 80 = .ok (.getfield 21, 3) := by decide +kernel
theorem dX0_settling_83 : decode cX0_settling 83 = .ok (.bipush 6, 2) := by decide +kernel
theorem dX0_settling_85 : decode cX0_settling 85 = .ok (.if_icmp .ge 7, 3) := by decide +kernel
theorem dX0_settling_88 : decode cX0_settling 88 = .ok (.iconst 0, 1) := by decide +kernel
theorem dX0_settling_89 : decode cX0_settling 89 = .ok (.goto 9, 3) := by decide +kernel
theorem dX0_settling_92 : decode cX0_settling 92 = .ok (.iconst 2, 1) := by decide +kernel
theorem dX0_settling_93 : decode cX0_settling 93 = .ok (.iload_n 1, 1) := by decide +kernel
theorem dX0_settling_94 : decode cX0_settling 94 = .ok (.bipush 10, 2) := by decide +kernel
theorem dX0_settling_96 : decode cX0_settling 96 = .ok (.idiv, 1) := by decide +kernel
theorem dX0_settling_97 : decode cX0_settling 97 = .ok (.iadd, 1) := by decide +kernel
theorem dX0_settling_98 : decode cX0_settling 98 = .ok (.ireturn, 1) := by decide +kernel
theorem dX0_settling_99 : decode cX0_settling 99 = .ok (.iconst 2, 1) := by decide +kernel
theorem dX0_settling_100 : decode cX0_settling 100 = .ok (.ireturn, 1) := by decide +kernel
theorem dX0_teasing_0 : decode cX0_teasing 0 = .ok (.aload_n 0, 1) := by decide +kernel
theorem dX0_teasing_1 : decode cX0_teasing 1 = .ok (.getfield 9, 3) := by decide +kernel
theorem dX0_teasing_4 : decode cX0_teasing 4 = .ok (.tableswitch 61 1 5 #[36, 39, 42, 36, 45], 36) := by decide +kernel
theorem dX0_teasing_40 : decode cX0_teasing 40 = .ok (.bipush 30, 2) := by decide +kernel
theorem dX0_teasing_42 : decode cX0_teasing 42 = .ok (.ireturn, 1) := by decide +kernel
theorem dX0_teasing_43 : decode cX0_teasing 43 = .ok (.bipush 10, 2) := by decide +kernel
theorem dX0_teasing_45 : decode cX0_teasing 45 = .ok (.ireturn, 1) := by decide +kernel
theorem dX0_teasing_46 : decode cX0_teasing 46 = .ok (.bipush (-20), 2) := by decide +kernel
theorem dX0_teasing_48 : decode cX0_teasing 48 = .ok (.ireturn, 1) := by decide +kernel
theorem dX0_teasing_49 : decode cX0_teasing 49 = .ok (.aload_n 0, 1) := by decide +kernel
theorem dX0_teasing_50 : decode cX0_teasing 50 = .ok (.getfield 18, 3) := by decide +kernel
theorem dX0_teasing_53 : decode cX0_teasing 53 = .ok (.bipush 90, 2) := by decide +kernel
theorem dX0_teasing_55 : decode cX0_teasing 55 = .ok (.if_icmp .lt 7, 3) := by decide +kernel
theorem dX0_teasing_58 : decode cX0_teasing 58 = .ok (.iconst 0, 1) := by decide +kernel
theorem dX0_teasing_59 : decode cX0_teasing 59 = .ok (.goto 5, 3) := by decide +kernel
theorem dX0_teasing_62 : decode cX0_teasing 62 = .ok (.bipush 10, 2) := by decide +kernel
theorem dX0_teasing_64 : decode cX0_teasing 64 = .ok (.ireturn, 1) := by decide +kernel
theorem dX0_teasing_65 : decode cX0_teasing 65 = .ok (.bipush 15, 2) := by decide +kernel
theorem dX0_teasing_67 : decode cX0_teasing 67 = .ok (.ireturn, 1) := by decide +kernel
theorem dX0_givesWay_0 : decode cX0_givesWay 0 = .ok (.iload_n 1, 1) := by decide +kernel
theorem dX0_givesWay_1 : decode cX0_givesWay 1 = .ok (.iload_n 2, 1) := by decide +kernel
theorem dX0_givesWay_2 : decode cX0_givesWay 2 = .ok (.if_icmp .le 7, 3) := by decide +kernel
theorem dX0_givesWay_5 : decode cX0_givesWay 5 = .ok (.iconst 1, 1) := by decide +kernel
theorem dX0_givesWay_6 : decode cX0_givesWay 6 = .ok (.goto 4, 3) := by decide +kernel
theorem dX0_givesWay_9 : decode cX0_givesWay 9 = .ok (.iconst 0, 1) := by decide +kernel
theorem dX0_givesWay_10 : decode cX0_givesWay 10 = .ok (.istore_n 3, 1) := by decide +kernel
theorem dX0_givesWay_11 : decode cX0_givesWay 11 = .ok (.aload_n 0, 1) := by decide +kernel
theorem dX0_givesWay_12 : decode cX0_givesWay 12 = .ok (.getfield 9, 3) := by decide +kernel
theorem dX0_givesWay_15 : decode cX0_givesWay 15 = .ok (.tableswitch 89 1 5 #[33, 89, 52, 33, 71], 33) := by decide +kernel
theorem dX0_givesWay_48 : decode cX0_givesWay 48 = .ok (.iload_n 3, 1) := by decide +kernel
theorem dX0_givesWay_49 : decode cX0_givesWay 49 = .ok (.ifCond .eq 16, 3) := by decide +kernel
theorem dX0_givesWay_52 : decode cX0_givesWay 52 = .ok (.aload_n 0, 1) := by decide +kernel
theorem dX0_givesWay_53 : decode cX0_givesWay 53 = .ok (.getfield 18, 3) := by decide +kernel
theorem dX0_givesWay_56 : decode cX0_givesWay 56 = .ok (.bipush 90, 2) := by decide +kernel
theorem dX0_givesWay_58 : decode cX0_givesWay 58 = .ok (.if_icmp .ge 7, 3) := by decide +kernel
theorem dX0_givesWay_61 : decode cX0_givesWay 61 = .ok (.iconst 1, 1) := by decide +kernel
theorem dX0_givesWay_62 : decode cX0_givesWay 62 = .ok (.goto 4, 3) := by decide +kernel
theorem dX0_givesWay_65 : decode cX0_givesWay 65 = .ok (.iconst 0, 1) := by decide +kernel
theorem dX0_givesWay_66 : decode cX0_givesWay 66 = .ok (.ireturn, 1) := by decide +kernel
theorem dX0_givesWay_67 : decode cX0_givesWay 67 = .ok (.iload_n 3, 1) := by decide +kernel
theorem dX0_givesWay_68 : decode cX0_givesWay 68 = .ok (.ifCond .ne 12, 3) := by decide +kernel
theorem dX0_givesWay_71 : decode cX0_givesWay 71 = .ok (.aload_n 0, 1) := by decide +kernel
theorem dX0_givesWay_72 : decode cX0_givesWay 72 = .ok (.getfield 18, 3) := by decide +kernel
theorem dX0_givesWay_75 : decode cX0_givesWay 75 = .ok (.bipush 99, 2) := by decide +kernel
theorem dX0_givesWay_77 : decode cX0_givesWay 77 = .ok (.if_icmp .ne 7, 3) := by decide +kernel
theorem dX0_givesWay_80 : decode cX0_givesWay 80 = .ok (.iconst 1, 1) := by decide +kernel
theorem dX0_givesWay_81 : decode cX0_givesWay 81 = .ok (.goto 4, 3) := by decide +kernel
theorem dX0_givesWay_84 : decode cX0_givesWay 84 = .ok (.iconst 0, 1) := by decide +kernel
theorem dX0_givesWay_85 : decode cX0_givesWay 85 = .ok (.ireturn, 1) := by decide +kernel
theorem dX0_givesWay_86 : decode cX0_givesWay 86 = .ok (.iload_n 3, 1) := by decide +kernel
theorem dX0_givesWay_87 : decode cX0_givesWay 87 = .ok (.ifCond .eq 15, 3) := by decide +kernel
theorem dX0_givesWay_90 : decode cX0_givesWay 90 = .ok (.aload_n 0, 1) := by decide +kernel
theorem dX0_givesWay_91 : decode cX0_givesWay 91 = .ok (.getfield 21, 3) := by decide +kernel
theorem dX0_givesWay_94 : decode cX0_givesWay 94 = .ok (.iconst 3, 1) := by decide +kernel
theorem dX0_givesWay_95 : decode cX0_givesWay 95 = .ok (.if_icmp .lt 7, 3) := by decide +kernel
theorem dX0_givesWay_98 : decode cX0_givesWay 98 = .ok (.iconst 1, 1) := by decide +kernel
theorem dX0_givesWay_99 : decode cX0_givesWay 99 = .ok (.goto 4, 3) := by decide +kernel
theorem dX0_givesWay_102 : decode cX0_givesWay 102 = .ok (.iconst 0, 1) := by decide +kernel
theorem dX0_givesWay_103 : decode cX0_givesWay 103 = .ok (.ireturn, 1) := by decide +kernel
theorem dX0_givesWay_104 : decode cX0_givesWay 104 = .ok (.iload_n 3, 1) := by decide +kernel
theorem dX0_givesWay_105 : decode cX0_givesWay 105 = .ok (.ireturn, 1) := by decide +kernel
theorem dX0_beTeased_0 : decode cX0_beTeased 0 = .ok (.aload_n 0, 1) := by decide +kernel
theorem dX0_beTeased_1 : decode cX0_beTeased 1 = .ok (.aload_n 0, 1) := by decide +kernel
theorem dX0_beTeased_2 : decode cX0_beTeased 2 = .ok (.invokevirtual 38, 3) := by decide +kernel
theorem dX0_beTeased_5 : decode cX0_beTeased 5 = .ok (.invokevirtual 41, 3) := by decide +kernel
theorem dX0_beTeased_8 : decode cX0_beTeased 8 = .ok (.return_, 1) := by decide +kernel
theorem dX0_settle_0 : decode cX0_settle 0 = .ok (.aload_n 0, 1) := by decide +kernel
theorem dX0_settle_1 : decode cX0_settle 1 = .ok (.aload_n 0, 1) := by decide +kernel
theorem dX0_settle_2 : decode cX0_settle 2 = .ok (.iload_n 1, 1) := by decide +kernel
theorem dX0_settle_3 : decode cX0_settle 3 = .ok (.invokevirtual 45, 3) := by decide +kernel
theorem dX0_settle_6 : decode cX0_settle 6 = .ok (.ineg, 1) := by decide +kernel
theorem dX0_settle_7 : decode cX0_settle 7 = .ok (.invokevirtual 41, 3) := by decide +kernel
theorem dX0_settle_10 : decode cX0_settle 10 = .ok (.aload_n 0, 1) := by decide +kernel
theorem dX0_settle_11 : decode cX0_settle 11 = .ok (.sipush 9999, 3) := by decide +kernel
theorem dX0_settle_14 : decode cX0_settle 14 = .ok (.aload_n 0, 1) := by decide +kernel
theorem dX0_settle_15 : decode cX0_settle 15 = .ok (.getfield 21, 3) := by decide +kernel
theorem dX0_settle_18 : decode cX0_settle 18 = .ok (.iconst 1, 1) := by decide +kernel
theorem dX0_settle_19 : decode cX0_settle 19 = .ok (.iadd, 1) := by decide +kernel
theorem dX0_settle_20 : decode cX0_settle 20 = .ok (.invokestatic 49, 3) := by decide +kernel
theorem dX0_settle_23 : decode cX0_settle 23 = .ok (.putfield 21, 3) := by decide +kernel
theorem dX0_settle_26 : decode cX0_settle 26 = .ok (.return_, 1) := by decide +kernel
theorem dX0_openBy_0 : decode cX0_openBy 0 = .ok (.aload_n 0, 1) := by decide +kernel
theorem dX0_openBy_1 : decode cX0_openBy 1 = .ok (.iconst 0, 1) := by decide +kernel
theorem dX0_openBy_2 : decode cX0_openBy 2 = .ok (.bipush 99, 2) := by decide +kernel
theorem dX0_openBy_4 : decode cX0_openBy 4 = .ok (.aload_n 0, 1) := by decide +kernel
theorem dX0_openBy_5 : decode cX0_openBy 5 = .ok (.getfield 18, 3) := by decide +kernel
theorem dX0_openBy_8 : decode cX0_openBy 8 = .ok (.iload_n 1, 1) := by decide +kernel
theorem dX0_openBy_9 : decode cX0_openBy 9 = .ok (.iadd, 1) := by decide +kernel
theorem dX0_openBy_10 : decode cX0_openBy 10 = .ok (.invokestatic 49, 3) := by decide +kernel
theorem dX0_openBy_13 : decode cX0_openBy 13 = .ok (.invokestatic 32, 3) := by decide +kernel
theorem dX0_openBy_16 : decode cX0_openBy 16 = .ok (.putfield 18, 3) := by decide +kernel
theorem dX0_openBy_19 : decode cX0_openBy 19 = .ok (.return_, 1) := by decide +kernel
theorem dX1_init_0 : decode cX1_init 0 = .ok (.aload_n 0, 1) := by decide +kernel
theorem dX1_init_1 : decode cX1_init 1 = .ok (.invokespecial 3, 3) := by decide +kernel
theorem dX1_init_4 : decode cX1_init 4 = .ok (.aload_n 0, 1) := by decide +kernel
theorem dX1_init_5 : decode cX1_init 5 = .ok (.iconst 0, 1) := by decide +kernel
theorem dX1_init_6 : decode cX1_init 6 = .ok (.putfield 9, 3) := by decide +kernel
theorem dX1_init_9 : decode cX1_init 9 = .ok (.aload_n 0, 1) := by decide +kernel
theorem dX1_init_10 : decode cX1_init 10 = .ok (.iconst 0, 1) := by decide +kernel
theorem dX1_init_11 : decode cX1_init 11 = .ok (.putfield 15, 3) := by decide +kernel
theorem dX1_init_14 : decode cX1_init 14 = .ok (.aload_n 0, 1) := by decide +kernel
theorem dX1_init_15 : decode cX1_init 15 = .ok (.bipush 40, 2) := by decide +kernel
theorem dX1_init_17 : decode cX1_init 17 = .ok (.newarray .long, 2) := by decide +kernel
theorem dX1_init_19 : decode cX1_init 19 = .ok (.putfield 18, 3) := by decide +kernel
theorem dX1_init_22 : decode cX1_init 22 = .ok (.return_, 1) := by decide +kernel
theorem dX1_begin_0 : decode cX1_begin 0 = .ok (.aload_n 0, 1) := by decide +kernel
theorem dX1_begin_1 : decode cX1_begin 1 = .ok (.iload_n 1, 1) := by decide +kernel
theorem dX1_begin_2 : decode cX1_begin 2 = .ok (.putfield 9, 3) := by decide +kernel
theorem dX1_begin_5 : decode cX1_begin 5 = .ok (.aload_n 0, 1) := by decide +kernel
theorem dX1_begin_6 : decode cX1_begin 6 = .ok (.iload_n 2, 1) := by decide +kernel
theorem dX1_begin_7 : decode cX1_begin 7 = .ok (.putfield 15, 3) := by decide +kernel
theorem dX1_begin_10 : decode cX1_begin 10 = .ok (.iconst 0, 1) := by decide +kernel
theorem dX1_begin_11 : decode cX1_begin 11 = .ok (.istore_n 3, 1) := by decide +kernel
theorem dX1_begin_12 : decode cX1_begin 12 = .ok (.iload_n 3, 1) := by decide +kernel
theorem dX1_begin_13 : decode cX1_begin 13 = .ok (.bipush 40, 2) := by decide +kernel
theorem dX1_begin_15 : decode cX1_begin 15 = .ok (.if_icmp .ge 16, 3) := by decide +kernel
theorem dX1_begin_18 : decode cX1_begin 18 = .ok (.aload_n 0, 1) := by decide +kernel
theorem dX1_begin_19 : decode cX1_begin 19 = .ok (.getfield 18, 3) := by decide +kernel
theorem dX1_begin_22 : decode cX1_begin 22 = .ok (.iload_n 3, 1) := by decide +kernel
theorem dX1_begin_23 : decode cX1_begin 23 = .ok (.lconst 0, 1) := by decide +kernel
theorem dX1_begin_24 : decode cX1_begin 24 = .ok (.lastore, 1) := by decide +kernel
theorem dX1_begin_25 : decode cX1_begin 25 = .ok (.iinc 3 1, 3) := by decide +kernel
theorem dX1_begin_28 : decode cX1_begin 28 = .ok (.goto (-16), 3) := by decide +kernel
theorem dX1_begin_31 : decode cX1_begin 31 = .ok (.return_, 1) := by decide +kernel
theorem dX1_isMissing_0 : decode cX1_isMissing 0 = .ok (.aload_n 0, 1) := by decide +kernel
theorem dX1_isMissing_1 : decode cX1_isMissing 1 = .ok (.getfield 9, 3) := by decide +kernel
theorem dX1_isMissing_4 : decode cX1_isMissing 4 = .ok (.ifCond .ne 7, 3) := by decide +kernel
theorem dX1_isMissing_7 : decode cX1_isMissing 7 = .ok (.iconst 1, 1) := by decide +kernel
theorem dX1_isMissing_8 : decode cX1_isMissing 8 = .ok (.goto 4, 3) := by decide +kernel
theorem dX1_isMissing_11 : decode cX1_isMissing 11 = .ok (.iconst 0, 1) := by decide +kernel
theorem dX1_isMissing_12 : decode cX1_isMissing 12 = .ok (.ireturn, 1) := by decide +kernel
theorem dX1_has_0 : decode cX1_has 0 = .ok (.iload_n 1, 1) := by decide +kernel
theorem dX1_has_1 : decode cX1_has 1 = .ok (.ifCond .lt 29, 3) := by decide +kernel
theorem dX1_has_4 : decode cX1_has 4 = .ok (.iload_n 2, 1) := by decide +kernel
theorem dX1_has_5 : decode cX1_has 5 = .ok (.ifCond .lt 25, 3) := by decide +kernel
theorem dX1_has_8 : decode cX1_has 8 = .ok (.iload_n 1, 1) := by decide +kernel
theorem dX1_has_9 : decode cX1_has 9 = .ok (.aload_n 0, 1) := by decide +kernel
theorem dX1_has_10 : decode cX1_has 10 = .ok (.getfield 15, 3) := by decide +kernel
theorem dX1_has_13 : decode cX1_has 13 = .ok (.if_icmp .gt 17, 3) := by decide +kernel
theorem dX1_has_16 : decode cX1_has 16 = .ok (.iload_n 2, 1) := by decide +kernel
theorem dX1_has_17 : decode cX1_has 17 = .ok (.aload_n 0, 1) := by decide +kernel
theorem dX1_has_18 : decode cX1_has 18 = .ok (.getfield 15, 3) := by decide +kernel
theorem dX1_has_21 : decode cX1_has 21 = .ok (.iload_n 1, 1) := by decide +kernel
theorem dX1_has_22 : decode cX1_has 22 = .ok (.isub, 1) := by decide +kernel
theorem dX1_has_23 : decode cX1_has 23 = .ok (.if_icmp .gt 7, 3) := by decide +kernel
theorem dX1_has_26 : decode cX1_has 26 = .ok (.iconst 1, 1) := by decide +kernel
theorem dX1_has_27 : decode cX1_has 27 = .ok (.goto 4, 3) := by decide +kernel
theorem dX1_has_30 : decode cX1_has 30 = .ok (.iconst 0, 1) := by decide +kernel
theorem dX1_has_31 : decode cX1_has 31 = .ok (.ireturn, 1) := by decide +kernel
theorem dX1_mayBeginWith_0 : decode cX1_mayBeginWith 0 = .ok (.aload_n 0, 1) := by decide +kernel
theorem dX1_mayBeginWith_1 : decode cX1_mayBeginWith 1 = .ok (.getfield 15, 3) := by decide +kernel
theorem dX1_mayBeginWith_4 : decode cX1_mayBeginWith 4 = .ok (.ifCond .eq 15, 3) := by decide +kernel
theorem dX1_mayBeginWith_7 : decode cX1_mayBeginWith 7 = .ok (.aload_n 0, 1) := by decide +kernel
theorem dX1_mayBeginWith_8 : decode cX1_mayBeginWith 8 = .ok (.getfield 18, 3) := by decide +kernel
theorem dX1_mayBeginWith_11 : decode cX1_mayBeginWith 11 = .ok (.iconst 0, 1) := by decide +kernel
theorem dX1_mayBeginWith_12 : decode cX1_mayBeginWith 12 = .ok (.laload, 1) := by decide +kernel
theorem dX1_mayBeginWith_13 : decode cX1_mayBeginWith 13 = .ok (.iload_n 1, 1) := by decide +kernel
theorem dX1_mayBeginWith_14 : decode cX1_mayBeginWith 14 = .ok (.i2l, 1) := by decide +kernel
theorem dX1_mayBeginWith_15 : decode cX1_mayBeginWith 15 = .ok (.lcmp, 1) := by decide +kernel
theorem dX1_mayBeginWith_16 : decode cX1_mayBeginWith 16 = .ok (.ifCond .ne 7, 3) := by decide +kernel
theorem dX1_mayBeginWith_19 : decode cX1_mayBeginWith 19 = .ok (.iconst 1, 1) := by decide +kernel
theorem dX1_mayBeginWith_20 : decode cX1_mayBeginWith 20 = .ok (.goto 4, 3) := by decide +kernel
theorem dX1_mayBeginWith_23 : decode cX1_mayBeginWith 23 = .ok (.iconst 0, 1) := by decide +kernel
theorem dX1_mayBeginWith_24 : decode cX1_mayBeginWith 24 = .ok (.ireturn, 1) := by decide +kernel
theorem dX1_put_0 : decode cX1_put 0 = .ok (.aload_n 0, 1) := by decide +kernel
theorem dX1_put_1 : decode cX1_put 1 = .ok (.getfield 9, 3) := by decide +kernel
theorem dX1_put_4 : decode cX1_put 4 = .ok (.bipush 8, 2) := by decide +kernel
theorem dX1_put_6 : decode cX1_put 6 = .ok (.if_icmp .ne 16, 3) := by decide +kernel
theorem dX1_put_9 : decode cX1_put 9 = .ok (.aload_n 0, 1) := by decide +kernel
theorem dX1_put_10 : decode cX1_put 10 = .ok (.getfield 18, 3) := by decide +kernel
theorem dX1_put_13 : decode cX1_put 13 = .ok (.iload_n 1, 1) := by decide +kernel
theorem dX1_put_14 : decode cX1_put 14 = .ok (.lload_n 2, 1) := by decide +kernel
theorem dX1_put_15 : decode cX1_put 15 = .ok (.l2i, 1) := by decide +kernel
theorem dX1_put_16 : decode cX1_put 16 = .ok (.i2b, 1) := by decide +kernel
theorem dX1_put_17 : decode cX1_put 17 = .ok (.i2l, 1) := by decide +kernel
theorem dX1_put_18 : decode cX1_put 18 = .ok (.lastore, 1) := by decide +kernel
theorem dX1_put_19 : decode cX1_put 19 = .ok (.goto 32, 3) := by decide +kernel
theorem dX1_put_22 : decode cX1_put 22 = .ok (.aload_n 0, 1) := by decide +kernel
theorem dX1_put_23 : decode cX1_put 23 = .ok (.getfield 9, 3) := by decide +kernel
theorem dX1_put_26 : decode cX1_put 26 = .ok (.bipush 16, 2) := by decide +kernel
theorem dX1_put_28 : decode cX1_put 28 = .ok (.if_icmp .ne 16, 3) := by decide +kernel
theorem dX1_put_31 : decode cX1_put 31 = .ok (.aload_n 0, 1) := by decide +kernel
theorem dX1_put_32 : decode cX1_put 32 = .ok (.getfield 18, 3) := by decide +kernel
theorem dX1_put_35 : decode cX1_put 35 = .ok (.iload_n 1, 1) := by decide +kernel
theorem dX1_put_36 : decode cX1_put 36 = .ok (.lload_n 2, 1) := by decide +kernel
theorem dX1_put_37 : decode cX1_put 37 = .ok (.l2i, 1) := by decide +kernel
theorem dX1_put_38 : decode cX1_put 38 = .ok (.i2s, 1) := by decide +kernel
theorem dX1_put_39 : decode cX1_put 39 = .ok (.i2l, 1) := by decide +kernel
theorem dX1_put_40 : decode cX1_put 40 = .ok (.lastore, 1) := by decide +kernel
theorem dX1_put_41 : decode cX1_put 41 = .ok (.goto 10, 3) := by decide +kernel
theorem dX1_put_44 : decode cX1_put 44 = .ok (.aload_n 0, 1) := by decide +kernel
theorem dX1_put_45 : decode cX1_put 45 = .ok (.getfield 18, 3) := by decide +kernel
theorem dX1_put_48 : decode cX1_put 48 = .ok (.iload_n 1, 1) := by decide +kernel
theorem dX1_put_49 : decode cX1_put 49 = .ok (.lload_n 2, 1) := by decide +kernel
theorem dX1_put_50 : decode cX1_put 50 = .ok (.lastore, 1) := by decide +kernel
theorem dX1_put_51 : decode cX1_put 51 = .ok (.return_, 1) := by decide +kernel
theorem dX2_init_0 : decode cX2_init 0 = .ok (.aload_n 0, 1) := by decide +kernel
theorem dX2_init_1 : decode cX2_init 1 = .ok (.invokespecial 3, 3) := by decide +kernel
theorem dX2_init_4 : decode cX2_init 4 = .ok (.aload_n 0, 1) := by decide +kernel
theorem dX2_init_5 : decode cX2_init 5 = .ok (.bipush 120, 2) := by decide +kernel
theorem dX2_init_7 : decode cX2_init 7 = .ok (.newarray .int, 2) := by decide +kernel
theorem dX2_init_9 : decode cX2_init 9 = .ok (.putfield 9, 3) := by decide +kernel
theorem dX2_init_12 : decode cX2_init 12 = .ok (.aload_n 0, 1) := by decide +kernel
theorem dX2_init_13 : decode cX2_init 13 = .ok (.iconst 0, 1) := by decide +kernel
theorem dX2_init_14 : decode cX2_init 14 = .ok (.putfield 15, 3) := by decide +kernel
theorem dX2_init_17 : decode cX2_init 17 = .ok (.return_, 1) := by decide +kernel
theorem dX2_add_0 : decode cX2_add 0 = .ok (.aload_n 0, 1) := by decide +kernel
theorem dX2_add_1 : decode cX2_add 1 = .ok (.getfield 15, 3) := by decide +kernel
theorem dX2_add_4 : decode cX2_add 4 = .ok (.bipush 120, 2) := by decide +kernel
theorem dX2_add_6 : decode cX2_add 6 = .ok (.if_icmp .ge 23, 3) := by decide +kernel
theorem dX2_add_9 : decode cX2_add 9 = .ok (.aload_n 0, 1) := by decide +kernel
theorem dX2_add_10 : decode cX2_add 10 = .ok (.getfield 9, 3) := by decide +kernel
theorem dX2_add_13 : decode cX2_add 13 = .ok (.aload_n 0, 1) := by decide +kernel
theorem dX2_add_14 : decode cX2_add 14 = .ok (.getfield 15, 3) := by decide +kernel
theorem dX2_add_17 : decode cX2_add 17 = .ok (.iload_n 1, 1) := by decide +kernel
theorem dX2_add_18 : decode cX2_add 18 = .ok (.iastore, 1) := by decide +kernel
theorem dX2_add_19 : decode cX2_add 19 = .ok (.aload_n 0, 1) := by decide +kernel
theorem dX2_add_20 : decode cX2_add 20 = .ok (.dup, 1) := by decide +kernel
theorem dX2_add_21 : decode cX2_add 21 = .ok (.getfield 15, 3) := by decide +kernel
theorem dX2_add_24 : decode cX2_add 24 = .ok (.iconst 1, 1) := by decide +kernel
theorem dX2_add_25 : decode cX2_add 25 = .ok (.iadd, 1) := by decide +kernel
theorem dX2_add_26 : decode cX2_add 26 = .ok (.putfield 15, 3) := by decide +kernel
theorem dX2_add_29 : decode cX2_add 29 = .ok (.return_, 1) := by decide +kernel
theorem dX2_byteAt_0 : decode cX2_byteAt 0 = .ok (.iload_n 1, 1) := by decide +kernel
theorem dX2_byteAt_1 : decode cX2_byteAt 1 = .ok (.ifCond .lt 20, 3) := by decide +kernel
theorem dX2_byteAt_4 : decode cX2_byteAt 4 = .ok (.iload_n 1, 1) := by decide +kernel
theorem dX2_byteAt_5 : decode cX2_byteAt 5 = .ok (.aload_n 0, 1) := by decide +kernel
theorem dX2_byteAt_6 : decode cX2_byteAt 6 = .ok (.getfield 15, 3) := by decide +kernel
theorem dX2_byteAt_9 : decode cX2_byteAt 9 = .ok (.if_icmp .ge 12, 3) := by decide +kernel
theorem dX2_byteAt_12 : decode cX2_byteAt 12 = .ok (.aload_n 0, 1) := by decide +kernel
theorem dX2_byteAt_13 : decode cX2_byteAt 13 = .ok (.getfield 9, 3) := by decide +kernel
theorem dX2_byteAt_16 : decode cX2_byteAt 16 = .ok (.iload_n 1, 1) := by decide +kernel
theorem dX2_byteAt_17 : decode cX2_byteAt 17 = .ok (.iaload, 1) := by decide +kernel
theorem dX2_byteAt_18 : decode cX2_byteAt 18 = .ok (.goto 4, 3) := by decide +kernel
theorem dX2_byteAt_21 : decode cX2_byteAt 21 = .ok (.iconst (-1), 1) := by decide +kernel
theorem dX2_byteAt_22 : decode cX2_byteAt 22 = .ok (.ireturn, 1) := by decide +kernel
theorem dX3_init_0 : decode cX3_init 0 = .ok (.aload_n 0, 1) := by decide +kernel
theorem dX3_init_1 : decode cX3_init 1 = .ok (.invokespecial 3, 3) := by decide +kernel
theorem dX3_init_4 : decode cX3_init 4 = .ok (.aload_n 0, 1) := by decide +kernel
theorem dX3_init_5 : decode cX3_init 5 = .ok (.iconst 0, 1) := by decide +kernel
theorem dX3_init_6 : decode cX3_init 6 = .ok (.putfield 9, 3) := by decide +kernel
theorem dX3_init_9 : decode cX3_init 9 = .ok (.aload_n 0, 1) := by decide +kernel
theorem dX3_init_10 : decode cX3_init 10 = .ok (.iconst 0, 1) := by decide +kernel
theorem dX3_init_11 : decode cX3_init 11 = .ok (.putfield 15, 3) := by decide +kernel
theorem dX3_init_14 : decode cX3_init 14 = .ok (.aload_n 0, 1) := by decide +kernel
theorem dX3_init_15 : decode cX3_init 15 = .ok (.iconst 0, 1) := by decide +kernel
theorem dX3_init_16 : decode cX3_init 16 = .ok (.putfield 18, 3) := by decide +kernel
theorem dX3_init_19 : decode cX3_init 19 = .ok (.aload_n 0, 1) := by decide +kernel
theorem dX3_init_20 : decode cX3_init 20 = .ok (.iconst 0, 1) := by decide +kernel
theorem dX3_init_21 : decode cX3_init 21 = .ok (.putfield 21, 3) := by decide +kernel
theorem dX3_init_24 : decode cX3_init 24 = .ok (.aload_n 0, 1) := by decide +kernel
theorem dX3_init_25 : decode cX3_init 25 = .ok (.iconst 0, 1) := by decide +kernel
theorem dX3_init_26 : decode cX3_init 26 = .ok (.putfield 24, 3) := by decide +kernel
theorem dX3_init_29 : decode cX3_init 29 = .ok (.aload_n 0, 1) := by decide +kernel
theorem dX3_init_30 : decode cX3_init 30 = .ok (.aload_n 1, 1) := by decide +kernel
theorem dX3_init_31 : decode cX3_init 31 = .ok (.putfield 27, 3) := by decide +kernel
theorem dX3_init_34 : decode cX3_init 34 = .ok (.aload_n 0, 1) := by decide +kernel
theorem dX3_init_35 : decode cX3_init 35 = .ok (.aload_n 2, 1) := by decide +kernel
theorem dX3_init_36 : decode cX3_init 36 = .ok (.putfield 31, 3) := by decide +kernel
theorem dX3_init_39 : decode cX3_init 39 = .ok (.return_, 1) := by decide +kernel
theorem dX3_readText_0 : decode cX3_readText 0 = .ok (.aload_n 0, 1) := by decide +kernel
theorem dX3_readText_1 : decode cX3_readText 1 = .ok (.iconst 0, 1) := by decide +kernel
theorem dX3_readText_2 : decode cX3_readText 2 = .ok (.putfield 9, 3) := by decide +kernel
theorem dX3_readText_5 : decode cX3_readText 5 = .ok (.aload_n 0, 1) := by decide +kernel
theorem dX3_readText_6 : decode cX3_readText 6 = .ok (.invokevirtual 35, 3) := by decide +kernel
theorem dX3_readText_9 : decode cX3_readText 9 = .ok (.iconst 1, 1) := by decide +kernel
theorem dX3_readText_10 : decode cX3_readText 10 = .ok (.istore_n 1, 1) := by decide +kernel
theorem dX3_readText_11 : decode cX3_readText 11 = .ok (.iload_n 1, 1) := by decide +kernel
theorem dX3_readText_12 : decode cX3_readText 12 = .ok (.bipush 120, 2) := by decide +kernel
theorem dX3_readText_14 : decode cX3_readText 14 = .ok (.if_icmp .gt 43, 3) := by decide +kernel
theorem dX3_readText_17 : decode cX3_readText 17 = .ok (.aload_n 0, 1) := by decide +kernel
theorem dX3_readText_18 : decode cX3_readText 18 = .ok (.invokevirtual 38, 3) := by decide +kernel
theorem dX3_readText_21 : decode cX3_readText 21 = .ok (.ifCond .ne 6, 3) := by decide +kernel
theorem dX3_readText_24 : decode cX3_readText 24 = .ok (.goto 33, 3) := by decide +kernel
theorem dX3_readText_27 : decode cX3_readText 27 = .ok (.aload_n 0, 1) := by decide +kernel
theorem dX3_readText_28 : decode cX3_readText 28 = .ok (.getfield 15, 3) := by decide +kernel
theorem dX3_readText_31 : decode cX3_readText 31 = .ok (.ifCond .ne 5, 3) := by decide +kernel
theorem dX3_readText_34 : decode cX3_readText 34 = .ok (.iload_n 1, 1) := by decide +kernel
theorem dX3_readText_35 : decode cX3_readText 35 = .ok (.ireturn, 1) := by decide +kernel
theorem dX3_readText_36 : decode cX3_readText 36 = .ok (.aload_n 0, 1) := by decide +kernel
theorem dX3_readText_37 : decode cX3_readText 37 = .ok (.getfield 15, 3) := by decide +kernel
theorem dX3_readText_40 : decode cX3_readText 40 = .ok (.iconst 3, 1) := by decide +kernel
theorem dX3_readText_41 : decode cX3_readText 41 = .ok (.if_icmp .eq 6, 3) := by decide +kernel
theorem dX3_readText_44 : decode cX3_readText 44 = .ok (.goto 13, 3) := by decide +kernel
theorem dX3_readText_47 : decode cX3_readText 47 = .ok (.aload_n 0, 1) := by decide +kernel
theorem dX3_readText_48 : decode cX3_readText 48 = .ok (.invokevirtual 35, 3) := by decide +kernel
theorem dX3_readText_51 : decode cX3_readText 51 = .ok (.iinc 1 1, 3) := by decide +kernel
theorem dX3_readText_54 : decode cX3_readText 54 = .ok (.goto (-43), 3) := by decide +kernel
theorem dX3_readText_57 : decode cX3_readText 57 = .ok (.iconst (-1), 1) := by decide +kernel
theorem dX3_readText_58 : decode cX3_readText 58 = .ok (.aload_n 0, 1) := by decide +kernel
theorem dX3_readText_59 : decode cX3_readText 59 = .ok (.getfield 18, 3) := by decide +kernel
theorem dX3_readText_62 : decode cX3_readText 62 = .ok (.isub, 1) := by decide +kernel
theorem dX3_readText_63 : decode cX3_readText 63 = .ok (.ireturn, 1) := by decide +kernel
theorem dX3_readItem_0 : decode cX3_readItem 0 = .ok (.aload_n 0, 1) := by decide +kernel
theorem dX3_readItem_1 : decode cX3_readItem 1 = .ok (.ldc 42, 2) := by decide +kernel
theorem dX3_readItem_3 : decode cX3_readItem 3 = .ok (.invokevirtual 44, 3) := by decide +kernel
theorem dX3_readItem_6 : decode cX3_readItem 6 = .ok (.ifCond .eq 8, 3) := by decide +kernel
theorem dX3_readItem_9 : decode cX3_readItem 9 = .ok (.aload_n 0, 1) := by decide +kernel
theorem dX3_readItem_10 : decode cX3_readItem 10 = .ok (.invokevirtual 48, 3) := by decide +kernel
theorem dX3_readItem_13 : decode cX3_readItem 13 = .ok (.ireturn, 1) := by decide +kernel
theorem dX3_readItem_14 : decode cX3_readItem 14 = .ok (.aload_n 0, 1) := by decide +kernel
theorem dX3_readItem_15 : decode cX3_readItem 15 = .ok (.ldc 51, 2) := by decide +kernel
theorem dX3_readItem_17 : decode cX3_readItem 17 = .ok (.invokevirtual 44, 3) := by decide +kernel
theorem dX3_readItem_20 : decode cX3_readItem 20 = .ok (.ifCond .eq 8, 3) := by decide +kernel
theorem dX3_readItem_23 : decode cX3_readItem 23 = .ok (.aload_n 0, 1) := by decide +kernel
theorem dX3_readItem_24 : decode cX3_readItem 24 = .ok (.invokevirtual 53, 3) := by decide +kernel
theorem dX3_readItem_27 : decode cX3_readItem 27 = .ok (.ireturn, 1) := by decide +kernel
theorem dX3_readItem_28 : decode cX3_readItem 28 = .ok (.aload_n 0, 1) := by decide +kernel
theorem dX3_readItem_29 : decode cX3_readItem 29 = .ok (.ldc 56, 2) := by decide +kernel
theorem dX3_readItem_31 : decode cX3_readItem 31 = .ok (.invokevirtual 44, 3) := by decide +kernel
theorem dX3_readItem_34 : decode cX3_readItem 34 = .ok (.ifCond .eq 8, 3) := by decide +kernel
theorem dX3_readItem_37 : decode cX3_readItem 37 = .ok (.aload_n 0, 1) := by decide +kernel
theorem dX3_readItem_38 : decode cX3_readItem 38 = .ok (.invokevirtual 58, 3) := by decide +kernel
theorem dX3_readItem_41 : decode cX3_readItem 41 = .ok (.ireturn, 1) := by decide +kernel
theorem dX3_readItem_42 : decode cX3_readItem 42 = .ok (.aload_n 0, 1) := by decide +kernel
theorem dX3_readItem_43 : decode cX3_readItem 43 = .ok (.invokevirtual 61, 3) := by decide +kernel
theorem dX3_readItem_46 : decode cX3_readItem 46 = .ok (.ireturn, 1) := by decide +kernel
theorem dX3_readMast_0 : decode cX3_readMast 0 = .ok (.aload_n 0, 1) := by decide +kernel
theorem dX3_readMast_1 : decode cX3_readMast 1 = .ok (.iconst 3, 1) := by decide +kernel
theorem dX3_readMast_2 : decode cX3_readMast 2 = .ok (.invokevirtual 64, 3) := by decide +kernel
theorem dX3_readMast_5 : decode cX3_readMast 5 = .ok (.ifCond .ne 5, 3) := by decide +kernel
theorem dX3_readMast_8 : decode cX3_readMast 8 = .ok (.iconst 0, 1) := by decide +kernel
theorem dX3_readMast_9 : decode cX3_readMast 9 = .ok (.ireturn, 1) := by decide +kernel
theorem dX3_readMast_10 : decode cX3_readMast 10 = .ok (.aload_n 0, 1) := by decide +kernel
theorem dX3_readMast_11 : decode cX3_readMast 11 = .ok (.getfield 24, 3) := by decide +kernel
theorem dX3_readMast_14 : decode cX3_readMast 14 = .ok (.istore_n 1, 1) := by decide +kernel
theorem dX3_readMast_15 : decode cX3_readMast 15 = .ok (.aload_n 0, 1) := by decide +kernel
theorem dX3_readMast_16 : decode cX3_readMast 16 = .ok (.sipush 999, 3) := by decide +kernel
theorem dX3_readMast_19 : decode cX3_readMast 19 = .ok (.invokevirtual 64, 3) := by decide +kernel
theorem dX3_readMast_22 : decode cX3_readMast 22 = .ok (.ifCond .ne 5, 3) := by decide +kernel
theorem dX3_readMast_25 : decode cX3_readMast 25 = .ok (.iconst 0, 1) := by decide +kernel
theorem dX3_readMast_26 : decode cX3_readMast 26 = .ok (.ireturn, 1) := by decide +kernel
theorem dX3_readMast_27 : decode cX3_readMast 27 = .ok (.aload_n 0, 1) := by decide +kernel
theorem dX3_readMast_28 : decode cX3_readMast 28 = .ok (.getfield 31, 3) := by decide +kernel
theorem dX3_readMast_31 : decode cX3_readMast 31 = .ok (.getfield 68, 3) := by decide +kernel
theorem dX3_readMast_34 : decode cX3_readMast 34 = .ok (.iload_n 1, 1) := by decide +kernel
theorem dX3_readMast_35 : decode cX3_readMast 35 = .ok (.aload_n 0, 1) := by decide +kernel
theorem dX3_readMast_36 : decode cX3_readMast 36 = .ok (.getfield 24, 3) := by decide +kernel
theorem dX3_readMast_39 : decode cX3_readMast 39 = .ok (.iastore, 1) := by decide +kernel
theorem dX3_readMast_40 : decode cX3_readMast 40 = .ok (.aload_n 0, 1) := by decide +kernel
theorem dX3_readMast_41 : decode cX3_readMast 41 = .ok (.getfield 31, 3) := by decide +kernel
theorem dX3_readMast_44 : decode cX3_readMast 44 = .ok (.iload_n 1, 1) := by decide +kernel
theorem dX3_readMast_45 : decode cX3_readMast 45 = .ok (.aload_n 0, 1) := by decide +kernel
theorem dX3_readMast_46 : decode cX3_readMast 46 = .ok (.ldc 74, 2) := by decide +kernel
theorem dX3_readMast_48 : decode cX3_readMast 48 = .ok (.invokevirtual 44, 3) := by decide +kernel
theorem dX3_readMast_51 : decode cX3_readMast 51 = .ok (.ifCond .ne 7, 3) := by decide +kernel
theorem dX3_readMast_54 : decode cX3_readMast 54 = .ok (.iconst 1, 1) := by decide +kernel
theorem dX3_readMast_55 : decode cX3_readMast 55 = .ok (.goto 4, 3) := by decide +kernel
theorem dX3_readMast_58 : decode cX3_readMast 58 = .ok (.iconst 0, 1) := by decide +kernel
theorem dX3_readMast_59 : decode cX3_readMast 59 = .ok (.invokevirtual 76, 3) := by decide +kernel
theorem dX3_readMast_62 : decode cX3_readMast 62 = .ok (.iconst 1, 1) := by decide +kernel
theorem dX3_readMast_63 : decode cX3_readMast 63 = .ok (.ireturn, 1) := by decide +kernel
theorem dX3_readWind_0 : decode cX3_readWind 0 = .ok (.aload_n 0, 1) := by decide +kernel
theorem dX3_readWind_1 : decode cX3_readWind 1 = .ok (.bipush 11, 2) := by decide +kernel
theorem dX3_readWind_3 : decode cX3_readWind 3 = .ok (.invokevirtual 64, 3) := by decide +kernel
theorem dX3_readWind_6 : decode cX3_readWind 6 = .ok (.ifCond .ne 5, 3) := by decide +kernel
theorem dX3_readWind_9 : decode cX3_readWind 9 = .ok (.iconst 0, 1) := by decide +kernel
theorem dX3_readWind_10 : decode cX3_readWind 10 = .ok (.ireturn, 1) := by decide +kernel
theorem dX3_readWind_11 : decode cX3_readWind 11 = .ok (.aload_n 0, 1) := by decide +kernel
theorem dX3_readWind_12 : decode cX3_readWind 12 = .ok (.getfield 24, 3) := by decide +kernel
theorem dX3_readWind_15 : decode cX3_readWind 15 = .ok (.istore_n 1, 1) := by decide +kernel
theorem dX3_readWind_16 : decode cX3_readWind 16 = .ok (.aload_n 0, 1) := by decide +kernel
theorem dX3_readWind_17 : decode cX3_readWind 17 = .ok (.bipush 99, 2) := by decide +kernel
theorem dX3_readWind_19 : decode cX3_readWind 19 = .ok (.invokevirtual 64, 3) := by decide +kernel
theorem dX3_readWind_22 : decode cX3_readWind 22 = .ok (.ifCond .ne 5, 3) := by decide +kernel
theorem dX3_readWind_25 : decode cX3_readWind 25 = .ok (.iconst 0, 1) := by decide +kernel
theorem dX3_readWind_26 : decode cX3_readWind 26 = .ok (.ireturn, 1) := by decide +kernel
theorem dX3_readWind_27 : decode cX3_readWind 27 = .ok (.aload_n 0, 1) := by decide +kernel
theorem dX3_readWind_28 : decode cX3_readWind 28 = .ok (.getfield 31, 3) := by decide +kernel
theorem dX3_readWind_31 : decode cX3_readWind 31 = .ok (.getfield 80, 3) := by decide +kernel
theorem dX3_readWind_34 : decode cX3_readWind 34 = .ok (.iload_n 1, 1) := by decide +kernel
theorem dX3_readWind_35 : decode cX3_readWind 35 = .ok (.aload_n 0, 1) := by decide +kernel
theorem dX3_readWind_36 : decode cX3_readWind 36 = .ok (.getfield 24, 3) := by decide +kernel
theorem dX3_readWind_39 : decode cX3_readWind 39 = .ok (.iastore, 1) := by decide +kernel
theorem dX3_readWind_40 : decode cX3_readWind 40 = .ok (.iconst 1, 1) := by decide +kernel
theorem dX3_readWind_41 : decode cX3_readWind 41 = .ok (.ireturn, 1) := by decide +kernel
theorem dX3_readTease_0 : decode cX3_readTease 0 = .ok (.aload_n 0, 1) := by decide +kernel
theorem dX3_readTease_1 : decode cX3_readTease 1 = .ok (.aload_n 0, 1) := by decide +kernel
theorem dX3_readTease_2 : decode cX3_readTease 2 = .ok (.getfield 31, 3) := by decide +kernel
theorem dX3_readTease_5 : decode cX3_readTease 5 = .ok (.getfield 83, 3) := by decide +kernel
theorem dX3_readTease_8 : decode cX3_readTease 8 = .ok (.iconst 1, 1) := by decide +kernel
theorem dX3_readTease_9 : decode cX3_readTease 9 = .ok (.isub, 1) := by decide +kernel
theorem dX3_readTease_10 : decode cX3_readTease 10 = .ok (.invokevirtual 64, 3) := by decide +kernel
theorem dX3_readTease_13 : decode cX3_readTease 13 = .ok (.ifCond .ne 5, 3) := by decide +kernel
theorem dX3_readTease_16 : decode cX3_readTease 16 = .ok (.iconst 0, 1) := by decide +kernel
theorem dX3_readTease_17 : decode cX3_readTease 17 = .ok (.ireturn, 1) := by decide +kernel
theorem dX3_readTease_18 : decode cX3_readTease 18 = .ok (.aload_n 0, 1) := by decide +kernel
theorem dX3_readTease_19 : decode cX3_readTease 19 = .ok (.getfield 31, 3) := by decide +kernel
theorem dX3_readTease_22 : decode cX3_readTease 22 = .ok (.getfield 86, 3) := by decide +kernel
theorem dX3_readTease_25 : decode cX3_readTease 25 = .ok (.aload_n 0, 1) := by decide +kernel
theorem dX3_readTease_26 : decode cX3_readTease 26 = .ok (.getfield 24, 3) := by decide +kernel
theorem dX3_readTease_29 : decode cX3_readTease 29 = .ok (.aaload, 1) := by decide +kernel
theorem dX3_readTease_30 : decode cX3_readTease 30 = .ok (.invokevirtual 90, 3) := by decide +kernel
theorem dX3_readTease_33 : decode cX3_readTease 33 = .ok (.iconst 1, 1) := by decide +kernel
theorem dX3_readTease_34 : decode cX3_readTease 34 = .ok (.ireturn, 1) := by decide +kernel
theorem dX3_readKnot_0 : decode cX3_readKnot 0 = .ok (.aload_n 0, 1) := by decide +kernel
theorem dX3_readKnot_1 : decode cX3_readKnot 1 = .ok (.invokevirtual 95, 3) := by decide +kernel
theorem dX3_readKnot_4 : decode cX3_readKnot 4 = .ok (.istore_n 1, 1) := by decide +kernel
theorem dX3_readKnot_5 : decode cX3_readKnot 5 = .ok (.iload_n 1, 1) := by decide +kernel
theorem dX3_readKnot_6 : decode cX3_readKnot 6 = .ok (.ifCond .lt 13, 3) := by decide +kernel
theorem dX3_readKnot_9 : decode cX3_readKnot 9 = .ok (.aload_n 0, 1) := by decide +kernel
theorem dX3_readKnot_10 : decode cX3_readKnot 10 = .ok (.getfield 31, 3) := by decide +kernel
theorem dX3_readKnot_13 : decode cX3_readKnot 13 = .ok (.invokevirtual 99, 3) := by decide +kernel
theorem dX3_readKnot_16 : decode cX3_readKnot 16 = .ok (.ifCond .eq 5, 3) := by decide +kernel
theorem dX3_readKnot_19 : decode cX3_readKnot 19 = .ok (.iconst 0, 1) := by decide +kernel
theorem dX3_readKnot_20 : decode cX3_readKnot 20 = .ok (.ireturn, 1) := by decide +kernel
theorem dX3_readKnot_21 : decode cX3_readKnot 21 = .ok (.aload_n 0, 1) := by decide +kernel
theorem dX3_readKnot_22 : decode cX3_readKnot 22 = .ok (.invokevirtual 35, 3) := by decide +kernel
theorem dX3_readKnot_25 : decode cX3_readKnot 25 = .ok (.aload_n 0, 1) := by decide +kernel
theorem dX3_readKnot_26 : decode cX3_readKnot 26 = .ok (.iconst 3, 1) := by decide +kernel
theorem dX3_readKnot_27 : decode cX3_readKnot 27 = .ok (.invokevirtual 64, 3) := by decide +kernel
theorem dX3_readKnot_30 : decode cX3_readKnot 30 = .ok (.ifCond .ne 5, 3) := by decide +kernel
theorem dX3_readKnot_33 : decode cX3_readKnot 33 = .ok (.iconst 0, 1) := by decide +kernel
theorem dX3_readKnot_34 : decode cX3_readKnot 34 = .ok (.ireturn, 1) := by decide +kernel
theorem dX3_readKnot_35 : decode cX3_readKnot 35 = .ok (.aload_n 0, 1) := by decide +kernel
theorem dX3_readKnot_36 : decode cX3_readKnot 36 = .ok (.getfield 31, 3) := by decide +kernel
theorem dX3_readKnot_39 : decode cX3_readKnot 39 = .ok (.getfield 86, 3) := by decide +kernel
theorem dX3_readKnot_42 : decode cX3_readKnot 42 = .ok (.aload_n 0, 1) := by decide +kernel
theorem dX3_readKnot_43 : decode cX3_readKnot 43 = .ok (.getfield 31, 3) := by decide +kernel
theorem dX3_readKnot_46 : decode cX3_readKnot 46 = .ok (.iload_n 1, 1) := by decide +kernel
theorem dX3_readKnot_47 : decode cX3_readKnot 47 = .ok (.aload_n 0, 1) := by decide +kernel
theorem dX3_readKnot_48 : decode cX3_readKnot 48 = .ok (.getfield 24, 3) := by decide +kernel
theorem dX3_readKnot_51 : decode cX3_readKnot 51 = .ok (.invokevirtual 102, 3) := by decide +kernel
theorem dX3_readKnot_54 : decode cX3_readKnot 54 = .ok (.aaload, 1) := by decide +kernel
theorem dX3_readKnot_55 : decode cX3_readKnot 55 = .ok (.astore_n 2, 1) := by decide +kernel
theorem dX3_readKnot_56 : decode cX3_readKnot 56 = .ok (.aload_n 0, 1) := by decide +kernel
theorem dX3_readKnot_57 : decode cX3_readKnot 57 = .ok (.ldc 106, 2) := by decide +kernel
theorem dX3_readKnot_59 : decode cX3_readKnot 59 = .ok (.invokevirtual 44, 3) := by decide +kernel
theorem dX3_readKnot_62 : decode cX3_readKnot 62 = .ok (.ifCond .eq 22, 3) := by decide +kernel
theorem dX3_readKnot_65 : decode cX3_readKnot 65 = .ok (.aload_n 0, 1) := by decide +kernel
theorem dX3_readKnot_66 : decode cX3_readKnot 66 = .ok (.bipush 99, 2) := by decide +kernel
theorem dX3_readKnot_68 : decode cX3_readKnot 68 = .ok (.invokevirtual 64, 3) := by decide +kernel
theorem dX3_readKnot_71 : decode cX3_readKnot 71 = .ok (.ifCond .ne 5, 3) := by decide +kernel
theorem dX3_readKnot_74 : decode cX3_readKnot 74 = .ok (.iconst 0, 1) := by decide +kernel
theorem dX3_readKnot_75 : decode cX3_readKnot 75 = .ok (.ireturn, 1) := by decide +kernel
theorem dX3_readKnot_76 : decode cX3_readKnot 76 = .ok (.aload_n 2, 1) := by decide +kernel
theorem dX3_readKnot_77 : decode cX3_readKnot 77 = .ok (.aload_n 0, 1) := by decide +kernel
theorem dX3_readKnot_78 : decode cX3_readKnot 78 = .ok (.getfield 24, 3) := by decide +kernel
theorem dX3_readKnot_81 : decode cX3_readKnot 81 = .ok (.putfield 108, 3) := by decide +kernel
theorem dX3_readKnot_84 : decode cX3_readKnot 84 = .ok (.aload_n 2, 1) := by decide +kernel
theorem dX3_readKnot_85 : decode cX3_readKnot 85 = .ok (.aload_n 0, 1) := by decide +kernel
theorem dX3_readKnot_86 : decode cX3_readKnot 86 = .ok (.ldc 110, 2) := by decide +kernel
theorem dX3_readKnot_88 : decode cX3_readKnot 88 = .ok (.invokevirtual 44, 3) := by decide +kernel
theorem dX3_readKnot_91 : decode cX3_readKnot 91 = .ok (.ifCond .ne 7, 3) := by decide +kernel
theorem dX3_readKnot_94 : decode cX3_readKnot 94 = .ok (.iconst 1, 1) := by decide +kernel
theorem dX3_readKnot_95 : decode cX3_readKnot 95 = .ok (.goto 4, 3) := by decide +kernel
theorem dX3_readKnot_98 : decode cX3_readKnot 98 = .ok (.iconst 0, 1) := by decide +kernel
theorem dX3_readKnot_99 : decode cX3_readKnot 99 = .ok (.putfield 112, 3) := by decide +kernel
theorem dX3_readKnot_102 : decode cX3_readKnot 102 = .ok (.iconst 1, 1) := by decide +kernel
theorem dX3_readKnot_103 : decode cX3_readKnot 103 = .ok (.ireturn, 1) := by decide +kernel
theorem dX3_kindTold_0 : decode cX3_kindTold 0 = .ok (.iconst 0, 1) := by decide +kernel
theorem dX3_kindTold_1 : decode cX3_kindTold 1 = .ok (.istore_n 1, 1) := by decide +kernel
theorem dX3_kindTold_2 : decode cX3_kindTold 2 = .ok (.iload_n 1, 1) := by decide +kernel
theorem dX3_kindTold_3 : decode cX3_kindTold 3 = .ok (.bipush 6, 2) := by decide +kernel
theorem dX3_kindTold_5 : decode cX3_kindTold 5 = .ok (.if_icmp .ge 22, 3) := by decide +kernel
theorem dX3_kindTold_8 : decode cX3_kindTold 8 = .ok (.aload_n 0, 1) := by decide +kernel
theorem dX3_kindTold_9 : decode cX3_kindTold 9 = .ok (.iload_n 1, 1) := by decide +kernel
theorem dX3_kindTold_10 : decode cX3_kindTold 10 = .ok (.invokestatic 116, 3) := by decide +kernel
theorem dX3_kindTold_13 : decode cX3_kindTold 13 = .ok (.invokevirtual 120, 3) := by decide +kernel
theorem dX3_kindTold_16 : decode cX3_kindTold 16 = .ok (.ifCond .eq 5, 3) := by decide +kernel
theorem dX3_kindTold_19 : decode cX3_kindTold 19 = .ok (.iload_n 1, 1) := by decide +kernel
theorem dX3_kindTold_20 : decode cX3_kindTold 20 = .ok (.ireturn, 1) := by decide +kernel
theorem dX3_kindTold_21 : decode cX3_kindTold 21 = .ok (.iinc 1 1, 3) := by decide +kernel
theorem dX3_kindTold_24 : decode cX3_kindTold 24 = .ok (.goto (-22), 3) := by decide +kernel
theorem dX3_kindTold_27 : decode cX3_kindTold 27 = .ok (.iconst (-1), 1) := by decide +kernel
theorem dX3_kindTold_28 : decode cX3_kindTold 28 = .ok (.ireturn, 1) := by decide +kernel
theorem dX3_nameOf_0 : decode cX3_nameOf 0 = .ok (.iload_n 0, 1) := by decide +kernel
theorem dX3_nameOf_1 : decode cX3_nameOf 1 = .ok (.tableswitch 50 1 5 #[35, 38, 41, 44, 47], 35) := by decide +kernel
theorem dX3_nameOf_36 : decode cX3_nameOf 36 = .ok (.ldc 123, 2) := by decide +kernel
theorem dX3_nameOf_38 : decode cX3_nameOf 38 = .ok (.areturn, 1) := by decide +kernel
theorem dX3_nameOf_39 : decode cX3_nameOf 39 = .ok (.ldc 125, 2) := by decide +kernel
theorem dX3_nameOf_41 : decode cX3_nameOf 41 = .ok (.areturn, 1) := by decide +kernel
theorem dX3_nameOf_42 : decode cX3_nameOf 42 = .ok (.ldc 127, 2) := by decide +kernel
theorem dX3_nameOf_44 : decode cX3_nameOf 44 = .ok (.areturn, 1) := by decide +kernel
theorem dX3_nameOf_45 : decode cX3_nameOf 45 = .ok (.ldc 129, 2) := by decide +kernel
theorem dX3_nameOf_47 : decode cX3_nameOf 47 = .ok (.areturn, 1) := by decide +kernel
theorem dX3_nameOf_48 : decode cX3_nameOf 48 = .ok (.ldc 131, 2) := by decide +kernel
theorem dX3_nameOf_50 : decode cX3_nameOf 50 = .ok (.areturn, 1) := by decide +kernel
theorem dX3_nameOf_51 : decode cX3_nameOf 51 = .ok (.ldc 133, 2) := by decide +kernel
theorem dX3_nameOf_53 : decode cX3_nameOf 53 = .ok (.areturn, 1) := by decide +kernel
theorem dX3_takeWord_0 : decode cX3_takeWord 0 = .ok (.aload_n 0, 1) := by decide +kernel
theorem dX3_takeWord_1 : decode cX3_takeWord 1 = .ok (.aload_n 1, 1) := by decide +kernel
theorem dX3_takeWord_2 : decode cX3_takeWord 2 = .ok (.invokevirtual 120, 3) := by decide +kernel
theorem dX3_takeWord_5 : decode cX3_takeWord 5 = .ok (.ifCond .ne 5, 3) := by decide +kernel
theorem dX3_takeWord_8 : decode cX3_takeWord 8 = .ok (.iconst 0, 1) := by decide +kernel
theorem dX3_takeWord_9 : decode cX3_takeWord 9 = .ok (.ireturn, 1) := by decide +kernel
theorem dX3_takeWord_10 : decode cX3_takeWord 10 = .ok (.aload_n 0, 1) := by decide +kernel
theorem dX3_takeWord_11 : decode cX3_takeWord 11 = .ok (.invokevirtual 35, 3) := by decide +kernel
theorem dX3_takeWord_14 : decode cX3_takeWord 14 = .ok (.iconst 1, 1) := by decide +kernel
theorem dX3_takeWord_15 : decode cX3_takeWord 15 = .ok (.ireturn, 1) := by decide +kernel
theorem dX3_isWord_0 : decode cX3_isWord 0 = .ok (.aload_n 0, 1) := by decide +kernel
theorem dX3_isWord_1 : decode cX3_isWord 1 = .ok (.getfield 15, 3) := by decide +kernel
theorem dX3_isWord_4 : decode cX3_isWord 4 = .ok (.iconst 1, 1) := by decide +kernel
theorem dX3_isWord_5 : decode cX3_isWord 5 = .ok (.if_icmp .ne 19, 3) := by decide +kernel
theorem dX3_isWord_8 : decode cX3_isWord 8 = .ok (.aload_n 0, 1) := by decide +kernel
theorem dX3_isWord_9 : decode cX3_isWord 9 = .ok (.getfield 9, 3) := by decide +kernel
theorem dX3_isWord_12 : decode cX3_isWord 12 = .ok (.aload_n 0, 1) := by decide +kernel
theorem dX3_isWord_13 : decode cX3_isWord 13 = .ok (.getfield 18, 3) := by decide +kernel
theorem dX3_isWord_16 : decode cX3_isWord 16 = .ok (.isub, 1) := by decide +kernel
theorem dX3_isWord_17 : decode cX3_isWord 17 = .ok (.aload_n 1, 1) := by decide +kernel
theorem dX3_isWord_18 : decode cX3_isWord 18 = .ok (.invokevirtual 135, 3) := by decide +kernel
theorem dX3_isWord_21 : decode cX3_isWord 21 = .ok (.if_icmp .eq 5, 3) := by decide +kernel
theorem dX3_isWord_24 : decode cX3_isWord 24 = .ok (.iconst 0, 1) := by decide +kernel
theorem dX3_isWord_25 : decode cX3_isWord 25 = .ok (.ireturn, 1) := by decide +kernel
theorem dX3_isWord_26 : decode cX3_isWord 26 = .ok (.iconst 0, 1) := by decide +kernel
theorem dX3_isWord_27 : decode cX3_isWord 27 = .ok (.istore_n 2, 1) := by decide +kernel
theorem dX3_isWord_28 : decode cX3_isWord 28 = .ok (.iload_n 2, 1) := by decide +kernel
theorem dX3_isWord_29 : decode cX3_isWord 29 = .ok (.aload_n 1, 1) := by decide +kernel
theorem dX3_isWord_30 : decode cX3_isWord 30 = .ok (.invokevirtual 135, 3) := by decide +kernel
theorem dX3_isWord_33 : decode cX3_isWord 33 = .ok (.if_icmp .ge 32, 3) := by decide +kernel
theorem dX3_isWord_36 : decode cX3_isWord 36 = .ok (.aload_n 0, 1) := by decide +kernel
theorem dX3_isWord_37 : decode cX3_isWord 37 = .ok (.getfield 27, 3) := by decide +kernel
theorem dX3_isWord_40 : decode cX3_isWord 40 = .ok (.aload_n 0, 1) := by decide +kernel
theorem dX3_isWord_41 : decode cX3_isWord 41 = .ok (.getfield 18, 3) := by decide +kernel
theorem dX3_isWord_44 : decode cX3_isWord 44 = .ok (.iload_n 2, 1) := by decide +kernel
theorem dX3_isWord_45 : decode cX3_isWord 45 = .ok (.iadd, 1) := by decide +kernel
theorem dX3_isWord_46 : decode cX3_isWord 46 = .ok (.invokevirtual 140, 3) := by decide +kernel
theorem dX3_isWord_49 : decode cX3_isWord 49 = .ok (.aload_n 1, 1) := by decide +kernel
theorem dX3_isWord_50 : decode cX3_isWord 50 = .ok (.iload_n 2, 1) := by decide +kernel
theorem dX3_isWord_51 : decode cX3_isWord 51 = .ok (.invokevirtual 146, 3) := by decide +kernel
theorem dX3_isWord_54 : decode cX3_isWord 54 = .ok (.if_icmp .eq 5, 3) := by decide +kernel
theorem dX3_isWord_57 : decode cX3_isWord 57 = .ok (.iconst 0, 1) := by decide +kernel
theorem dX3_isWord_58 : decode cX3_isWord 58 = .ok (.ireturn, 1) := by decide +kernel
theorem dX3_isWord_59 : decode cX3_isWord 59 = .ok (.iinc 2 1, 3) := by decide +kernel
theorem dX3_isWord_62 : decode cX3_isWord 62 = .ok (.goto (-34), 3) := by decide +kernel
theorem dX3_isWord_65 : decode cX3_isWord 65 = .ok (.iconst 1, 1) := by decide +kernel
theorem dX3_isWord_66 : decode cX3_isWord 66 = .ok (.ireturn, 1) := by decide +kernel
theorem dX3_takeNumber_0 : decode cX3_takeNumber 0 = .ok (.aload_n 0, 1) := by decide +kernel
theorem dX3_takeNumber_1 : decode cX3_takeNumber 1 = .ok (.getfield 15, 3) := by decide +kernel
theorem dX3_takeNumber_4 : decode cX3_takeNumber 4 = .ok (.iconst 2, 1) := by decide +kernel
theorem dX3_takeNumber_5 : decode cX3_takeNumber 5 = .ok (.if_icmp .ne 11, 3) := by decide +kernel
theorem dX3_takeNumber_8 : decode cX3_takeNumber 8 = .ok (.aload_n 0, 1) := by decide +kernel
theorem dX3_takeNumber_9 : decode cX3_takeNumber 9 = .ok (.getfield 21, 3) := by decide +kernel
theorem dX3_takeNumber_12 : decode cX3_takeNumber 12 = .ok (.iload_n 1, 1) := by decide +kernel
theorem dX3_takeNumber_13 : decode cX3_takeNumber 13 = .ok (.if_icmp .le 5, 3) := by decide +kernel
theorem dX3_takeNumber_16 : decode cX3_takeNumber 16 = .ok (.iconst 0, 1) := by decide +kernel
theorem dX3_takeNumber_17 : decode cX3_takeNumber 17 = .ok (.ireturn, 1) := by decide +kernel
theorem dX3_takeNumber_18 : decode cX3_takeNumber 18 = .ok (.aload_n 0, 1) := by decide +kernel
theorem dX3_takeNumber_19 : decode cX3_takeNumber 19 = .ok (.aload_n 0, 1) := by decide +kernel
theorem dX3_takeNumber_20 : decode cX3_takeNumber 20 = .ok (.getfield 21, 3) := by decide +kernel
theorem dX3_takeNumber_23 : decode cX3_takeNumber 23 = .ok (.putfield 24, 3) := by decide +kernel
theorem dX3_takeNumber_26 : decode cX3_takeNumber 26 = .ok (.aload_n 0, 1) := by decide +kernel
theorem dX3_takeNumber_27 : decode cX3_takeNumber 27 = .ok (.invokevirtual 35, 3) := by decide +kernel
theorem dX3_takeNumber_30 : decode cX3_takeNumber 30 = .ok (.iconst 1, 1) := by decide +kernel
theorem dX3_takeNumber_31 : decode cX3_takeNumber 31 = .ok (.ireturn, 1) := by decide +kernel
theorem dX3_readToken_0 : decode cX3_readToken 0 = .ok (.aload_n 0, 1) := by decide +kernel
theorem dX3_readToken_1 : decode cX3_readToken 1 = .ok (.getfield 9, 3) := by decide +kernel
theorem dX3_readToken_4 : decode cX3_readToken 4 = .ok (.aload_n 0, 1) := by decide +kernel
theorem dX3_readToken_5 : decode cX3_readToken 5 = .ok (.getfield 27, 3) := by decide +kernel
theorem dX3_readToken_8 : decode cX3_readToken 8 = .ok (.getfield 150, 3) := by decide +kernel
theorem dX3_readToken_11 : decode cX3_readToken 11 = .ok (.if_icmp .ge 32, 3) := by decide +kernel
theorem dX3_readToken_14 : decode cX3_readToken 14 = .ok (.aload_n 0, 1) := by decide +kernel
theorem dX3_readToken_15 : decode cX3_readToken 15 = .ok (.getfield 27, 3) := by decide +kernel
theorem dX3_readToken_18 : decode cX3_readToken 18 = .ok (.aload_n 0, 1) := by decide +kernel
theorem dX3_readToken_19 : decode cX3_readToken 19 = .ok (.getfield 9, 3) := by decide +kernel
theorem dX3_readToken_22 : decode cX3_readToken 22 = .ok (.invokevirtual 140, 3) := by decide +kernel
theorem dX3_readToken_25 : decode cX3_readToken 25 = .ok (.bipush 32, 2) := by decide +kernel
theorem dX3_readToken_27 : decode cX3_readToken 27 = .ok (.if_icmp .ne 16, 3) := by decide +kernel
theorem dX3_readToken_30 : decode cX3_readToken 30 = .ok (.aload_n 0, 1) := by decide +kernel
theorem dX3_readToken_31 : decode cX3_readToken 31 = .ok (.dup, 1) := by decide +kernel
theorem dX3_readToken_32 : decode cX3_readToken 32 = .ok (.getfield 9, 3) := by decide +kernel
theorem dX3_readToken_35 : decode cX3_readToken 35 = .ok (.iconst 1, 1) := by decide +kernel
theorem dX3_readToken_36 : decode cX3_readToken 36 = .ok (.iadd, 1) := by decide +kernel
theorem dX3_readToken_37 : decode cX3_readToken 37 = .ok (.putfield 9, 3) := by decide +kernel
theorem dX3_readToken_40 : decode cX3_readToken 40 = .ok (.goto (-40), 3) := by decide +kernel
theorem dX3_readToken_43 : decode cX3_readToken 43 = .ok (.aload_n 0, 1) := by decide +kernel
theorem dX3_readToken_44 : decode cX3_readToken 44 = .ok (.aload_n 0, 1) := by decide +kernel
theorem dX3_readToken_45 : decode cX3_readToken 45 = .ok (.getfield 9, 3) := by decide +kernel
theorem dX3_readToken_48 : decode cX3_readToken 48 = .ok (.putfield 18, 3) := by decide +kernel
theorem dX3_readToken_51 : decode cX3_readToken 51 = .ok (.aload_n 0, 1) := by decide +kernel
theorem dX3_readToken_52 : decode cX3_readToken 52 = .ok (.getfield 27, 3) := by decide +kernel
theorem dX3_readToken_55 : decode cX3_readToken 55 = .ok (.aload_n 0, 1) := by decide +kernel
theorem dX3_readToken_56 : decode cX3_readToken 56 = .ok (.getfield 9, 3) := by decide +kernel
theorem dX3_readToken_59 : decode cX3_readToken 59 = .ok (.invokevirtual 140, 3) := by decide +kernel
theorem dX3_readToken_62 : decode cX3_readToken 62 = .ok (.istore_n 1, 1) := by decide +kernel
theorem dX3_readToken_63 : decode cX3_readToken 63 = .ok (.iload_n 1, 1) := by decide +kernel
theorem dX3_readToken_64 : decode cX3_readToken 64 = .ok (.invokestatic 152, 3) := by decide +kernel
theorem dX3_readToken_67 : decode cX3_readToken 67 = .ok (.ifCond .eq 52, 3) := by decide +kernel
theorem dX3_readToken_70 : decode cX3_readToken 70 = .ok (.aload_n 0, 1) := by decide +kernel
theorem dX3_readToken_71 : decode cX3_readToken 71 = .ok (.iconst 1, 1) := by decide +kernel
theorem dX3_readToken_72 : decode cX3_readToken 72 = .ok (.putfield 15, 3) := by decide +kernel
theorem dX3_readToken_75 : decode cX3_readToken 75 = .ok (.aload_n 0, 1) := by decide +kernel
theorem dX3_readToken_76 : decode cX3_readToken 76 = .ok (.getfield 9, 3) := by decide +kernel
theorem dX3_readToken_79 : decode cX3_readToken 79 = .ok (.aload_n 0, 1) := by decide +kernel
theorem dX3_readToken_80 : decode cX3_readToken 80 = .ok (.getfield 27, 3) := by decide +kernel
theorem dX3_readToken_83 : decode cX3_readToken 83 = .ok (.getfield 150, 3) := by decide +kernel
theorem dX3_readToken_86 : decode cX3_readToken 86 = .ok (.if_icmp .ge 163, 3) := by decide +kernel
theorem dX3_readToken_89 : decode cX3_readToken 89 = .ok (.aload_n 0, 1) := by decide +kernel
theorem dX3_readToken_90 : decode cX3_readToken 90 = .ok (.getfield 27, 3) := by decide +kernel
theorem dX3_readToken_93 : decode cX3_readToken 93 = .ok (.aload_n 0, 1) := by decide +kernel
theorem dX3_readToken_94 : decode cX3_readToken 94 = .ok (.getfield 9, 3) := by decide +kernel
theorem dX3_readToken_97 : decode cX3_readToken 97 = .ok (.invokevirtual 140, 3) := by decide +kernel
theorem dX3_readToken_100 : decode cX3_readToken 100 = .ok (.invokestatic 152, 3) := by decide +kernel
theorem dX3_readToken_103 : decode cX3_readToken 103 = .ok (.ifCond .eq 146, 3) := by decide +kernel
theorem dX3_readToken_106 : decode cX3_readToken 106 = .ok (.aload_n 0, 1) := by decide +kernel
theorem dX3_readToken_107 : decode cX3_readToken 107 = .ok (.dup, 1) := by decide +kernel
theorem dX3_readToken_108 : decode cX3_readToken 108 = .ok (.getfield 9, 3) := by decide +kernel
theorem dX3_readToken_111 : decode cX3_readToken 111 = .ok (.iconst 1, 1) := by decide +kernel
theorem dX3_readToken_112 : decode cX3_readToken 112 = .ok (.iadd, 1) := by decide +kernel
theorem dX3_readToken_113 : decode cX3_readToken 113 = .ok (.putfield 9, 3) := by decide +kernel
theorem dX3_readToken_116 : decode cX3_readToken 116 = .ok (.goto (-41), 3) := by decide +kernel
theorem dX3_readToken_119 : decode cX3_readToken 119 = .ok (.iload_n 1, 1) := by decide +kernel
theorem dX3_readToken_120 : decode cX3_readToken 120 = .ok (.invokestatic 155, 3) := by decide +kernel
theorem dX3_readToken_123 : decode cX3_readToken 123 = .ok (.ifCond .eq 89, 3) := by decide +kernel
theorem dX3_readToken_126 : decode cX3_readToken 126 = .ok (.aload_n 0, 1) := by decide +kernel
theorem dX3_readToken_127 : decode cX3_readToken 127 = .ok (.iconst 2, 1) := by decide +kernel
theorem dX3_readToken_128 : decode cX3_readToken 128 = .ok (.putfield 15, 3) := by decide +kernel
theorem dX3_readToken_131 : decode cX3_readToken 131 = .ok (.aload_n 0, 1) := by decide +kernel
theorem dX3_readToken_132 : decode cX3_readToken 132 = .ok (.iconst 0, 1) := by decide +kernel
theorem dX3_readToken_133 : decode cX3_readToken 133 = .ok (.putfield 21, 3) := by decide +kernel
theorem dX3_readToken_136 : decode cX3_readToken 136 = .ok (.aload_n 0, 1) := by decide +kernel
theorem dX3_readToken_137 : decode cX3_readToken 137 = .ok (.getfield 9, 3) := by decide +kernel
theorem dX3_readToken_140 : decode cX3_readToken 140 = .ok (.aload_n 0, 1) := by decide +kernel
theorem dX3_readToken_141 : decode cX3_readToken 141 = .ok (.getfield 27, 3) := by decide +kernel
theorem dX3_readToken_144 : decode cX3_readToken 144 = .ok (.getfield 150, 3) := by decide +kernel
theorem dX3_readToken_147 : decode cX3_readToken 147 = .ok (.if_icmp .ge 102, 3) := by decide +kernel
theorem dX3_readToken_150 : decode cX3_readToken 150 = .ok (.aload_n 0, 1) := by decide +kernel
theorem dX3_readToken_151 : decode cX3_readToken 151 = .ok (.getfield 27, 3) := by decide +kernel
theorem dX3_readToken_154 : decode cX3_readToken 154 = .ok (.aload_n 0, 1) := by decide +kernel
theorem dX3_readToken_155 : decode cX3_readToken 155 = .ok (.getfield 9, 3) := by decide +kernel
theorem dX3_readToken_158 : decode cX3_readToken 158 = .ok (.invokevirtual 140, 3) := by decide +kernel
theorem dX3_readToken_161 : decode cX3_readToken 161 = .ok (.invokestatic 155, 3) := by decide +kernel
theorem dX3_readToken_164 : decode cX3_readToken 164 = .ok (.ifCond .eq 85, 3) := by decide +kernel
theorem dX3_readToken_167 : decode cX3_readToken 167 = .ok (.aload_n 0, 1) := by decide +kernel
theorem dX3_readToken_168 : decode cX3_readToken 168 = .ok (.sipush 1000, 3) := by decide +kernel
theorem dX3_readToken_171 : decode cX3_readToken 171 = .ok (.bipush 10, 2) := by decide +kernel
theorem dX3_readToken_173 : decode cX3_readToken 173 = .ok (.aload_n 0, 1) := by decide +kernel
theorem dX3_readToken_174 : decode cX3_readToken 174 = .ok (.getfield 21, 3) := by decide +kernel
theorem dX3_readToken_177 : decode cX3_readToken 177 = .ok (.imul, 1) := by decide +kernel
theorem dX3_readToken_178 : decode cX3_readToken 178 = .ok (.aload_n 0, 1) := by decide +kernel
theorem dX3_readToken_179 : decode cX3_readToken 179 = .ok (.getfield 27, 3) := by decide +kernel
theorem dX3_readToken_182 : decode cX3_readToken 182 = .ok (.aload_n 0, 1) := by decide +kernel
theorem dX3_readToken_183 : decode cX3_readToken 183 = .ok (.getfield 9, 3) := by decide +kernel
theorem dX3_readToken_186 : decode cX3_readToken 186 = .ok (.invokevirtual 140, 3) := by decide +kernel
theorem dX3_readToken_189 : decode cX3_readToken 189 = .ok (.iadd, 1) := by decide +kernel
theorem dX3_readToken_190 : decode cX3_readToken 190 = .ok (.bipush 48, 2) := by decide +kernel
theorem dX3_readToken_192 : decode cX3_readToken 192 = .ok (.isub, 1) := by decide +kernel
theorem dX3_readToken_193 : decode cX3_readToken 193 = .ok (.invokestatic 158, 3) := by decide +kernel
theorem dX3_readToken_196 : decode cX3_readToken 196 = .ok (.putfield 21, 3) := by decide +kernel
theorem dX3_readToken_199 : decode cX3_readToken 199 = .ok (.aload_n 0, 1) := by decide +kernel
theorem dX3_readToken_200 : decode cX3_readToken 200 = .ok (.dup, 1) := by decide +kernel
theorem dX3_readToken_201 : decode cX3_readToken 201 = .ok (.getfield 9, 3) := by decide +kernel
theorem dX3_readToken_204 : decode cX3_readToken 204 = .ok (.iconst 1, 1) := by decide +kernel
theorem dX3_readToken_205 : decode cX3_readToken 205 = .ok (.iadd, 1) := by decide +kernel
theorem dX3_readToken_206 : decode cX3_readToken 206 = .ok (.putfield 9, 3) := by decide +kernel
theorem dX3_readToken_209 : decode cX3_readToken 209 = .ok (.goto (-73), 3) := by decide +kernel
theorem dX3_readToken_212 : decode cX3_readToken 212 = .ok (.iload_n 1, 1) := by decide +kernel
theorem dX3_readToken_213 : decode cX3_readToken 213 = .ok (.ifCond .ge 11, 3) := by decide +kernel
theorem dX3_readToken_216 : decode cX3_readToken 216 = .ok (.aload_n 0, 1) := by decide +kernel
theorem dX3_readToken_217 : decode cX3_readToken 217 = .ok (.iconst 0, 1) := by decide +kernel
theorem dX3_readToken_218 : decode cX3_readToken 218 = .ok (.putfield 15, 3) := by decide +kernel
theorem dX3_readToken_221 : decode cX3_readToken 221 = .ok (.goto 28, 3) := by decide +kernel
theorem dX3_readToken_224 : decode cX3_readToken 224 = .ok (.aload_n 0, 1) := by decide +kernel
theorem dX3_readToken_225 : decode cX3_readToken 225 = .ok (.iload_n 1, 1) := by decide +kernel
theorem dX3_readToken_226 : decode cX3_readToken 226 = .ok (.bipush 59, 2) := by decide +kernel
theorem dX3_readToken_228 : decode cX3_readToken 228 = .ok (.if_icmp .ne 7, 3) := by decide +kernel
theorem dX3_readToken_231 : decode cX3_readToken 231 = .ok (.iconst 3, 1) := by decide +kernel
theorem dX3_readToken_232 : decode cX3_readToken 232 = .ok (.goto 4, 3) := by decide +kernel
theorem dX3_readToken_235 : decode cX3_readToken 235 = .ok (.iconst 4, 1) := by decide +kernel
theorem dX3_readToken_236 : decode cX3_readToken 236 = .ok (.putfield 15, 3) := by decide +kernel
theorem dX3_readToken_239 : decode cX3_readToken 239 = .ok (.aload_n 0, 1) := by decide +kernel
theorem dX3_readToken_240 : decode cX3_readToken 240 = .ok (.dup, 1) := by decide +kernel
theorem dX3_readToken_241 : decode cX3_readToken 241 = .ok (.getfield 9, 3) := by decide +kernel
theorem dX3_readToken_244 : decode cX3_readToken 244 = .ok (.iconst 1, 1) := by decide +kernel
theorem dX3_readToken_245 : decode cX3_readToken 245 = .ok (.iadd, 1) := by decide +kernel
theorem dX3_readToken_246 : decode cX3_readToken 246 = .ok (.putfield 9, 3) := by decide +kernel
theorem dX3_readToken_249 : decode cX3_readToken 249 = .ok (.return_, 1) := by decide +kernel
theorem dX3_isLetter_0 : decode cX3_isLetter 0 = .ok (.iload_n 0, 1) := by decide +kernel
theorem dX3_isLetter_1 : decode cX3_isLetter 1 = .ok (.bipush 97, 2) := by decide +kernel
theorem dX3_isLetter_3 : decode cX3_isLetter 3 = .ok (.if_icmp .lt 13, 3) := by decide +kernel
theorem dX3_isLetter_6 : decode cX3_isLetter 6 = .ok (.iload_n 0, 1) := by decide +kernel
theorem dX3_isLetter_7 : decode cX3_isLetter 7 = .ok (.bipush 122, 2) := by decide +kernel
theorem dX3_isLetter_9 : decode cX3_isLetter 9 = .ok (.if_icmp .gt 7, 3) := by decide +kernel
theorem dX3_isLetter_12 : decode cX3_isLetter 12 = .ok (.iconst 1, 1) := by decide +kernel
theorem dX3_isLetter_13 : decode cX3_isLetter 13 = .ok (.goto 4, 3) := by decide +kernel
theorem dX3_isLetter_16 : decode cX3_isLetter 16 = .ok (.iconst 0, 1) := by decide +kernel
theorem dX3_isLetter_17 : decode cX3_isLetter 17 = .ok (.ireturn, 1) := by decide +kernel
theorem dX3_isDigit_0 : decode cX3_isDigit 0 = .ok (.iload_n 0, 1) := by decide +kernel
theorem dX3_isDigit_1 : decode cX3_isDigit 1 = .ok (.bipush 48, 2) := by decide +kernel
theorem dX3_isDigit_3 : decode cX3_isDigit 3 = .ok (.if_icmp .lt 13, 3) := by decide +kernel
theorem dX3_isDigit_6 : decode cX3_isDigit 6 = .ok (.iload_n 0, 1) := by decide +kernel
theorem dX3_isDigit_7 : decode cX3_isDigit 7 = .ok (.bipush 57, 2) := by decide +kernel
theorem dX3_isDigit_9 : decode cX3_isDigit 9 = .ok (.if_icmp .gt 7, 3) := by decide +kernel
theorem dX3_isDigit_12 : decode cX3_isDigit 12 = .ok (.iconst 1, 1) := by decide +kernel
theorem dX3_isDigit_13 : decode cX3_isDigit 13 = .ok (.goto 4, 3) := by decide +kernel
theorem dX3_isDigit_16 : decode cX3_isDigit 16 = .ok (.iconst 0, 1) := by decide +kernel
theorem dX3_isDigit_17 : decode cX3_isDigit 17 = .ok (.ireturn, 1) := by decide +kernel
theorem dX4_init_0 : decode cX4_init 0 = .ok (.aload_n 0, 1) := by decide +kernel
theorem dX4_init_1 : decode cX4_init 1 = .ok (.invokespecial 3, 3) := by decide +kernel
theorem dX4_init_4 : decode cX4_init 4 = .ok (.aload_n 0, 1) := by decide +kernel
theorem dX4_init_5 : decode cX4_init 5 = .ok (.iconst 0, 1) := by decide +kernel
theorem dX4_init_6 : decode cX4_init 6 = .ok (.putfield 9, 3) := by decide +kernel
theorem dX4_init_9 : decode cX4_init 9 = .ok (.aload_n 0, 1) := by decide +kernel
theorem dX4_init_10 : decode cX4_init 10 = .ok (.iconst 0, 1) := by decide +kernel
theorem dX4_init_11 : decode cX4_init 11 = .ok (.putfield 15, 3) := by decide +kernel
theorem dX4_init_14 : decode cX4_init 14 = .ok (.aload_n 0, 1) := by decide +kernel
theorem dX4_init_15 : decode cX4_init 15 = .ok (.bipush 15, 2) := by decide +kernel
theorem dX4_init_17 : decode cX4_init 17 = .ok (.putfield 18, 3) := by decide +kernel
theorem dX4_init_20 : decode cX4_init 20 = .ok (.aload_n 0, 1) := by decide +kernel
theorem dX4_init_21 : decode cX4_init 21 = .ok (.bipush 12, 2) := by decide +kernel
theorem dX4_init_23 : decode cX4_init 23 = .ok (.newarray .int, 2) := by decide +kernel
theorem dX4_init_25 : decode cX4_init 25 = .ok (.putfield 21, 3) := by decide +kernel
theorem dX4_init_28 : decode cX4_init 28 = .ok (.aload_n 0, 1) := by decide +kernel
theorem dX4_init_29 : decode cX4_init 29 = .ok (.iconst 4, 1) := by decide +kernel
theorem dX4_init_30 : decode cX4_init 30 = .ok (.newarray .int, 2) := by decide +kernel
theorem dX4_init_32 : decode cX4_init 32 = .ok (.putfield 25, 3) := by decide +kernel
theorem dX4_init_35 : decode cX4_init 35 = .ok (.aload_n 0, 1) := by decide +kernel
theorem dX4_init_36 : decode cX4_init 36 = .ok (.bipush 10, 2) := by decide +kernel
theorem dX4_init_38 : decode cX4_init 38 = .ok (.anewarray 28, 3) := by decide +kernel
theorem dX4_init_41 : decode cX4_init 41 = .ok (.putfield 30, 3) := by decide +kernel
theorem dX4_init_44 : decode cX4_init 44 = .ok (.aload_n 0, 1) := by decide +kernel
theorem dX4_init_45 : decode cX4_init 45 = .ok (.iconst 4, 1) := by decide +kernel
theorem dX4_init_46 : decode cX4_init 46 = .ok (.newarray .int, 2) := by decide +kernel
theorem dX4_init_48 : decode cX4_init 48 = .ok (.putfield 34, 3) := by decide +kernel
theorem dX4_init_51 : decode cX4_init 51 = .ok (.iconst 0, 1) := by decide +kernel
theorem dX4_init_52 : decode cX4_init 52 = .ok (.istore_n 1, 1) := by decide +kernel
theorem dX4_init_53 : decode cX4_init 53 = .ok (.iload_n 1, 1) := by decide +kernel
theorem dX4_init_54 : decode cX4_init 54 = .ok (.bipush 12, 2) := by decide +kernel
theorem dX4_init_56 : decode cX4_init 56 = .ok (.if_icmp .ge 22, 3) := by decide +kernel
theorem dX4_init_59 : decode cX4_init 59 = .ok (.aload_n 0, 1) := by decide +kernel
theorem dX4_init_60 : decode cX4_init 60 = .ok (.getfield 21, 3) := by decide +kernel
theorem dX4_init_63 : decode cX4_init 63 = .ok (.iload_n 1, 1) := by decide +kernel
theorem dX4_init_64 : decode cX4_init 64 = .ok (.bipush 7, 2) := by decide +kernel
theorem dX4_init_66 : decode cX4_init 66 = .ok (.iload_n 1, 1) := by decide +kernel
theorem dX4_init_67 : decode cX4_init 67 = .ok (.imul, 1) := by decide +kernel
theorem dX4_init_68 : decode cX4_init 68 = .ok (.bipush 30, 2) := by decide +kernel
theorem dX4_init_70 : decode cX4_init 70 = .ok (.irem, 1) := by decide +kernel
theorem dX4_init_71 : decode cX4_init 71 = .ok (.iastore, 1) := by decide +kernel
theorem dX4_init_72 : decode cX4_init 72 = .ok (.iinc 1 1, 3) := by decide +kernel
theorem dX4_init_75 : decode cX4_init 75 = .ok (.goto (-22), 3) := by decide +kernel
theorem dX4_init_78 : decode cX4_init 78 = .ok (.iconst 0, 1) := by decide +kernel
theorem dX4_init_79 : decode cX4_init 79 = .ok (.istore_n 1, 1) := by decide +kernel
theorem dX4_init_80 : decode cX4_init 80 = .ok (.iload_n 1, 1) := by decide +kernel
theorem dX4_init_81 : decode cX4_init 81 = .ok (.iconst 4, 1) := by decide +kernel
theorem dX4_init_82 : decode cX4_init 82 = .ok (.if_icmp .ge 17, 3) := by decide +kernel
theorem dX4_init_85 : decode cX4_init 85 = .ok (.aload_n 0, 1) := by decide +kernel
theorem dX4_init_86 : decode cX4_init 86 = .ok (.getfield 25, 3) := by decide +kernel
theorem dX4_init_89 : decode cX4_init 89 = .ok (.iload_n 1, 1) := by decide +kernel
theorem dX4_init_90 : decode cX4_init 90 = .ok (.bipush 100, 2) := by decide +kernel
theorem dX4_init_92 : decode cX4_init 92 = .ok (.iastore, 1) := by decide +kernel
theorem dX4_init_93 : decode cX4_init 93 = .ok (.iinc 1 1, 3) := by decide +kernel
theorem dX4_init_96 : decode cX4_init 96 = .ok (.goto (-16), 3) := by decide +kernel
theorem dX4_init_99 : decode cX4_init 99 = .ok (.iconst 0, 1) := by decide +kernel
theorem dX4_init_100 : decode cX4_init 100 = .ok (.istore_n 1, 1) := by decide +kernel
theorem dX4_init_101 : decode cX4_init 101 = .ok (.iload_n 1, 1) := by decide +kernel
theorem dX4_init_102 : decode cX4_init 102 = .ok (.bipush 10, 2) := by decide +kernel
theorem dX4_init_104 : decode cX4_init 104 = .ok (.if_icmp .ge 22, 3) := by decide +kernel
theorem dX4_init_107 : decode cX4_init 107 = .ok (.aload_n 0, 1) := by decide +kernel
theorem dX4_init_108 : decode cX4_init 108 = .ok (.getfield 30, 3) := by decide +kernel
theorem dX4_init_111 : decode cX4_init 111 = .ok (.iload_n 1, 1) := by decide +kernel
theorem dX4_init_112 : decode cX4_init 112 = .ok (.new 28, 3) := by decide +kernel
theorem dX4_init_115 : decode cX4_init 115 = .ok (.dup, 1) := by decide +kernel
theorem dX4_init_116 : decode cX4_init 116 = .ok (.invokespecial 37, 3) := by decide +kernel
theorem dX4_init_119 : decode cX4_init 119 = .ok (.aastore, 1) := by decide +kernel
theorem dX4_init_120 : decode cX4_init 120 = .ok (.iinc 1 1, 3) := by decide +kernel
theorem dX4_init_123 : decode cX4_init 123 = .ok (.goto (-22), 3) := by decide +kernel
theorem dX4_init_126 : decode cX4_init 126 = .ok (.return_, 1) := by decide +kernel
theorem dX4_become_0 : decode cX4_become 0 = .ok (.aload_n 0, 1) := by decide +kernel
theorem dX4_become_1 : decode cX4_become 1 = .ok (.aload_n 1, 1) := by decide +kernel
theorem dX4_become_2 : decode cX4_become 2 = .ok (.getfield 9, 3) := by decide +kernel
theorem dX4_become_5 : decode cX4_become 5 = .ok (.putfield 9, 3) := by decide +kernel
theorem dX4_become_8 : decode cX4_become 8 = .ok (.aload_n 0, 1) := by decide +kernel
theorem dX4_become_9 : decode cX4_become 9 = .ok (.aload_n 1, 1) := by decide +kernel
theorem dX4_become_10 : decode cX4_become 10 = .ok (.getfield 15, 3) := by decide +kernel
theorem dX4_become_13 : decode cX4_become 13 = .ok (.putfield 15, 3) := by decide +kernel
theorem dX4_become_16 : decode cX4_become 16 = .ok (.aload_n 0, 1) := by decide +kernel
theorem dX4_become_17 : decode cX4_become 17 = .ok (.aload_n 1, 1) := by decide +kernel
theorem dX4_become_18 : decode cX4_become 18 = .ok (.getfield 18, 3) := by decide +kernel
theorem dX4_become_21 : decode cX4_become 21 = .ok (.putfield 18, 3) := by decide +kernel
theorem dX4_become_24 : decode cX4_become 24 = .ok (.aload_n 1, 1) := by decide +kernel
theorem dX4_become_25 : decode cX4_become 25 = .ok (.getfield 21, 3) := by decide +kernel
theorem dX4_become_28 : decode cX4_become 28 = .ok (.iconst 0, 1) := by decide +kernel
theorem dX4_become_29 : decode cX4_become 29 = .ok (.aload_n 0, 1) := by decide +kernel
theorem dX4_become_30 : decode cX4_become 30 = .ok (.getfield 21, 3) := by decide +kernel
theorem dX4_become_33 : decode cX4_become 33 = .ok (.iconst 0, 1) := by decide +kernel
theorem dX4_become_34 : decode cX4_become 34 = .ok (.bipush 12, 2) := by decide +kernel
theorem dX4_become_36 : decode cX4_become 36 = .ok (.invokestatic 38, 3) := by decide +kernel
theorem dX4_become_39 : decode cX4_become 39 = .ok (.aload_n 1, 1) := by decide +kernel
theorem dX4_become_40 : decode cX4_become 40 = .ok (.getfield 25, 3) := by decide +kernel
theorem dX4_become_43 : decode cX4_become 43 = .ok (.iconst 0, 1) := by decide +kernel
theorem dX4_become_44 : decode cX4_become 44 = .ok (.aload_n 0, 1) := by decide +kernel
theorem dX4_become_45 : decode cX4_become 45 = .ok (.getfield 25, 3) := by decide +kernel
theorem dX4_become_48 : decode cX4_become 48 = .ok (.iconst 0, 1) := by decide +kernel
theorem dX4_become_49 : decode cX4_become 49 = .ok (.iconst 4, 1) := by decide +kernel
theorem dX4_become_50 : decode cX4_become 50 = .ok (.invokestatic 38, 3) := by decide +kernel
theorem dX4_become_53 : decode cX4_become 53 = .ok (.iconst 0, 1) := by decide +kernel
theorem dX4_become_54 : decode cX4_become 54 = .ok (.istore_n 2, 1) := by decide +kernel
theorem dX4_become_55 : decode cX4_become 55 = .ok (.iload_n 2, 1) := by decide +kernel
theorem dX4_become_56 : decode cX4_become 56 = .ok (.aload_n 0, 1) := by decide +kernel
theorem dX4_become_57 : decode cX4_become 57 = .ok (.getfield 15, 3) := by decide +kernel
theorem dX4_become_60 : decode cX4_become 60 = .ok (.if_icmp .ge 24, 3) := by decide +kernel
theorem dX4_become_63 : decode cX4_become 63 = .ok (.aload_n 0, 1) := by decide +kernel
theorem dX4_become_64 : decode cX4_become 64 = .ok (.getfield 30, 3) := by decide +kernel
theorem dX4_become_67 : decode cX4_become 67 = .ok (.iload_n 2, 1) := by decide +kernel
theorem dX4_become_68 : decode cX4_become 68 = .ok (.aaload, 1) := by decide +kernel
theorem dX4_become_69 : decode cX4_become 69 = .ok (.aload_n 1, 1) := by decide +kernel
theorem dX4_become_70 : decode cX4_become 70 = .ok (.getfield 30, 3) := by decide +kernel
theorem dX4_become_73 : decode cX4_become 73 = .ok (.iload_n 2, 1) := by decide +kernel
theorem dX4_become_74 : decode cX4_become 74 = .ok (.aaload, 1) := by decide +kernel
theorem dX4_become_75 : decode cX4_become 75 = .ok (.invokevirtual 44, 3) := by decide +kernel
theorem dX4_become_78 : decode cX4_become 78 = .ok (.iinc 2 1, 3) := by decide +kernel
theorem dX4_become_81 : decode cX4_become 81 = .ok (.goto (-26), 3) := by decide +kernel
theorem dX4_become_84 : decode cX4_become 84 = .ok (.return_, 1) := by decide +kernel
theorem dX4_place_0 : decode cX4_place 0 = .ok (.aload_n 0, 1) := by decide +kernel
theorem dX4_place_1 : decode cX4_place 1 = .ok (.getfield 9, 3) := by decide +kernel
theorem dX4_place_4 : decode cX4_place 4 = .ok (.bipush 12, 2) := by decide +kernel
theorem dX4_place_6 : decode cX4_place 6 = .ok (.irem, 1) := by decide +kernel
theorem dX4_place_7 : decode cX4_place 7 = .ok (.ireturn, 1) := by decide +kernel
theorem dX4_windNow_0 : decode cX4_windNow 0 = .ok (.aload_n 0, 1) := by decide +kernel
theorem dX4_windNow_1 : decode cX4_windNow 1 = .ok (.getfield 21, 3) := by decide +kernel
theorem dX4_windNow_4 : decode cX4_windNow 4 = .ok (.aload_n 0, 1) := by decide +kernel
theorem dX4_windNow_5 : decode cX4_windNow 5 = .ok (.invokevirtual 48, 3) := by decide +kernel
theorem dX4_windNow_8 : decode cX4_windNow 8 = .ok (.iaload, 1) := by decide +kernel
theorem dX4_windNow_9 : decode cX4_windNow 9 = .ok (.ireturn, 1) := by decide +kernel
theorem dX4_isUp_0 : decode cX4_isUp 0 = .ok (.aload_n 0, 1) := by decide +kernel
theorem dX4_isUp_1 : decode cX4_isUp 1 = .ok (.getfield 18, 3) := by decide +kernel
theorem dX4_isUp_4 : decode cX4_isUp 4 = .ok (.iload_n 1, 1) := by decide +kernel
theorem dX4_isUp_5 : decode cX4_isUp 5 = .ok (.ishr, 1) := by decide +kernel
theorem dX4_isUp_6 : decode cX4_isUp 6 = .ok (.iconst 1, 1) := by decide +kernel
theorem dX4_isUp_7 : decode cX4_isUp 7 = .ok (.iand, 1) := by decide +kernel
theorem dX4_isUp_8 : decode cX4_isUp 8 = .ok (.iconst 1, 1) := by decide +kernel
theorem dX4_isUp_9 : decode cX4_isUp 9 = .ok (.if_icmp .ne 7, 3) := by decide +kernel
theorem dX4_isUp_12 : decode cX4_isUp 12 = .ok (.iconst 1, 1) := by decide +kernel
theorem dX4_isUp_13 : decode cX4_isUp 13 = .ok (.goto 4, 3) := by decide +kernel
theorem dX4_isUp_16 : decode cX4_isUp 16 = .ok (.iconst 0, 1) := by decide +kernel
theorem dX4_isUp_17 : decode cX4_isUp 17 = .ok (.ireturn, 1) := by decide +kernel
theorem dX4_putUp_0 : decode cX4_putUp 0 = .ok (.iconst 1, 1) := by decide +kernel
theorem dX4_putUp_1 : decode cX4_putUp 1 = .ok (.iload_n 1, 1) := by decide +kernel
theorem dX4_putUp_2 : decode cX4_putUp 2 = .ok (.ishl, 1) := by decide +kernel
theorem dX4_putUp_3 : decode cX4_putUp 3 = .ok (.istore_n 3, 1) := by decide +kernel
theorem dX4_putUp_4 : decode cX4_putUp 4 = .ok (.aload_n 0, 1) := by decide +kernel
theorem dX4_putUp_5 : decode cX4_putUp 5 = .ok (.iload_n 2, 1) := by decide +kernel
theorem dX4_putUp_6 : decode cX4_putUp 6 = .ok (.ifCond .eq 12, 3) := by decide +kernel
theorem dX4_putUp_9 : decode cX4_putUp 9 = .ok (.aload_n 0, 1) := by decide +kernel
theorem dX4_putUp_10 : decode cX4_putUp 10 = .ok (.getfield 18, 3) := by decide +kernel
theorem dX4_putUp_13 : decode cX4_putUp 13 = .ok (.iload_n 3, 1) := by decide +kernel
theorem dX4_putUp_14 : decode cX4_putUp 14 = .ok (.ior, 1) := by decide +kernel
theorem dX4_putUp_15 : decode cX4_putUp 15 = .ok (.goto 11, 3) := by decide +kernel
theorem dX4_putUp_18 : decode cX4_putUp 18 = .ok (.aload_n 0, 1) := by decide +kernel
theorem dX4_putUp_19 : decode cX4_putUp 19 = .ok (.getfield 18, 3) := by decide +kernel
theorem dX4_putUp_22 : decode cX4_putUp 22 = .ok (.iload_n 3, 1) := by decide +kernel
theorem dX4_putUp_23 : decode cX4_putUp 23 = .ok (.iconst (-1), 1) := by decide +kernel
theorem dX4_putUp_24 : decode cX4_putUp 24 = .ok (.ixor, 1) := by decide +kernel
theorem dX4_putUp_25 : decode cX4_putUp 25 = .ok (.iand, 1) := by decide +kernel
theorem dX4_putUp_26 : decode cX4_putUp 26 = .ok (.putfield 18, 3) := by decide +kernel
theorem dX4_putUp_29 : decode cX4_putUp 29 = .ok (.return_, 1) := by decide +kernel
theorem dX4_isFull_0 : decode cX4_isFull 0 = .ok (.aload_n 0, 1) := by decide +kernel
theorem dX4_isFull_1 : decode cX4_isFull 1 = .ok (.getfield 15, 3) := by decide +kernel
theorem dX4_isFull_4 : decode cX4_isFull 4 = .ok (.bipush 10, 2) := by decide +kernel
theorem dX4_isFull_6 : decode cX4_isFull 6 = .ok (.if_icmp .lt 7, 3) := by decide +kernel
theorem dX4_isFull_9 : decode cX4_isFull 9 = .ok (.iconst 1, 1) := by decide +kernel
theorem dX4_isFull_10 : decode cX4_isFull 10 = .ok (.goto 4, 3) := by decide +kernel
theorem dX4_isFull_13 : decode cX4_isFull 13 = .ok (.iconst 0, 1) := by decide +kernel
theorem dX4_isFull_14 : decode cX4_isFull 14 = .ok (.ireturn, 1) := by decide +kernel
theorem dX4_addKnot_0 : decode cX4_addKnot 0 = .ok (.aload_n 0, 1) := by decide +kernel
theorem dX4_addKnot_1 : decode cX4_addKnot 1 = .ok (.getfield 30, 3) := by decide +kernel
theorem dX4_addKnot_4 : decode cX4_addKnot 4 = .ok (.aload_n 0, 1) := by decide +kernel
theorem dX4_addKnot_5 : decode cX4_addKnot 5 = .ok (.getfield 15, 3) := by decide +kernel
theorem dX4_addKnot_8 : decode cX4_addKnot 8 = .ok (.aaload, 1) := by decide +kernel
theorem dX4_addKnot_9 : decode cX4_addKnot 9 = .ok (.iload_n 1, 1) := by decide +kernel
theorem dX4_addKnot_10 : decode cX4_addKnot 10 = .ok (.iload_n 2, 1) := by decide +kernel
theorem dX4_addKnot_11 : decode cX4_addKnot 11 = .ok (.invokevirtual 52, 3) := by decide +kernel
theorem dX4_addKnot_14 : decode cX4_addKnot 14 = .ok (.aload_n 0, 1) := by decide +kernel
theorem dX4_addKnot_15 : decode cX4_addKnot 15 = .ok (.dup, 1) := by decide +kernel
theorem dX4_addKnot_16 : decode cX4_addKnot 16 = .ok (.getfield 15, 3) := by decide +kernel
theorem dX4_addKnot_19 : decode cX4_addKnot 19 = .ok (.iconst 1, 1) := by decide +kernel
theorem dX4_addKnot_20 : decode cX4_addKnot 20 = .ok (.iadd, 1) := by decide +kernel
theorem dX4_addKnot_21 : decode cX4_addKnot 21 = .ok (.putfield 15, 3) := by decide +kernel
theorem dX4_addKnot_24 : decode cX4_addKnot 24 = .ok (.aload_n 0, 1) := by decide +kernel
theorem dX4_addKnot_25 : decode cX4_addKnot 25 = .ok (.getfield 15, 3) := by decide +kernel
theorem dX4_addKnot_28 : decode cX4_addKnot 28 = .ok (.iconst 1, 1) := by decide +kernel
theorem dX4_addKnot_29 : decode cX4_addKnot 29 = .ok (.isub, 1) := by decide +kernel
theorem dX4_addKnot_30 : decode cX4_addKnot 30 = .ok (.ireturn, 1) := by decide +kernel
theorem dX4_knotsOf_0 : decode cX4_knotsOf 0 = .ok (.iconst 0, 1) := by decide +kernel
theorem dX4_knotsOf_1 : decode cX4_knotsOf 1 = .ok (.istore_n 2, 1) := by decide +kernel
theorem dX4_knotsOf_2 : decode cX4_knotsOf 2 = .ok (.iconst 0, 1) := by decide +kernel
theorem dX4_knotsOf_3 : decode cX4_knotsOf 3 = .ok (.istore_n 3, 1) := by decide +kernel
theorem dX4_knotsOf_4 : decode cX4_knotsOf 4 = .ok (.iload_n 3, 1) := by decide +kernel
theorem dX4_knotsOf_5 : decode cX4_knotsOf 5 = .ok (.aload_n 0, 1) := by decide +kernel
theorem dX4_knotsOf_6 : decode cX4_knotsOf 6 = .ok (.getfield 15, 3) := by decide +kernel
theorem dX4_knotsOf_9 : decode cX4_knotsOf 9 = .ok (.if_icmp .ge 32, 3) := by decide +kernel
theorem dX4_knotsOf_12 : decode cX4_knotsOf 12 = .ok (.iload_n 2, 1) := by decide +kernel
theorem dX4_knotsOf_13 : decode cX4_knotsOf 13 = .ok (.aload_n 0, 1) := by decide +kernel
theorem dX4_knotsOf_14 : decode cX4_knotsOf 14 = .ok (.getfield 30, 3) := by decide +kernel
theorem dX4_knotsOf_17 : decode cX4_knotsOf 17 = .ok (.iload_n 3, 1) := by decide +kernel
theorem dX4_knotsOf_18 : decode cX4_knotsOf 18 = .ok (.aaload, 1) := by decide +kernel
theorem dX4_knotsOf_19 : decode cX4_knotsOf 19 = .ok (.getfield 56, 3) := by decide +kernel
theorem dX4_knotsOf_22 : decode cX4_knotsOf 22 = .ok (.iload_n 1, 1) := by decide +kernel
theorem dX4_knotsOf_23 : decode cX4_knotsOf 23 = .ok (.if_icmp .ne 9, 3) := by decide +kernel
theorem dX4_knotsOf_26 : decode cX4_knotsOf 26 = .ok (.iconst 1, 1) := by decide +kernel
theorem dX4_knotsOf_27 : decode cX4_knotsOf 27 = .ok (.iload_n 3, 1) := by decide +kernel
theorem dX4_knotsOf_28 : decode cX4_knotsOf 28 = .ok (.ishl, 1) := by decide +kernel
theorem dX4_knotsOf_29 : decode cX4_knotsOf 29 = .ok (.goto 4, 3) := by decide +kernel
theorem dX4_knotsOf_32 : decode cX4_knotsOf 32 = .ok (.iconst 0, 1) := by decide +kernel
theorem dX4_knotsOf_33 : decode cX4_knotsOf 33 = .ok (.ior, 1) := by decide +kernel
theorem dX4_knotsOf_34 : decode cX4_knotsOf 34 = .ok (.istore_n 2, 1) := by decide +kernel
theorem dX4_knotsOf_35 : decode cX4_knotsOf 35 = .ok (.iinc 3 1, 3) := by decide +kernel
theorem dX4_knotsOf_38 : decode cX4_knotsOf 38 = .ok (.goto (-34), 3) := by decide +kernel
theorem dX4_knotsOf_41 : decode cX4_knotsOf 41 = .ok (.iload_n 2, 1) := by decide +kernel
theorem dX4_knotsOf_42 : decode cX4_knotsOf 42 = .ok (.ireturn, 1) := by decide +kernel
theorem dX4_fastKnots_0 : decode cX4_fastKnots 0 = .ok (.iconst 0, 1) := by decide +kernel
theorem dX4_fastKnots_1 : decode cX4_fastKnots 1 = .ok (.istore_n 1, 1) := by decide +kernel
theorem dX4_fastKnots_2 : decode cX4_fastKnots 2 = .ok (.iconst 0, 1) := by decide +kernel
theorem dX4_fastKnots_3 : decode cX4_fastKnots 3 = .ok (.istore_n 2, 1) := by decide +kernel
theorem dX4_fastKnots_4 : decode cX4_fastKnots 4 = .ok (.iload_n 2, 1) := by decide +kernel
theorem dX4_fastKnots_5 : decode cX4_fastKnots 5 = .ok (.aload_n 0, 1) := by decide +kernel
theorem dX4_fastKnots_6 : decode cX4_fastKnots 6 = .ok (.getfield 15, 3) := by decide +kernel
theorem dX4_fastKnots_9 : decode cX4_fastKnots 9 = .ok (.if_icmp .ge 31, 3) := by decide +kernel
theorem dX4_fastKnots_12 : decode cX4_fastKnots 12 = .ok (.iload_n 1, 1) := by decide +kernel
theorem dX4_fastKnots_13 : decode cX4_fastKnots 13 = .ok (.aload_n 0, 1) := by decide +kernel
theorem dX4_fastKnots_14 : decode cX4_fastKnots 14 = .ok (.getfield 30, 3) := by decide +kernel
theorem dX4_fastKnots_17 : decode cX4_fastKnots 17 = .ok (.iload_n 2, 1) := by decide +kernel
theorem dX4_fastKnots_18 : decode cX4_fastKnots 18 = .ok (.aaload, 1) := by decide +kernel
theorem dX4_fastKnots_19 : decode cX4_fastKnots 19 = .ok (.getfield 59, 3) := by decide +kernel
theorem dX4_fastKnots_22 : decode cX4_fastKnots 22 = .ok (.ifCond .eq 9, 3) := by decide +kernel
theorem dX4_fastKnots_25 : decode cX4_fastKnots 25 = .ok (.iconst 1, 1) := by decide +kernel
theorem dX4_fastKnots_26 : decode cX4_fastKnots 26 = .ok (.iload_n 2, 1) := by decide +kernel
theorem dX4_fastKnots_27 : decode cX4_fastKnots 27 = .ok (.ishl, 1) := by decide +kernel
theorem dX4_fastKnots_28 : decode cX4_fastKnots 28 = .ok (.goto 4, 3) := by decide +kernel
theorem dX4_fastKnots_31 : decode cX4_fastKnots 31 = .ok (.iconst 0, 1) := by decide +kernel
theorem dX4_fastKnots_32 : decode cX4_fastKnots 32 = .ok (.ior, 1) := by decide +kernel
theorem dX4_fastKnots_33 : decode cX4_fastKnots 33 = .ok (.istore_n 1, 1) := by decide +kernel
theorem dX4_fastKnots_34 : decode cX4_fastKnots 34 = .ok (.iinc 2 1, 3) := by decide +kernel
theorem dX4_fastKnots_37 : decode cX4_fastKnots 37 = .ok (.goto (-33), 3) := by decide +kernel
theorem dX4_fastKnots_40 : decode cX4_fastKnots 40 = .ok (.iload_n 1, 1) := by decide +kernel
theorem dX4_fastKnots_41 : decode cX4_fastKnots 41 = .ok (.ireturn, 1) := by decide +kernel
theorem dX4_allOpen_0 : decode cX4_allOpen 0 = .ok (.iconst 0, 1) := by decide +kernel
theorem dX4_allOpen_1 : decode cX4_allOpen 1 = .ok (.istore_n 1, 1) := by decide +kernel
theorem dX4_allOpen_2 : decode cX4_allOpen 2 = .ok (.iconst 0, 1) := by decide +kernel
theorem dX4_allOpen_3 : decode cX4_allOpen 3 = .ok (.istore_n 2, 1) := by decide +kernel
theorem dX4_allOpen_4 : decode cX4_allOpen 4 = .ok (.iload_n 2, 1) := by decide +kernel
theorem dX4_allOpen_5 : decode cX4_allOpen 5 = .ok (.aload_n 0, 1) := by decide +kernel
theorem dX4_allOpen_6 : decode cX4_allOpen 6 = .ok (.getfield 15, 3) := by decide +kernel
theorem dX4_allOpen_9 : decode cX4_allOpen 9 = .ok (.if_icmp .ge 21, 3) := by decide +kernel
theorem dX4_allOpen_12 : decode cX4_allOpen 12 = .ok (.iload_n 1, 1) := by decide +kernel
theorem dX4_allOpen_13 : decode cX4_allOpen 13 = .ok (.aload_n 0, 1) := by decide +kernel
theorem dX4_allOpen_14 : decode cX4_allOpen 14 = .ok (.getfield 30, 3) := by decide +kernel
theorem dX4_allOpen_17 : decode cX4_allOpen 17 = .ok (.iload_n 2, 1) := by decide +kernel
theorem dX4_allOpen_18 : decode cX4_allOpen 18 = .ok (.aaload, 1) := by decide +kernel
theorem dX4_allOpen_19 : decode cX4_allOpen 19 = .ok (.getfield 63, 3) := by decide +kernel
theorem dX4_allOpen_22 : decode cX4_allOpen 22 = .ok (.iadd, 1) := by decide +kernel
theorem dX4_allOpen_23 : decode cX4_allOpen 23 = .ok (.istore_n 1, 1) := by decide +kernel
theorem dX4_allOpen_24 : decode cX4_allOpen 24 = .ok (.iinc 2 1, 3) := by decide +kernel
theorem dX4_allOpen_27 : decode cX4_allOpen 27 = .ok (.goto (-23), 3) := by decide +kernel
theorem dX4_allOpen_30 : decode cX4_allOpen 30 = .ok (.iload_n 1, 1) := by decide +kernel
theorem dX4_allOpen_31 : decode cX4_allOpen 31 = .ok (.ireturn, 1) := by decide +kernel
theorem dX4_allAges_0 : decode cX4_allAges 0 = .ok (.iconst 0, 1) := by decide +kernel
theorem dX4_allAges_1 : decode cX4_allAges 1 = .ok (.istore_n 1, 1) := by decide +kernel
theorem dX4_allAges_2 : decode cX4_allAges 2 = .ok (.iconst 0, 1) := by decide +kernel
theorem dX4_allAges_3 : decode cX4_allAges 3 = .ok (.istore_n 2, 1) := by decide +kernel
theorem dX4_allAges_4 : decode cX4_allAges 4 = .ok (.iload_n 2, 1) := by decide +kernel
theorem dX4_allAges_5 : decode cX4_allAges 5 = .ok (.aload_n 0, 1) := by decide +kernel
theorem dX4_allAges_6 : decode cX4_allAges 6 = .ok (.getfield 15, 3) := by decide +kernel
theorem dX4_allAges_9 : decode cX4_allAges 9 = .ok (.if_icmp .ge 21, 3) := by decide +kernel
theorem dX4_allAges_12 : decode cX4_allAges 12 = .ok (.iload_n 1, 1) := by decide +kernel
theorem dX4_allAges_13 : decode cX4_allAges 13 = .ok (.aload_n 0, 1) := by decide +kernel
theorem dX4_allAges_14 : decode cX4_allAges 14 = .ok (.getfield 30, 3) := by decide +kernel
theorem dX4_allAges_17 : decode cX4_allAges 17 = .ok (.iload_n 2, 1) := by decide +kernel
theorem dX4_allAges_18 : decode cX4_allAges 18 = .ok (.aaload, 1) := by decide +kernel
theorem dX4_allAges_19 : decode cX4_allAges 19 = .ok (.getfield 66, 3) := by decide +kernel
theorem dX4_allAges_22 : decode cX4_allAges 22 = .ok (.iadd, 1) := by decide +kernel
theorem dX4_allAges_23 : decode cX4_allAges 23 = .ok (.istore_n 1, 1) := by decide +kernel
theorem dX4_allAges_24 : decode cX4_allAges 24 = .ok (.iinc 2 1, 3) := by decide +kernel
theorem dX4_allAges_27 : decode cX4_allAges 27 = .ok (.goto (-23), 3) := by decide +kernel
theorem dX4_allAges_30 : decode cX4_allAges 30 = .ok (.iload_n 1, 1) := by decide +kernel
theorem dX4_allAges_31 : decode cX4_allAges 31 = .ok (.ireturn, 1) := by decide +kernel
theorem dX4_allWeights_0 : decode cX4_allWeights 0 = .ok (.iconst 0, 1) := by decide +kernel
theorem dX4_allWeights_1 : decode cX4_allWeights 1 = .ok (.istore_n 1, 1) := by decide +kernel
theorem dX4_allWeights_2 : decode cX4_allWeights 2 = .ok (.iconst 0, 1) := by decide +kernel
theorem dX4_allWeights_3 : decode cX4_allWeights 3 = .ok (.istore_n 2, 1) := by decide +kernel
theorem dX4_allWeights_4 : decode cX4_allWeights 4 = .ok (.iload_n 2, 1) := by decide +kernel
theorem dX4_allWeights_5 : decode cX4_allWeights 5 = .ok (.iconst 4, 1) := by decide +kernel
theorem dX4_allWeights_6 : decode cX4_allWeights 6 = .ok (.if_icmp .ge 18, 3) := by decide +kernel
theorem dX4_allWeights_9 : decode cX4_allWeights 9 = .ok (.iload_n 1, 1) := by decide +kernel
theorem dX4_allWeights_10 : decode cX4_allWeights 10 = .ok (.aload_n 0, 1) := by decide +kernel
theorem dX4_allWeights_11 : decode cX4_allWeights 11 = .ok (.getfield 25, 3) := by decide +kernel
theorem dX4_allWeights_14 : decode cX4_allWeights 14 = .ok (.iload_n 2, 1) := by decide +kernel
theorem dX4_allWeights_15 : decode cX4_allWeights 15 = .ok (.iaload, 1) := by decide +kernel
theorem dX4_allWeights_16 : decode cX4_allWeights 16 = .ok (.iadd, 1) := by decide +kernel
theorem dX4_allWeights_17 : decode cX4_allWeights 17 = .ok (.istore_n 1, 1) := by decide +kernel
theorem dX4_allWeights_18 : decode cX4_allWeights 18 = .ok (.iinc 2 1, 3) := by decide +kernel
theorem dX4_allWeights_21 : decode cX4_allWeights 21 = .ok (.goto (-17), 3) := by decide +kernel
theorem dX4_allWeights_24 : decode cX4_allWeights 24 = .ok (.iload_n 1, 1) := by decide +kernel
theorem dX4_allWeights_25 : decode cX4_allWeights 25 = .ok (.ireturn, 1) := by decide +kernel
theorem dX4_strainOn_0 : decode cX4_strainOn 0 = .ok (.aload_n 0, 1) := by decide +kernel
theorem dX4_strainOn_1 : decode cX4_strainOn 1 = .ok (.invokevirtual 69, 3) := by decide +kernel
theorem dX4_strainOn_4 : decode cX4_strainOn 4 = .ok (.aload_n 0, 1) := by decide +kernel
theorem dX4_strainOn_5 : decode cX4_strainOn 5 = .ok (.iload_n 1, 1) := by decide +kernel
theorem dX4_strainOn_6 : decode cX4_strainOn 6 = .ok (.aload_n 0, 1) := by decide +kernel
theorem dX4_strainOn_7 : decode cX4_strainOn 7 = .ok (.invokevirtual 72, 3) := by decide +kernel
theorem dX4_strainOn_10 : decode cX4_strainOn 10 = .ok (.invokevirtual 75, 3) := by decide +kernel
theorem dX4_strainOn_13 : decode cX4_strainOn 13 = .ok (.ireturn, 1) := by decide +kernel
theorem dX4_holdingOf_0 : decode cX4_holdingOf 0 = .ok (.aload_n 0, 1) := by decide +kernel
theorem dX4_holdingOf_1 : decode cX4_holdingOf 1 = .ok (.invokevirtual 69, 3) := by decide +kernel
theorem dX4_holdingOf_4 : decode cX4_holdingOf 4 = .ok (.aload_n 0, 1) := by decide +kernel
theorem dX4_holdingOf_5 : decode cX4_holdingOf 5 = .ok (.aload_n 1, 1) := by decide +kernel
theorem dX4_holdingOf_6 : decode cX4_holdingOf 6 = .ok (.aload_n 0, 1) := by decide +kernel
theorem dX4_holdingOf_7 : decode cX4_holdingOf 7 = .ok (.invokevirtual 72, 3) := by decide +kernel
theorem dX4_holdingOf_10 : decode cX4_holdingOf 10 = .ok (.invokevirtual 79, 3) := by decide +kernel
theorem dX4_holdingOf_13 : decode cX4_holdingOf 13 = .ok (.ireturn, 1) := by decide +kernel
theorem dX4_allHolding_0 : decode cX4_allHolding 0 = .ok (.iconst 0, 1) := by decide +kernel
theorem dX4_allHolding_1 : decode cX4_allHolding 1 = .ok (.istore_n 2, 1) := by decide +kernel
theorem dX4_allHolding_2 : decode cX4_allHolding 2 = .ok (.iconst 0, 1) := by decide +kernel
theorem dX4_allHolding_3 : decode cX4_allHolding 3 = .ok (.istore_n 3, 1) := by decide +kernel
theorem dX4_allHolding_4 : decode cX4_allHolding 4 = .ok (.iload_n 3, 1) := by decide +kernel
theorem dX4_allHolding_5 : decode cX4_allHolding 5 = .ok (.aload_n 0, 1) := by decide +kernel
theorem dX4_allHolding_6 : decode cX4_allHolding 6 = .ok (.getfield 15, 3) := by decide +kernel
theorem dX4_allHolding_9 : decode cX4_allHolding 9 = .ok (.if_icmp .ge 39, 3) := by decide +kernel
theorem dX4_allHolding_12 : decode cX4_allHolding 12 = .ok (.iload_n 2, 1) := by decide +kernel
theorem dX4_allHolding_13 : decode cX4_allHolding 13 = .ok (.aload_n 0, 1) := by decide +kernel
theorem dX4_allHolding_14 : decode cX4_allHolding 14 = .ok (.getfield 30, 3) := by decide +kernel
theorem dX4_allHolding_17 : decode cX4_allHolding 17 = .ok (.iload_n 3, 1) := by decide +kernel
theorem dX4_allHolding_18 : decode cX4_allHolding 18 = .ok (.aaload, 1) := by decide +kernel
theorem dX4_allHolding_19 : decode cX4_allHolding 19 = .ok (.getfield 56, 3) := by decide +kernel
theorem dX4_allHolding_22 : decode cX4_allHolding 22 = .ok (.iload_n 1, 1) := by decide +kernel
theorem dX4_allHolding_23 : decode cX4_allHolding 23 = .ok (.if_icmp .ne 16, 3) := by decide +kernel
theorem dX4_allHolding_26 : decode cX4_allHolding 26 = .ok (.aload_n 0, 1) := by decide +kernel
theorem dX4_allHolding_27 : decode cX4_allHolding 27 = .ok (.aload_n 0, 1) := by decide +kernel
theorem dX4_allHolding_28 : decode cX4_allHolding 28 = .ok (.getfield 30, 3) := by decide +kernel
theorem dX4_allHolding_31 : decode cX4_allHolding 31 = .ok (.iload_n 3, 1) := by decide +kernel
theorem dX4_allHolding_32 : decode cX4_allHolding 32 = .ok (.aaload, 1) := by decide +kernel
theorem dX4_allHolding_33 : decode cX4_allHolding 33 = .ok (.invokevirtual 83, 3) := by decide +kernel
theorem dX4_allHolding_36 : decode cX4_allHolding 36 = .ok (.goto 4, 3) := by decide +kernel
theorem dX4_allHolding_39 : decode cX4_allHolding 39 = .ok (.iconst 0, 1) := by decide +kernel
theorem dX4_allHolding_40 : decode cX4_allHolding 40 = .ok (.iadd, 1) := by decide +kernel
theorem dX4_allHolding_41 : decode cX4_allHolding 41 = .ok (.istore_n 2, 1) := by decide +kernel
theorem dX4_allHolding_42 : decode cX4_allHolding 42 = .ok (.iinc 3 1, 3) := by decide +kernel
theorem dX4_allHolding_45 : decode cX4_allHolding 45 = .ok (.goto (-41), 3) := by decide +kernel
theorem dX4_allHolding_48 : decode cX4_allHolding 48 = .ok (.iload_n 2, 1) := by decide +kernel
theorem dX4_allHolding_49 : decode cX4_allHolding 49 = .ok (.ireturn, 1) := by decide +kernel
theorem dX4_wouldGive_0 : decode cX4_wouldGive 0 = .ok (.aload_n 0, 1) := by decide +kernel
theorem dX4_wouldGive_1 : decode cX4_wouldGive 1 = .ok (.invokevirtual 72, 3) := by decide +kernel
theorem dX4_wouldGive_4 : decode cX4_wouldGive 4 = .ok (.istore_n 2, 1) := by decide +kernel
theorem dX4_wouldGive_5 : decode cX4_wouldGive 5 = .ok (.aload_n 0, 1) := by decide +kernel
theorem dX4_wouldGive_6 : decode cX4_wouldGive 6 = .ok (.invokevirtual 69, 3) := by decide +kernel
theorem dX4_wouldGive_9 : decode cX4_wouldGive 9 = .ok (.aload_n 1, 1) := by decide +kernel
theorem dX4_wouldGive_10 : decode cX4_wouldGive 10 = .ok (.getfield 59, 3) := by decide +kernel
theorem dX4_wouldGive_13 : decode cX4_wouldGive 13 = .ok (.ifCond .eq 29, 3) := by decide +kernel
theorem dX4_wouldGive_16 : decode cX4_wouldGive 16 = .ok (.aload_n 1, 1) := by decide +kernel
theorem dX4_wouldGive_17 : decode cX4_wouldGive 17 = .ok (.aload_n 0, 1) := by decide +kernel
theorem dX4_wouldGive_18 : decode cX4_wouldGive 18 = .ok (.aload_n 1, 1) := by decide +kernel
theorem dX4_wouldGive_19 : decode cX4_wouldGive 19 = .ok (.getfield 56, 3) := by decide +kernel
theorem dX4_wouldGive_22 : decode cX4_wouldGive 22 = .ok (.iload_n 2, 1) := by decide +kernel
theorem dX4_wouldGive_23 : decode cX4_wouldGive 23 = .ok (.invokevirtual 75, 3) := by decide +kernel
theorem dX4_wouldGive_26 : decode cX4_wouldGive 26 = .ok (.aload_n 0, 1) := by decide +kernel
theorem dX4_wouldGive_27 : decode cX4_wouldGive 27 = .ok (.aload_n 1, 1) := by decide +kernel
theorem dX4_wouldGive_28 : decode cX4_wouldGive 28 = .ok (.iload_n 2, 1) := by decide +kernel
theorem dX4_wouldGive_29 : decode cX4_wouldGive 29 = .ok (.invokevirtual 79, 3) := by decide +kernel
theorem dX4_wouldGive_32 : decode cX4_wouldGive 32 = .ok (.invokevirtual 87, 3) := by decide +kernel
theorem dX4_wouldGive_35 : decode cX4_wouldGive 35 = .ok (.ifCond .eq 7, 3) := by decide +kernel
theorem dX4_wouldGive_38 : decode cX4_wouldGive 38 = .ok (.iconst 1, 1) := by decide +kernel
theorem dX4_wouldGive_39 : decode cX4_wouldGive 39 = .ok (.goto 4, 3) := by decide +kernel
theorem dX4_wouldGive_42 : decode cX4_wouldGive 42 = .ok (.iconst 0, 1) := by decide +kernel
theorem dX4_wouldGive_43 : decode cX4_wouldGive 43 = .ok (.ireturn, 1) := by decide +kernel
theorem dX4_passHours_0 : decode cX4_passHours 0 = .ok (.iconst 0, 1) := by decide +kernel
theorem dX4_passHours_1 : decode cX4_passHours 1 = .ok (.istore_n 2, 1) := by decide +kernel
theorem dX4_passHours_2 : decode cX4_passHours 2 = .ok (.iload_n 2, 1) := by decide +kernel
theorem dX4_passHours_3 : decode cX4_passHours 3 = .ok (.iload_n 1, 1) := by decide +kernel
theorem dX4_passHours_4 : decode cX4_passHours 4 = .ok (.if_icmp .ge 13, 3) := by decide +kernel
theorem dX4_passHours_7 : decode cX4_passHours 7 = .ok (.aload_n 0, 1) := by decide +kernel
theorem dX4_passHours_8 : decode cX4_passHours 8 = .ok (.invokevirtual 91, 3) := by decide +kernel
theorem dX4_passHours_11 : decode cX4_passHours 11 = .ok (.iinc 2 1, 3) := by decide +kernel
theorem dX4_passHours_14 : decode cX4_passHours 14 = .ok (.goto (-12), 3) := by decide +kernel
theorem dX4_passHours_17 : decode cX4_passHours 17 = .ok (.return_, 1) := by decide +kernel
theorem dX4_passHour_0 : decode cX4_passHour 0 = .ok (.aload_n 0, 1) := by decide +kernel
theorem dX4_passHour_1 : decode cX4_passHour 1 = .ok (.invokevirtual 72, 3) := by decide +kernel
theorem dX4_passHour_4 : decode cX4_passHour 4 = .ok (.istore_n 1, 1) := by decide +kernel
theorem dX4_passHour_5 : decode cX4_passHour 5 = .ok (.aload_n 0, 1) := by decide +kernel
theorem dX4_passHour_6 : decode cX4_passHour 6 = .ok (.invokevirtual 69, 3) := by decide +kernel
theorem dX4_passHour_9 : decode cX4_passHour 9 = .ok (.aload_n 0, 1) := by decide +kernel
theorem dX4_passHour_10 : decode cX4_passHour 10 = .ok (.iload_n 1, 1) := by decide +kernel
theorem dX4_passHour_11 : decode cX4_passHour 11 = .ok (.invokevirtual 94, 3) := by decide +kernel
theorem dX4_passHour_14 : decode cX4_passHour 14 = .ok (.aload_n 0, 1) := by decide +kernel
theorem dX4_passHour_15 : decode cX4_passHour 15 = .ok (.invokevirtual 69, 3) := by decide +kernel
theorem dX4_passHour_18 : decode cX4_passHour 18 = .ok (.aload_n 0, 1) := by decide +kernel
theorem dX4_passHour_19 : decode cX4_passHour 19 = .ok (.invokevirtual 98, 3) := by decide +kernel
theorem dX4_passHour_22 : decode cX4_passHour 22 = .ok (.aload_n 0, 1) := by decide +kernel
theorem dX4_passHour_23 : decode cX4_passHour 23 = .ok (.iload_n 1, 1) := by decide +kernel
theorem dX4_passHour_24 : decode cX4_passHour 24 = .ok (.invokevirtual 101, 3) := by decide +kernel
theorem dX4_passHour_27 : decode cX4_passHour 27 = .ok (.aload_n 0, 1) := by decide +kernel
theorem dX4_passHour_28 : decode cX4_passHour 28 = .ok (.dup, 1) := by decide +kernel
theorem dX4_passHour_29 : decode cX4_passHour 29 = .ok (.getfield 9, 3) := by decide +kernel
theorem dX4_passHour_32 : decode cX4_passHour 32 = .ok (.iconst 1, 1) := by decide +kernel
theorem dX4_passHour_33 : decode cX4_passHour 33 = .ok (.iadd, 1) := by decide +kernel
theorem dX4_passHour_34 : decode cX4_passHour 34 = .ok (.putfield 9, 3) := by decide +kernel
theorem dX4_passHour_37 : decode cX4_passHour 37 = .ok (.return_, 1) := by decide +kernel
theorem dX4_staysUp_0 : decode cX4_staysUp 0 = .ok (.iconst 0, 1) := by decide +kernel
theorem dX4_staysUp_1 : decode cX4_staysUp 1 = .ok (.istore_n 3, 1) := by decide +kernel
theorem dX4_staysUp_2 : decode cX4_staysUp 2 = .ok (.iload_n 3, 1) := by decide +kernel
theorem dX4_staysUp_3 : decode cX4_staysUp 3 = .ok (.iload_n 2, 1) := by decide +kernel
theorem dX4_staysUp_4 : decode cX4_staysUp 4 = .ok (.if_icmp .ge 21, 3) := by decide +kernel
theorem dX4_staysUp_7 : decode cX4_staysUp 7 = .ok (.aload_n 0, 1) := by decide +kernel
theorem dX4_staysUp_8 : decode cX4_staysUp 8 = .ok (.iload_n 1, 1) := by decide +kernel
theorem dX4_staysUp_9 : decode cX4_staysUp 9 = .ok (.invokevirtual 104, 3) := by decide +kernel
theorem dX4_staysUp_12 : decode cX4_staysUp 12 = .ok (.ifCond .eq 13, 3) := by decide +kernel
theorem dX4_staysUp_15 : decode cX4_staysUp 15 = .ok (.aload_n 0, 1) := by decide +kernel
theorem dX4_staysUp_16 : decode cX4_staysUp 16 = .ok (.invokevirtual 91, 3) := by decide +kernel
theorem dX4_staysUp_19 : decode cX4_staysUp 19 = .ok (.iinc 3 1, 3) := by decide +kernel
theorem dX4_staysUp_22 : decode cX4_staysUp 22 = .ok (.goto (-20), 3) := by decide +kernel
theorem dX4_staysUp_25 : decode cX4_staysUp 25 = .ok (.aload_n 0, 1) := by decide +kernel
theorem dX4_staysUp_26 : decode cX4_staysUp 26 = .ok (.iload_n 1, 1) := by decide +kernel
theorem dX4_staysUp_27 : decode cX4_staysUp 27 = .ok (.invokevirtual 104, 3) := by decide +kernel
theorem dX4_staysUp_30 : decode cX4_staysUp 30 = .ok (.ireturn, 1) := by decide +kernel
theorem dX4_staysFast_0 : decode cX4_staysFast 0 = .ok (.iconst 0, 1) := by decide +kernel
theorem dX4_staysFast_1 : decode cX4_staysFast 1 = .ok (.istore_n 3, 1) := by decide +kernel
theorem dX4_staysFast_2 : decode cX4_staysFast 2 = .ok (.iload_n 3, 1) := by decide +kernel
theorem dX4_staysFast_3 : decode cX4_staysFast 3 = .ok (.iload_n 2, 1) := by decide +kernel
theorem dX4_staysFast_4 : decode cX4_staysFast 4 = .ok (.if_icmp .ge 20, 3) := by decide +kernel
theorem dX4_staysFast_7 : decode cX4_staysFast 7 = .ok (.aload_n 1, 1) := by decide +kernel
theorem dX4_staysFast_8 : decode cX4_staysFast 8 = .ok (.getfield 59, 3) := by decide +kernel
theorem dX4_staysFast_11 : decode cX4_staysFast 11 = .ok (.ifCond .eq 13, 3) := by decide +kernel
theorem dX4_staysFast_14 : decode cX4_staysFast 14 = .ok (.aload_n 0, 1) := by decide +kernel
theorem dX4_staysFast_15 : decode cX4_staysFast 15 = .ok (.invokevirtual 91, 3) := by decide +kernel
theorem dX4_staysFast_18 : decode cX4_staysFast 18 = .ok (.iinc 3 1, 3) := by decide +kernel
theorem dX4_staysFast_21 : decode cX4_staysFast 21 = .ok (.goto (-19), 3) := by decide +kernel
theorem dX4_staysFast_24 : decode cX4_staysFast 24 = .ok (.aload_n 1, 1) := by decide +kernel
theorem dX4_staysFast_25 : decode cX4_staysFast 25 = .ok (.getfield 59, 3) := by decide +kernel
theorem dX4_staysFast_28 : decode cX4_staysFast 28 = .ok (.ireturn, 1) := by decide +kernel
theorem dX4_hoursTillFallen_0 : decode cX4_hoursTillFallen 0 = .ok (.iconst 0, 1) := by decide +kernel
theorem dX4_hoursTillFallen_1 : decode cX4_hoursTillFallen 1 = .ok (.istore_n 2, 1) := by decide +kernel
theorem dX4_hoursTillFallen_2 : decode cX4_hoursTillFallen 2 = .ok (.iload_n 2, 1) := by decide +kernel
theorem dX4_hoursTillFallen_3 : decode cX4_hoursTillFallen 3 = .ok (.sipush 200, 3) := by decide +kernel
theorem dX4_hoursTillFallen_6 : decode cX4_hoursTillFallen 6 = .ok (.if_icmp .gt 21, 3) := by decide +kernel
theorem dX4_hoursTillFallen_9 : decode cX4_hoursTillFallen 9 = .ok (.aload_n 0, 1) := by decide +kernel
theorem dX4_hoursTillFallen_10 : decode cX4_hoursTillFallen 10 = .ok (.iload_n 1, 1) := by decide +kernel
theorem dX4_hoursTillFallen_11 : decode cX4_hoursTillFallen 11 = .ok (.invokevirtual 104, 3) := by decide +kernel
theorem dX4_hoursTillFallen_14 : decode cX4_hoursTillFallen 14 = .ok (.ifCond .eq 13, 3) := by decide +kernel
theorem dX4_hoursTillFallen_17 : decode cX4_hoursTillFallen 17 = .ok (.aload_n 0, 1) := by decide +kernel
theorem dX4_hoursTillFallen_18 : decode cX4_hoursTillFallen 18 = .ok (.invokevirtual 91, 3) := by decide +kernel
theorem dX4_hoursTillFallen_21 : decode cX4_hoursTillFallen 21 = .ok (.iinc 2 1, 3) := by decide +kernel
theorem dX4_hoursTillFallen_24 : decode cX4_hoursTillFallen 24 = .ok (.goto (-22), 3) := by decide +kernel
theorem dX4_hoursTillFallen_27 : decode cX4_hoursTillFallen 27 = .ok (.iload_n 2, 1) := by decide +kernel
theorem dX4_hoursTillFallen_28 : decode cX4_hoursTillFallen 28 = .ok (.ireturn, 1) := by decide +kernel
theorem dX4_hoursTillLoose_0 : decode cX4_hoursTillLoose 0 = .ok (.iconst 0, 1) := by decide +kernel
theorem dX4_hoursTillLoose_1 : decode cX4_hoursTillLoose 1 = .ok (.istore_n 2, 1) := by decide +kernel
theorem dX4_hoursTillLoose_2 : decode cX4_hoursTillLoose 2 = .ok (.iload_n 2, 1) := by decide +kernel
theorem dX4_hoursTillLoose_3 : decode cX4_hoursTillLoose 3 = .ok (.sipush 200, 3) := by decide +kernel
theorem dX4_hoursTillLoose_6 : decode cX4_hoursTillLoose 6 = .ok (.if_icmp .gt 20, 3) := by decide +kernel
theorem dX4_hoursTillLoose_9 : decode cX4_hoursTillLoose 9 = .ok (.aload_n 1, 1) := by decide +kernel
theorem dX4_hoursTillLoose_10 : decode cX4_hoursTillLoose 10 = .ok (.getfield 59, 3) := by decide +kernel
theorem dX4_hoursTillLoose_13 : decode cX4_hoursTillLoose 13 = .ok (.ifCond .eq 13, 3) := by decide +kernel
theorem dX4_hoursTillLoose_16 : decode cX4_hoursTillLoose 16 = .ok (.aload_n 0, 1) := by decide +kernel
theorem dX4_hoursTillLoose_17 : decode cX4_hoursTillLoose 17 = .ok (.invokevirtual 91, 3) := by decide +kernel
theorem dX4_hoursTillLoose_20 : decode cX4_hoursTillLoose 20 = .ok (.iinc 2 1, 3) := by decide +kernel
theorem dX4_hoursTillLoose_23 : decode cX4_hoursTillLoose 23 = .ok (.goto (-21), 3) := by decide +kernel
theorem dX4_hoursTillLoose_26 : decode cX4_hoursTillLoose 26 = .ok (.iload_n 2, 1) := by decide +kernel
theorem dX4_hoursTillLoose_27 : decode cX4_hoursTillLoose 27 = .ok (.ireturn, 1) := by decide +kernel
theorem dX4_countFast_0 : decode cX4_countFast 0 = .ok (.iconst 0, 1) := by decide +kernel
theorem dX4_countFast_1 : decode cX4_countFast 1 = .ok (.istore_n 1, 1) := by decide +kernel
theorem dX4_countFast_2 : decode cX4_countFast 2 = .ok (.iload_n 1, 1) := by decide +kernel
theorem dX4_countFast_3 : decode cX4_countFast 3 = .ok (.iconst 4, 1) := by decide +kernel
theorem dX4_countFast_4 : decode cX4_countFast 4 = .ok (.if_icmp .ge 16, 3) := by decide +kernel
theorem dX4_countFast_7 : decode cX4_countFast 7 = .ok (.aload_n 0, 1) := by decide +kernel
theorem dX4_countFast_8 : decode cX4_countFast 8 = .ok (.getfield 34, 3) := by decide +kernel
theorem dX4_countFast_11 : decode cX4_countFast 11 = .ok (.iload_n 1, 1) := by decide +kernel
theorem dX4_countFast_12 : decode cX4_countFast 12 = .ok (.iconst 0, 1) := by decide +kernel
theorem dX4_countFast_13 : decode cX4_countFast 13 = .ok (.iastore, 1) := by decide +kernel
theorem dX4_countFast_14 : decode cX4_countFast 14 = .ok (.iinc 1 1, 3) := by decide +kernel
theorem dX4_countFast_17 : decode cX4_countFast 17 = .ok (.goto (-15), 3) := by decide +kernel
theorem dX4_countFast_20 : decode cX4_countFast 20 = .ok (.iconst 0, 1) := by decide +kernel
theorem dX4_countFast_21 : decode cX4_countFast 21 = .ok (.istore_n 1, 1) := by decide +kernel
theorem dX4_countFast_22 : decode cX4_countFast 22 = .ok (.iload_n 1, 1) := by decide +kernel
theorem dX4_countFast_23 : decode cX4_countFast 23 = .ok (.aload_n 0, 1) := by decide +kernel
theorem dX4_countFast_24 : decode cX4_countFast 24 = .ok (.getfield 15, 3) := by decide +kernel
theorem dX4_countFast_27 : decode cX4_countFast 27 = .ok (.if_icmp .ge 39, 3) := by decide +kernel
theorem dX4_countFast_30 : decode cX4_countFast 30 = .ok (.aload_n 0, 1) := by decide +kernel
theorem dX4_countFast_31 : decode cX4_countFast 31 = .ok (.getfield 30, 3) := by decide +kernel
theorem dX4_countFast_34 : decode cX4_countFast 34 = .ok (.iload_n 1, 1) := by decide +kernel
theorem dX4_countFast_35 : decode cX4_countFast 35 = .ok (.aaload, 1) := by decide +kernel
theorem dX4_countFast_36 : decode cX4_countFast 36 = .ok (.getfield 59, 3) := by decide +kernel
theorem dX4_countFast_39 : decode cX4_countFast 39 = .ok (.ifCond .eq 21, 3) := by decide +kernel
theorem dX4_countFast_42 : decode cX4_countFast 42 = .ok (.aload_n 0, 1) := by decide +kernel
theorem dX4_countFast_43 : decode cX4_countFast 43 = .ok (.getfield 34, 3) := by decide +kernel
theorem dX4_countFast_46 : decode cX4_countFast 46 = .ok (.aload_n 0, 1) := by decide +kernel
theorem dX4_countFast_47 : decode cX4_countFast 47 = .ok (.getfield 30, 3) := by decide +kernel
theorem dX4_countFast_50 : decode cX4_countFast 50 = .ok (.iload_n 1, 1) := by decide +kernel
theorem dX4_countFast_51 : decode cX4_countFast 51 = .ok (.aaload, 1) := by decide +kernel
theorem dX4_countFast_52 : decode cX4_countFast 52 = .ok (.getfield 56, 3) := by decide +kernel
theorem dX4_countFast_55 : decode cX4_countFast 55 = .ok (.dup2, 1) := by decide +kernel
theorem dX4_countFast_56 : decode cX4_countFast 56 = .ok (.iaload, 1) := by decide +kernel
theorem dX4_countFast_57 : decode cX4_countFast 57 = .ok (.iconst 1, 1) := by decide +kernel
theorem dX4_countFast_58 : decode cX4_countFast 58 = .ok (.iadd, 1) := by decide +kernel
theorem dX4_countFast_59 : decode cX4_countFast 59 = .ok (.iastore, 1) := by decide +kernel
theorem dX4_countFast_60 : decode cX4_countFast 60 = .ok (.iinc 1 1, 3) := by decide +kernel
theorem dX4_countFast_63 : decode cX4_countFast 63 = .ok (.goto (-41), 3) := by decide +kernel
theorem dX4_countFast_66 : decode cX4_countFast 66 = .ok (.return_, 1) := by decide +kernel
theorem dX4_strain_0 : decode cX4_strain 0 = .ok (.aload_n 0, 1) := by decide +kernel
theorem dX4_strain_1 : decode cX4_strain 1 = .ok (.getfield 34, 3) := by decide +kernel
theorem dX4_strain_4 : decode cX4_strain 4 = .ok (.iload_n 1, 1) := by decide +kernel
theorem dX4_strain_5 : decode cX4_strain 5 = .ok (.iaload, 1) := by decide +kernel
theorem dX4_strain_6 : decode cX4_strain 6 = .ok (.istore_n 3, 1) := by decide +kernel
theorem dX4_strain_7 : decode cX4_strain 7 = .ok (.iload_n 3, 1) := by decide +kernel
theorem dX4_strain_8 : decode cX4_strain 8 = .ok (.ifCond .ne 7, 3) := by decide +kernel
theorem dX4_strain_11 : decode cX4_strain 11 = .ok (.iconst 0, 1) := by decide +kernel
theorem dX4_strain_12 : decode cX4_strain 12 = .ok (.goto 15, 3) := by decide +kernel
theorem dX4_strain_15 : decode cX4_strain 15 = .ok (.aload_n 0, 1) := by decide +kernel
theorem dX4_strain_16 : decode cX4_strain 16 = .ok (.getfield 25, 3) := by decide +kernel
theorem dX4_strain_19 : decode cX4_strain 19 = .ok (.iload_n 1, 1) := by decide +kernel
theorem dX4_strain_20 : decode cX4_strain 20 = .ok (.iaload, 1) := by decide +kernel
theorem dX4_strain_21 : decode cX4_strain 21 = .ok (.iconst 3, 1) := by decide +kernel
theorem dX4_strain_22 : decode cX4_strain 22 = .ok (.iload_n 2, 1) := by decide +kernel
theorem dX4_strain_23 : decode cX4_strain 23 = .ok (.imul, 1) := by decide +kernel
theorem dX4_strain_24 : decode cX4_strain 24 = .ok (.iadd, 1) := by decide +kernel
theorem dX4_strain_25 : decode cX4_strain 25 = .ok (.iload_n 3, 1) := by decide +kernel
theorem dX4_strain_26 : decode cX4_strain 26 = .ok (.idiv, 1) := by decide +kernel
theorem dX4_strain_27 : decode cX4_strain 27 = .ok (.ireturn, 1) := by decide +kernel
theorem dX4_heldBy_0 : decode cX4_heldBy 0 = .ok (.aload_n 1, 1) := by decide +kernel
theorem dX4_heldBy_1 : decode cX4_heldBy 1 = .ok (.iload_n 2, 1) := by decide +kernel
theorem dX4_heldBy_2 : decode cX4_heldBy 2 = .ok (.aload_n 0, 1) := by decide +kernel
theorem dX4_heldBy_3 : decode cX4_heldBy 3 = .ok (.getfield 34, 3) := by decide +kernel
theorem dX4_heldBy_6 : decode cX4_heldBy 6 = .ok (.aload_n 1, 1) := by decide +kernel
theorem dX4_heldBy_7 : decode cX4_heldBy 7 = .ok (.getfield 56, 3) := by decide +kernel
theorem dX4_heldBy_10 : decode cX4_heldBy 10 = .ok (.iaload, 1) := by decide +kernel
theorem dX4_heldBy_11 : decode cX4_heldBy 11 = .ok (.iconst 1, 1) := by decide +kernel
theorem dX4_heldBy_12 : decode cX4_heldBy 12 = .ok (.isub, 1) := by decide +kernel
theorem dX4_heldBy_13 : decode cX4_heldBy 13 = .ok (.invokevirtual 108, 3) := by decide +kernel
theorem dX4_heldBy_16 : decode cX4_heldBy 16 = .ok (.ireturn, 1) := by decide +kernel
theorem dX4_letGo_0 : decode cX4_letGo 0 = .ok (.iconst 0, 1) := by decide +kernel
theorem dX4_letGo_1 : decode cX4_letGo 1 = .ok (.istore_n 2, 1) := by decide +kernel
theorem dX4_letGo_2 : decode cX4_letGo 2 = .ok (.iload_n 2, 1) := by decide +kernel
theorem dX4_letGo_3 : decode cX4_letGo 3 = .ok (.aload_n 0, 1) := by decide +kernel
theorem dX4_letGo_4 : decode cX4_letGo 4 = .ok (.getfield 15, 3) := by decide +kernel
theorem dX4_letGo_7 : decode cX4_letGo 7 = .ok (.if_icmp .ge 61, 3) := by decide +kernel
theorem dX4_letGo_10 : decode cX4_letGo 10 = .ok (.aload_n 0, 1) := by decide +kernel
theorem dX4_letGo_11 : decode cX4_letGo 11 = .ok (.getfield 30, 3) := by decide +kernel
theorem dX4_letGo_14 : decode cX4_letGo 14 = .ok (.iload_n 2, 1) := by decide +kernel
theorem dX4_letGo_15 : decode cX4_letGo 15 = .ok (.aaload, 1) := by decide +kernel
theorem dX4_letGo_16 : decode cX4_letGo 16 = .ok (.astore_n 3, 1) := by decide +kernel
theorem dX4_letGo_17 : decode cX4_letGo 17 = .ok (.aload_n 3, 1) := by decide +kernel
theorem dX4_letGo_18 : decode cX4_letGo 18 = .ok (.getfield 59, 3) := by decide +kernel
theorem dX4_letGo_21 : decode cX4_letGo 21 = .ok (.ifCond .eq 41, 3) := by decide +kernel
theorem dX4_letGo_24 : decode cX4_letGo 24 = .ok (.aload_n 0, 1) := by decide +kernel
theorem dX4_letGo_25 : decode cX4_letGo 25 = .ok (.aload_n 3, 1) := by decide +kernel
theorem dX4_letGo_26 : decode cX4_letGo 26 = .ok (.getfield 56, 3) := by decide +kernel
theorem dX4_letGo_29 : decode cX4_letGo 29 = .ok (.invokevirtual 104, 3) := by decide +kernel
theorem dX4_letGo_32 : decode cX4_letGo 32 = .ok (.ifCond .eq 30, 3) := by decide +kernel
theorem dX4_letGo_35 : decode cX4_letGo 35 = .ok (.aload_n 3, 1) := by decide +kernel
theorem dX4_letGo_36 : decode cX4_letGo 36 = .ok (.aload_n 0, 1) := by decide +kernel
theorem dX4_letGo_37 : decode cX4_letGo 37 = .ok (.aload_n 3, 1) := by decide +kernel
theorem dX4_letGo_38 : decode cX4_letGo 38 = .ok (.getfield 56, 3) := by decide +kernel
theorem dX4_letGo_41 : decode cX4_letGo 41 = .ok (.iload_n 1, 1) := by decide +kernel
theorem dX4_letGo_42 : decode cX4_letGo 42 = .ok (.invokevirtual 75, 3) := by decide +kernel
theorem dX4_letGo_45 : decode cX4_letGo 45 = .ok (.aload_n 0, 1) := by decide +kernel
theorem dX4_letGo_46 : decode cX4_letGo 46 = .ok (.aload_n 3, 1) := by decide +kernel
theorem dX4_letGo_47 : decode cX4_letGo 47 = .ok (.iload_n 1, 1) := by decide +kernel
theorem dX4_letGo_48 : decode cX4_letGo 48 = .ok (.invokevirtual 79, 3) := by decide +kernel
theorem dX4_letGo_51 : decode cX4_letGo 51 = .ok (.invokevirtual 87, 3) := by decide +kernel
theorem dX4_letGo_54 : decode cX4_letGo 54 = .ok (.ifCond .eq 8, 3) := by decide +kernel
theorem dX4_letGo_57 : decode cX4_letGo 57 = .ok (.aload_n 3, 1) := by decide +kernel
theorem dX4_letGo_58 : decode cX4_letGo 58 = .ok (.iconst 0, 1) := by decide +kernel
theorem dX4_letGo_59 : decode cX4_letGo 59 = .ok (.putfield 59, 3) := by decide +kernel
theorem dX4_letGo_62 : decode cX4_letGo 62 = .ok (.iinc 2 1, 3) := by decide +kernel
theorem dX4_letGo_65 : decode cX4_letGo 65 = .ok (.goto (-63), 3) := by decide +kernel
theorem dX4_letGo_68 : decode cX4_letGo 68 = .ok (.return_, 1) := by decide +kernel
theorem dX4_dropMasts_0 : decode cX4_dropMasts 0 = .ok (.iconst 0, 1) := by decide +kernel
theorem dX4_dropMasts_1 : decode cX4_dropMasts 1 = .ok (.istore_n 1, 1) := by decide +kernel
theorem dX4_dropMasts_2 : decode cX4_dropMasts 2 = .ok (.iload_n 1, 1) := by decide +kernel
theorem dX4_dropMasts_3 : decode cX4_dropMasts 3 = .ok (.iconst 4, 1) := by decide +kernel
theorem dX4_dropMasts_4 : decode cX4_dropMasts 4 = .ok (.if_icmp .ge 24, 3) := by decide +kernel
theorem dX4_dropMasts_7 : decode cX4_dropMasts 7 = .ok (.aload_n 0, 1) := by decide +kernel
theorem dX4_dropMasts_8 : decode cX4_dropMasts 8 = .ok (.getfield 34, 3) := by decide +kernel
theorem dX4_dropMasts_11 : decode cX4_dropMasts 11 = .ok (.iload_n 1, 1) := by decide +kernel
theorem dX4_dropMasts_12 : decode cX4_dropMasts 12 = .ok (.iaload, 1) := by decide +kernel
theorem dX4_dropMasts_13 : decode cX4_dropMasts 13 = .ok (.ifCond .ne 9, 3) := by decide +kernel
theorem dX4_dropMasts_16 : decode cX4_dropMasts 16 = .ok (.aload_n 0, 1) := by decide +kernel
theorem dX4_dropMasts_17 : decode cX4_dropMasts 17 = .ok (.iload_n 1, 1) := by decide +kernel
theorem dX4_dropMasts_18 : decode cX4_dropMasts 18 = .ok (.iconst 0, 1) := by decide +kernel
theorem dX4_dropMasts_19 : decode cX4_dropMasts 19 = .ok (.invokevirtual 111, 3) := by decide +kernel
theorem dX4_dropMasts_22 : decode cX4_dropMasts 22 = .ok (.iinc 1 1, 3) := by decide +kernel
theorem dX4_dropMasts_25 : decode cX4_dropMasts 25 = .ok (.goto (-23), 3) := by decide +kernel
theorem dX4_dropMasts_28 : decode cX4_dropMasts 28 = .ok (.return_, 1) := by decide +kernel
theorem dX4_settleKnots_0 : decode cX4_settleKnots 0 = .ok (.iconst 0, 1) := by decide +kernel
theorem dX4_settleKnots_1 : decode cX4_settleKnots 1 = .ok (.istore_n 2, 1) := by decide +kernel
theorem dX4_settleKnots_2 : decode cX4_settleKnots 2 = .ok (.iload_n 2, 1) := by decide +kernel
theorem dX4_settleKnots_3 : decode cX4_settleKnots 3 = .ok (.aload_n 0, 1) := by decide +kernel
theorem dX4_settleKnots_4 : decode cX4_settleKnots 4 = .ok (.getfield 15, 3) := by decide +kernel
theorem dX4_settleKnots_7 : decode cX4_settleKnots 7 = .ok (.if_icmp .ge 31, 3) := by decide +kernel
theorem dX4_settleKnots_10 : decode cX4_settleKnots 10 = .ok (.aload_n 0, 1) := by decide +kernel
theorem dX4_settleKnots_11 : decode cX4_settleKnots 11 = .ok (.getfield 30, 3) := by decide +kernel
theorem dX4_settleKnots_14 : decode cX4_settleKnots 14 = .ok (.iload_n 2, 1) := by decide +kernel
theorem dX4_settleKnots_15 : decode cX4_settleKnots 15 = .ok (.aaload, 1) := by decide +kernel
theorem dX4_settleKnots_16 : decode cX4_settleKnots 16 = .ok (.getfield 59, 3) := by decide +kernel
theorem dX4_settleKnots_19 : decode cX4_settleKnots 19 = .ok (.ifCond .eq 13, 3) := by decide +kernel
theorem dX4_settleKnots_22 : decode cX4_settleKnots 22 = .ok (.aload_n 0, 1) := by decide +kernel
theorem dX4_settleKnots_23 : decode cX4_settleKnots 23 = .ok (.getfield 30, 3) := by decide +kernel
theorem dX4_settleKnots_26 : decode cX4_settleKnots 26 = .ok (.iload_n 2, 1) := by decide +kernel
theorem dX4_settleKnots_27 : decode cX4_settleKnots 27 = .ok (.aaload, 1) := by decide +kernel
theorem dX4_settleKnots_28 : decode cX4_settleKnots 28 = .ok (.iload_n 1, 1) := by decide +kernel
theorem dX4_settleKnots_29 : decode cX4_settleKnots 29 = .ok (.invokevirtual 115, 3) := by decide +kernel
theorem dX4_settleKnots_32 : decode cX4_settleKnots 32 = .ok (.iinc 2 1, 3) := by decide +kernel
theorem dX4_settleKnots_35 : decode cX4_settleKnots 35 = .ok (.goto (-33), 3) := by decide +kernel
theorem dX4_settleKnots_38 : decode cX4_settleKnots 38 = .ok (.return_, 1) := by decide +kernel
theorem dJ6_bitCount_0f7a4_0 : decode cJ6_bitCount_0f7a4 0 = .ok (.iload_n 0, 1) := by decide +kernel
theorem dJ6_bitCount_0f7a4_1 : decode cJ6_bitCount_0f7a4 1 = .ok (.iload_n 0, 1) := by decide +kernel
theorem dJ6_bitCount_0f7a4_2 : decode cJ6_bitCount_0f7a4 2 = .ok (.iconst 1, 1) := by decide +kernel
theorem dJ6_bitCount_0f7a4_3 : decode cJ6_bitCount_0f7a4 3 = .ok (.iushr, 1) := by decide +kernel
theorem dJ6_bitCount_0f7a4_4 : decode cJ6_bitCount_0f7a4 4 = .ok (.ldc_w 265, 3) := by decide +kernel
theorem dJ6_bitCount_0f7a4_7 : decode cJ6_bitCount_0f7a4 7 = .ok (.iand, 1) := by decide +kernel
theorem dJ6_bitCount_0f7a4_8 : decode cJ6_bitCount_0f7a4 8 = .ok (.isub, 1) := by decide +kernel
theorem dJ6_bitCount_0f7a4_9 : decode cJ6_bitCount_0f7a4 9 = .ok (.istore_n 0, 1) := by decide +kernel
theorem dJ6_bitCount_0f7a4_10 : decode cJ6_bitCount_0f7a4 10 = .ok (.iload_n 0, 1) := by decide +kernel
theorem dJ6_bitCount_0f7a4_11 : decode cJ6_bitCount_0f7a4 11 = .ok (.ldc_w 266, 3) := by decide +kernel
theorem dJ6_bitCount_0f7a4_14 : decode cJ6_bitCount_0f7a4 14 = .ok (.iand, 1) := by decide +kernel
theorem dJ6_bitCount_0f7a4_15 : decode cJ6_bitCount_0f7a4 15 = .ok (.iload_n 0, 1) := by decide +kernel
theorem dJ6_bitCount_0f7a4_16 : decode cJ6_bitCount_0f7a4 16 = .ok (.iconst 2, 1) := by decide +kernel
theorem dJ6_bitCount_0f7a4_17 : decode cJ6_bitCount_0f7a4 17 = .ok (.iushr, 1) := by decide +kernel
theorem dJ6_bitCount_0f7a4_18 : decode cJ6_bitCount_0f7a4 18 = .ok (.ldc_w 266, 3) := by decide +kernel
theorem dJ6_bitCount_0f7a4_21 : decode cJ6_bitCount_0f7a4 21 = .ok (.iand, 1) := by decide +kernel
theorem dJ6_bitCount_0f7a4_22 : decode cJ6_bitCount_0f7a4 22 = .ok (.iadd, 1) := by decide +kernel
theorem dJ6_bitCount_0f7a4_23 : decode cJ6_bitCount_0f7a4 23 = .ok (.istore_n 0, 1) := by decide +kernel
theorem dJ6_bitCount_0f7a4_24 : decode cJ6_bitCount_0f7a4 24 = .ok (.iload_n 0, 1) := by decide +kernel
theorem dJ6_bitCount_0f7a4_25 : decode cJ6_bitCount_0f7a4 25 = .ok (.iload_n 0, 1) := by decide +kernel
theorem dJ6_bitCount_0f7a4_26 : decode cJ6_bitCount_0f7a4 26 = .ok (.iconst 4, 1) := by decide +kernel
theorem dJ6_bitCount_0f7a4_27 : decode cJ6_bitCount_0f7a4 27 = .ok (.iushr, 1) := by decide +kernel
theorem dJ6_bitCount_0f7a4_28 : decode cJ6_bitCount_0f7a4 28 = .ok (.iadd, 1) := by decide +kernel
theorem dJ6_bitCount_0f7a4_29 : decode cJ6_bitCount_0f7a4 29 = .ok (.ldc_w 267, 3) := by decide +kernel
theorem dJ6_bitCount_0f7a4_32 : decode cJ6_bitCount_0f7a4 32 = .ok (.iand, 1) := by decide +kernel
theorem dJ6_bitCount_0f7a4_33 : decode cJ6_bitCount_0f7a4 33 = .ok (.istore_n 0, 1) := by decide +kernel
theorem dJ6_bitCount_0f7a4_34 : decode cJ6_bitCount_0f7a4 34 = .ok (.iload_n 0, 1) := by decide +kernel
theorem dJ6_bitCount_0f7a4_35 : decode cJ6_bitCount_0f7a4 35 = .ok (.iload_n 0, 1) := by decide +kernel
theorem dJ6_bitCount_0f7a4_36 : decode cJ6_bitCount_0f7a4 36 = .ok (.bipush 8, 2) := by decide +kernel
theorem dJ6_bitCount_0f7a4_38 : decode cJ6_bitCount_0f7a4 38 = .ok (.iushr, 1) := by decide +kernel
theorem dJ6_bitCount_0f7a4_39 : decode cJ6_bitCount_0f7a4 39 = .ok (.iadd, 1) := by decide +kernel
theorem dJ6_bitCount_0f7a4_40 : decode cJ6_bitCount_0f7a4 40 = .ok (.istore_n 0, 1) := by decide +kernel
theorem dJ6_bitCount_0f7a4_41 : decode cJ6_bitCount_0f7a4 41 = .ok (.iload_n 0, 1) := by decide +kernel
theorem dJ6_bitCount_0f7a4_42 : decode cJ6_bitCount_0f7a4 42 = .ok (.iload_n 0, 1) := by decide +kernel
theorem dJ6_bitCount_0f7a4_43 : decode cJ6_bitCount_0f7a4 43 = .ok (.bipush 16, 2) := by decide +kernel
theorem dJ6_bitCount_0f7a4_45 : decode cJ6_bitCount_0f7a4 45 = .ok (.iushr, 1) := by decide +kernel
theorem dJ6_bitCount_0f7a4_46 : decode cJ6_bitCount_0f7a4 46 = .ok (.iadd, 1) := by decide +kernel
theorem dJ6_bitCount_0f7a4_47 : decode cJ6_bitCount_0f7a4 47 = .ok (.istore_n 0, 1) := by decide +kernel
theorem dJ6_bitCount_0f7a4_48 : decode cJ6_bitCount_0f7a4 48 = .ok (.iload_n 0, 1) := by decide +kernel
theorem dJ6_bitCount_0f7a4_49 : decode cJ6_bitCount_0f7a4 49 = .ok (.bipush 63, 2) := by decide +kernel
theorem dJ6_bitCount_0f7a4_51 : decode cJ6_bitCount_0f7a4 51 = .ok (.iand, 1) := by decide +kernel
theorem dJ6_bitCount_0f7a4_52 : decode cJ6_bitCount_0f7a4 52 = .ok (.ireturn, 1) := by decide +kernel
theorem dJ9_max_7cf53_0 : decode cJ9_max_7cf53 0 = .ok (.iload_n 0, 1) := by decide +kernel
theorem dJ9_max_7cf53_1 : decode cJ9_max_7cf53 1 = .ok (.iload_n 1, 1) := by decide +kernel
theorem dJ9_max_7cf53_2 : decode cJ9_max_7cf53 2 = .ok (.if_icmp .lt 7, 3) := by decide +kernel
theorem dJ9_max_7cf53_5 : decode cJ9_max_7cf53 5 = .ok (.iload_n 0, 1) := by decide +kernel
theorem dJ9_max_7cf53_6 : decode cJ9_max_7cf53 6 = .ok (.goto 4, 3) := by decide +kernel
theorem dJ9_max_7cf53_9 : decode cJ9_max_7cf53 9 = .ok (.iload_n 1, 1) := by decide +kernel
theorem dJ9_max_7cf53_10 : decode cJ9_max_7cf53 10 = .ok (.ireturn, 1) := by decide +kernel
theorem dJ9_min_7cf53_0 : decode cJ9_min_7cf53 0 = .ok (.iload_n 0, 1) := by decide +kernel
theorem dJ9_min_7cf53_1 : decode cJ9_min_7cf53 1 = .ok (.iload_n 1, 1) := by decide +kernel
theorem dJ9_min_7cf53_2 : decode cJ9_min_7cf53 2 = .ok (.if_icmp .gt 7, 3) := by decide +kernel
theorem dJ9_min_7cf53_5 : decode cJ9_min_7cf53 5 = .ok (.iload_n 0, 1) := by decide +kernel
theorem dJ9_min_7cf53_6 : decode cJ9_min_7cf53 6 = .ok (.goto 4, 3) := by decide +kernel
theorem dJ9_min_7cf53_9 : decode cJ9_min_7cf53 9 = .ok (.iload_n 1, 1) := by decide +kernel
theorem dJ9_min_7cf53_10 : decode cJ9_min_7cf53 10 = .ok (.ireturn, 1) := by decide +kernel
theorem dJ0_length_8abf5_0 : decode cJ0_length_8abf5 0 = .ok (.aload_n 0, 1) := by decide +kernel
theorem dJ0_length_8abf5_1 : decode cJ0_length_8abf5 1 = .ok (.getfield 9, 3) := by decide +kernel
theorem dJ0_length_8abf5_4 : decode cJ0_length_8abf5 4 = .ok (.arraylength, 1) := by decide +kernel
theorem dJ0_length_8abf5_5 : decode cJ0_length_8abf5 5 = .ok (.aload_n 0, 1) := by decide +kernel
theorem dJ0_length_8abf5_6 : decode cJ0_length_8abf5 6 = .ok (.invokevirtual 335, 3) := by decide +kernel
theorem dJ0_length_8abf5_9 : decode cJ0_length_8abf5 9 = .ok (.ishr, 1) := by decide +kernel
theorem dJ0_length_8abf5_10 : decode cJ0_length_8abf5 10 = .ok (.ireturn, 1) := by decide +kernel
theorem dJ0_charAt_5068e_0 : decode cJ0_charAt_5068e 0 = .ok (.aload_n 0, 1) := by decide +kernel
theorem dJ0_charAt_5068e_1 : decode cJ0_charAt_5068e 1 = .ok (.invokevirtual 492, 3) := by decide +kernel
theorem dJ0_charAt_5068e_4 : decode cJ0_charAt_5068e 4 = .ok (.ifCond .eq 12, 3) := by decide +kernel
theorem dJ0_charAt_5068e_7 : decode cJ0_charAt_5068e 7 = .ok (.aload_n 0, 1) := by decide +kernel
theorem dJ0_charAt_5068e_8 : decode cJ0_charAt_5068e 8 = .ok (.getfield 9, 3) := by decide +kernel
theorem dJ0_charAt_5068e_11 : decode cJ0_charAt_5068e 11 = .ok (.iload_n 1, 1) := by decide +kernel
theorem dJ0_charAt_5068e_12 : decode cJ0_charAt_5068e 12 = .ok (.invokestatic 495, 3) := by decide +kernel
theorem dJ0_charAt_5068e_15 : decode cJ0_charAt_5068e 15 = .ok (.ireturn, 1) := by decide +kernel
theorem dJ0_charAt_5068e_16 : decode cJ0_charAt_5068e 16 = .ok (.aload_n 0, 1) := by decide +kernel
theorem dJ0_charAt_5068e_17 : decode cJ0_charAt_5068e 17 = .ok (.getfield 9, 3) := by decide +kernel
theorem dJ0_charAt_5068e_20 : decode cJ0_charAt_5068e 20 = .ok (.iload_n 1, 1) := by decide +kernel
theorem dJ0_charAt_5068e_21 : decode cJ0_charAt_5068e 21 = .ok (.invokestatic 498, 3) := by decide +kernel
theorem dJ0_charAt_5068e_24 : decode cJ0_charAt_5068e 24 = .ok (.ireturn, 1) := by decide +kernel
theorem dJ0_coder_7d493_0 : decode cJ0_coder_7d493 0 = .ok (.getstatic 38, 3) := by decide +kernel
theorem dJ0_coder_7d493_3 : decode cJ0_coder_7d493 3 = .ok (.ifCond .eq 10, 3) := by decide +kernel
theorem dJ0_coder_7d493_6 : decode cJ0_coder_7d493 6 = .ok (.aload_n 0, 1) := by decide +kernel
theorem dJ0_coder_7d493_7 : decode cJ0_coder_7d493 7 = .ok (.getfield 15, 3) := by decide +kernel
theorem dJ0_coder_7d493_10 : decode cJ0_coder_7d493 10 = .ok (.goto 4, 3) := by decide +kernel
theorem dJ0_coder_7d493_13 : decode cJ0_coder_7d493 13 = .ok (.iconst 1, 1) := by decide +kernel
theorem dJ0_coder_7d493_14 : decode cJ0_coder_7d493 14 = .ok (.ireturn, 1) := by decide +kernel
theorem dJ0_isLatin1_aae02_0 : decode cJ0_isLatin1_aae02 0 = .ok (.getstatic 38, 3) := by decide +kernel
theorem dJ0_isLatin1_aae02_3 : decode cJ0_isLatin1_aae02 3 = .ok (.ifCond .eq 14, 3) := by decide +kernel
theorem dJ0_isLatin1_aae02_6 : decode cJ0_isLatin1_aae02 6 = .ok (.aload_n 0, 1) := by decide +kernel
theorem dJ0_isLatin1_aae02_7 : decode cJ0_isLatin1_aae02 7 = .ok (.getfield 15, 3) := by decide +kernel
theorem dJ0_isLatin1_aae02_10 : decode cJ0_isLatin1_aae02 10 = .ok (.ifCond .ne 7, 3) := by decide +kernel
theorem dJ0_isLatin1_aae02_13 : decode cJ0_isLatin1_aae02 13 = .ok (.iconst 1, 1) := by decide +kernel
theorem dJ0_isLatin1_aae02_14 : decode cJ0_isLatin1_aae02 14 = .ok (.goto 4, 3) := by decide +kernel
theorem dJ0_isLatin1_aae02_17 : decode cJ0_isLatin1_aae02 17 = .ok (.iconst 0, 1) := by decide +kernel
theorem dJ0_isLatin1_aae02_18 : decode cJ0_isLatin1_aae02 18 = .ok (.ireturn, 1) := by decide +kernel
theorem dJ0_checkIndex_df160_0 : decode cJ0_checkIndex_df160 0 = .ok (.iload_n 0, 1) := by decide +kernel
theorem dJ0_checkIndex_df160_1 : decode cJ0_checkIndex_df160 1 = .ok (.iload_n 1, 1) := by decide +kernel
theorem dJ0_checkIndex_df160_2 : decode cJ0_checkIndex_df160 2 = .ok (.getstatic 1053, 3) := by decide +kernel
theorem dJ0_checkIndex_df160_5 : decode cJ0_checkIndex_df160 5 = .ok (.invokestatic 1059, 3) := by decide +kernel
theorem dJ0_checkIndex_df160_8 : decode cJ0_checkIndex_df160 8 = .ok (.pop, 1) := by decide +kernel
theorem dJ0_checkIndex_df160_9 : decode cJ0_checkIndex_df160 9 = .ok (.return_, 1) := by decide +kernel
theorem dJ1_charAt_3b067_0 : decode cJ1_charAt_3b067 0 = .ok (.iload_n 1, 1) := by decide +kernel
theorem dJ1_charAt_3b067_1 : decode cJ1_charAt_3b067 1 = .ok (.aload_n 0, 1) := by decide +kernel
theorem dJ1_charAt_3b067_2 : decode cJ1_charAt_3b067 2 = .ok (.arraylength, 1) := by decide +kernel
theorem dJ1_charAt_3b067_3 : decode cJ1_charAt_3b067 3 = .ok (.invokestatic 9, 3) := by decide +kernel
theorem dJ1_charAt_3b067_6 : decode cJ1_charAt_3b067 6 = .ok (.aload_n 0, 1) := by decide +kernel
theorem dJ1_charAt_3b067_7 : decode cJ1_charAt_3b067 7 = .ok (.iload_n 1, 1) := by decide +kernel
theorem dJ1_charAt_3b067_8 : decode cJ1_charAt_3b067 8 = .ok (.baload, 1) := by decide +kernel
theorem dJ1_charAt_3b067_9 : decode cJ1_charAt_3b067 9 = .ok (.sipush 255, 3) := by decide +kernel
theorem dJ1_charAt_3b067_12 : decode cJ1_charAt_3b067 12 = .ok (.iand, 1) := by decide +kernel
theorem dJ1_charAt_3b067_13 : decode cJ1_charAt_3b067 13 = .ok (.i2c, 1) := by decide +kernel
theorem dJ1_charAt_3b067_14 : decode cJ1_charAt_3b067 14 = .ok (.ireturn, 1) := by decide +kernel
theorem dJ2_getChar_3b067_0 : decode cJ2_getChar_3b067 0 = .ok (.getstatic 44, 3) := by decide +kernel
theorem dJ2_getChar_3b067_3 : decode cJ2_getChar_3b067 3 = .ok (.ifCond .ne 25, 3) := by decide +kernel
theorem dJ2_getChar_3b067_6 : decode cJ2_getChar_3b067 6 = .ok (.iload_n 1, 1) := by decide +kernel
theorem dJ2_getChar_3b067_7 : decode cJ2_getChar_3b067 7 = .ok (.ifCond .lt 11, 3) := by decide +kernel
theorem dJ2_getChar_3b067_10 : decode cJ2_getChar_3b067 10 = .ok (.iload_n 1, 1) := by decide +kernel
theorem dJ2_getChar_3b067_11 : decode cJ2_getChar_3b067 11 = .ok (.aload_n 0, 1) := by decide +kernel
theorem dJ2_getChar_3b067_12 : decode cJ2_getChar_3b067 12 = .ok (.invokestatic 48, 3) := by decide +kernel
theorem dJ2_getChar_3b067_15 : decode cJ2_getChar_3b067 15 = .ok (.if_icmp .lt 13, 3) := by decide +kernel
theorem dJ2_getChar_3b067_18 : decode cJ2_getChar_3b067 18 = .ok (.new 52, 3) := by decide +kernel
theorem dJ2_getChar_3b067_21 : decode cJ2_getChar_3b067 21 = .ok (.dup, 1) := by decide +kernel
theorem dJ2_getChar_3b067_22 : decode cJ2_getChar_3b067 22 = .ok (.ldc 54, 2) := by decide +kernel
theorem dJ2_getChar_3b067_24 : decode cJ2_getChar_3b067 24 = .ok (.invokespecial 56, 3) := by decide +kernel
theorem dJ2_getChar_3b067_27 : decode cJ2_getChar_3b067 27 = .ok (.athrow, 1) := by decide +kernel
theorem dJ2_getChar_3b067_28 : decode cJ2_getChar_3b067 28 = .ok (.iload_n 1, 1) := by decide +kernel
theorem dJ2_getChar_3b067_29 : decode cJ2_getChar_3b067 29 = .ok (.iconst 1, 1) := by decide +kernel
theorem dJ2_getChar_3b067_30 : decode cJ2_getChar_3b067 30 = .ok (.ishl, 1) := by decide +kernel
theorem dJ2_getChar_3b067_31 : decode cJ2_getChar_3b067 31 = .ok (.istore_n 1, 1) := by decide +kernel
theorem dJ2_getChar_3b067_32 : decode cJ2_getChar_3b067 32 = .ok (.aload_n 0, 1) := by decide +kernel
theorem dJ2_getChar_3b067_33 : decode cJ2_getChar_3b067 33 = .ok (.iload_n 1, 1) := by decide +kernel
theorem dJ2_getChar_3b067_34 : decode cJ2_getChar_3b067 34 = .ok (.iinc 1 1, 3) := by decide +kernel
theorem dJ2_getChar_3b067_37 : decode cJ2_getChar_3b067 37 = .ok (.baload, 1) := by decide +kernel
theorem dJ2_getChar_3b067_38 : decode cJ2_getChar_3b067 38 = .ok (.sipush 255, 3) := by decide +kernel
theorem dJ2_getChar_3b067_41 : decode cJ2_getChar_3b067 41 = .ok (.iand, 1) := by decide +kernel
theorem dJ2_getChar_3b067_42 : decode cJ2_getChar_3b067 42 = .ok (.getstatic 59, 3) := by decide +kernel
theorem dJ2_getChar_3b067_45 : decode cJ2_getChar_3b067 45 = .ok (.ishl, 1) := by decide +kernel
theorem dJ2_getChar_3b067_46 : decode cJ2_getChar_3b067 46 = .ok (.aload_n 0, 1) := by decide +kernel
theorem dJ2_getChar_3b067_47 : decode cJ2_getChar_3b067 47 = .ok (.iload_n 1, 1) := by decide +kernel
theorem dJ2_getChar_3b067_48 : decode cJ2_getChar_3b067 48 = .ok (.baload, 1) := by decide +kernel
theorem dJ2_getChar_3b067_49 : decode cJ2_getChar_3b067 49 = .ok (.sipush 255, 3) := by decide +kernel
theorem dJ2_getChar_3b067_52 : decode cJ2_getChar_3b067 52 = .ok (.iand, 1) := by decide +kernel
theorem dJ2_getChar_3b067_53 : decode cJ2_getChar_3b067 53 = .ok (.getstatic 63, 3) := by decide +kernel
theorem dJ2_getChar_3b067_56 : decode cJ2_getChar_3b067 56 = .ok (.ishl, 1) := by decide +kernel
theorem dJ2_getChar_3b067_57 : decode cJ2_getChar_3b067 57 = .ok (.ior, 1) := by decide +kernel
theorem dJ2_getChar_3b067_58 : decode cJ2_getChar_3b067 58 = .ok (.i2c, 1) := by decide +kernel
theorem dJ2_getChar_3b067_59 : decode cJ2_getChar_3b067 59 = .ok (.ireturn, 1) := by decide +kernel
theorem dJ2_length_9d52b_0 : decode cJ2_length_9d52b 0 = .ok (.aload_n 0, 1) := by decide +kernel
theorem dJ2_length_9d52b_1 : decode cJ2_length_9d52b 1 = .ok (.arraylength, 1) := by decide +kernel
theorem dJ2_length_9d52b_2 : decode cJ2_length_9d52b 2 = .ok (.iconst 1, 1) := by decide +kernel
theorem dJ2_length_9d52b_3 : decode cJ2_length_9d52b 3 = .ok (.ishr, 1) := by decide +kernel
theorem dJ2_length_9d52b_4 : decode cJ2_length_9d52b 4 = .ok (.ireturn, 1) := by decide +kernel
theorem dJ2_charAt_3b067_0 : decode cJ2_charAt_3b067 0 = .ok (.iload_n 1, 1) := by decide +kernel
theorem dJ2_charAt_3b067_1 : decode cJ2_charAt_3b067 1 = .ok (.aload_n 0, 1) := by decide +kernel
theorem dJ2_charAt_3b067_2 : decode cJ2_charAt_3b067 2 = .ok (.invokestatic 67, 3) := by decide +kernel
theorem dJ2_charAt_3b067_5 : decode cJ2_charAt_3b067 5 = .ok (.aload_n 0, 1) := by decide +kernel
theorem dJ2_charAt_3b067_6 : decode cJ2_charAt_3b067 6 = .ok (.iload_n 1, 1) := by decide +kernel
theorem dJ2_charAt_3b067_7 : decode cJ2_charAt_3b067 7 = .ok (.invokestatic 71, 3) := by decide +kernel
theorem dJ2_charAt_3b067_10 : decode cJ2_charAt_3b067 10 = .ok (.ireturn, 1) := by decide +kernel
theorem dJ2_checkIndex_2214a_0 : decode cJ2_checkIndex_2214a 0 = .ok (.iload_n 0, 1) := by decide +kernel
theorem dJ2_checkIndex_2214a_1 : decode cJ2_checkIndex_2214a 1 = .ok (.aload_n 1, 1) := by decide +kernel
theorem dJ2_checkIndex_2214a_2 : decode cJ2_checkIndex_2214a 2 = .ok (.invokestatic 48, 3) := by decide +kernel
theorem dJ2_checkIndex_2214a_5 : decode cJ2_checkIndex_2214a 5 = .ok (.invokestatic 414, 3) := by decide +kernel
theorem dJ2_checkIndex_2214a_8 : decode cJ2_checkIndex_2214a 8 = .ok (.return_, 1) := by decide +kernel
theorem dJ3_checkIndex_8e157_0 : decode cJ3_checkIndex_8e157 0 = .ok (.iload_n 0, 1) := by decide +kernel
theorem dJ3_checkIndex_8e157_1 : decode cJ3_checkIndex_8e157 1 = .ok (.ifCond .lt 8, 3) := by decide +kernel
theorem dJ3_checkIndex_8e157_4 : decode cJ3_checkIndex_8e157 4 = .ok (.iload_n 0, 1) := by decide +kernel
theorem dJ3_checkIndex_8e157_5 : decode cJ3_checkIndex_8e157 5 = .ok (.iload_n 1, 1) := by decide +kernel
theorem dJ3_checkIndex_8e157_6 : decode cJ3_checkIndex_8e157 6 = .ok (.if_icmp .lt 10, 3) := by decide +kernel
theorem dJ3_checkIndex_8e157_9 : decode cJ3_checkIndex_8e157 9 = .ok (.aload_n 2, 1) := by decide +kernel
theorem dJ3_checkIndex_8e157_10 : decode cJ3_checkIndex_8e157 10 = .ok (.iload_n 0, 1) := by decide +kernel
theorem dJ3_checkIndex_8e157_11 : decode cJ3_checkIndex_8e157 11 = .ok (.iload_n 1, 1) := by decide +kernel
theorem dJ3_checkIndex_8e157_12 : decode cJ3_checkIndex_8e157 12 = .ok (.invokestatic 95, 3) := by decide +kernel
theorem dJ3_checkIndex_8e157_15 : decode cJ3_checkIndex_8e157 15 = .ok (.athrow, 1) := by decide +kernel
theorem dJ3_checkIndex_8e157_16 : decode cJ3_checkIndex_8e157 16 = .ok (.iload_n 0, 1) := by decide +kernel
theorem dJ3_checkIndex_8e157_17 : decode cJ3_checkIndex_8e157 17 = .ok (.ireturn, 1) := by decide +kernel
end
section
theorem dX5_init_0 : decode cX5_init 0 = .ok (.aload_n 0, 1) := by decide +kernel
theorem dX5_init_1 : decode cX5_init 1 = .ok (.invokespecial 1, 3) := by decide +kernel
theorem dX5_init_4 : decode cX5_init 4 = .ok (.aload_n 0, 1) := by decide +kernel
theorem dX5_init_5 : decode cX5_init 5 = .ok (.new 7, 3) := by decide +kernel
theorem dX5_init_8 : decode cX5_init 8 = .ok (.dup, 1) := by decide +kernel
theorem dX5_init_9 : decode cX5_init 9 = .ok (.invokespecial 9, 3) := by decide +kernel
theorem dX5_init_12 : decode cX5_init 12 = .ok (.putfield 10, 3) := by decide +kernel
theorem dX5_init_15 : decode cX5_init 15 = .ok (.aload_n 0, 1) := by decide +kernel
theorem dX5_init_16 : decode cX5_init 16 = .ok (.new 7, 3) := by decide +kernel
theorem dX5_init_19 : decode cX5_init 19 = .ok (.dup, 1) := by decide +kernel
theorem dX5_init_20 : decode cX5_init 20 = .ok (.invokespecial 9, 3) := by decide +kernel
theorem dX5_init_23 : decode cX5_init 23 = .ok (.putfield 16, 3) := by decide +kernel
theorem dX5_init_26 : decode cX5_init 26 = .ok (.aload_n 0, 1) := by decide +kernel
theorem dX5_init_27 : decode cX5_init 27 = .ok (.new 7, 3) := by decide +kernel
theorem dX5_init_30 : decode cX5_init 30 = .ok (.dup, 1) := by decide +kernel
theorem dX5_init_31 : decode cX5_init 31 = .ok (.invokespecial 9, 3) := by decide +kernel
theorem dX5_init_34 : decode cX5_init 34 = .ok (.putfield 19, 3) := by decide +kernel
theorem dX5_init_37 : decode cX5_init 37 = .ok (.aload_n 0, 1) := by decide +kernel
theorem dX5_init_38 : decode cX5_init 38 = .ok (.iconst 0, 1) := by decide +kernel
theorem dX5_init_39 : decode cX5_init 39 = .ok (.putfield 22, 3) := by decide +kernel
theorem dX5_init_42 : decode cX5_init 42 = .ok (.aload_n 0, 1) := by decide +kernel
theorem dX5_init_43 : decode cX5_init 43 = .ok (.new 26, 3) := by decide +kernel
theorem dX5_init_46 : decode cX5_init 46 = .ok (.dup, 1) := by decide +kernel
theorem dX5_init_47 : decode cX5_init 47 = .ok (.invokespecial 28, 3) := by decide +kernel
theorem dX5_init_50 : decode cX5_init 50 = .ok (.putfield 29, 3) := by decide +kernel
theorem dX5_init_53 : decode cX5_init 53 = .ok (.aload_n 0, 1) := by decide +kernel
theorem dX5_init_54 : decode cX5_init 54 = .ok (.new 33, 3) := by decide +kernel
theorem dX5_init_57 : decode cX5_init 57 = .ok (.dup, 1) := by decide +kernel
theorem dX5_init_58 : decode cX5_init 58 = .ok (.aload_n 0, 1) := by decide +kernel
theorem dX5_init_59 : decode cX5_init 59 = .ok (.getfield 29, 3) := by decide +kernel
theorem dX5_init_62 : decode cX5_init 62 = .ok (.aload_n 0, 1) := by decide +kernel
theorem dX5_init_63 : decode cX5_init 63 = .ok (.getfield 16, 3) := by decide +kernel
theorem dX5_init_66 : decode cX5_init 66 = .ok (.invokespecial 35, 3) := by decide +kernel
theorem dX5_init_69 : decode cX5_init 69 = .ok (.putfield 38, 3) := by decide +kernel
theorem dX5_init_72 : decode cX5_init 72 = .ok (.aload_n 0, 1) := by decide +kernel
theorem dX5_init_73 : decode cX5_init 73 = .ok (.iconst 4, 1) := by decide +kernel
theorem dX5_init_74 : decode cX5_init 74 = .ok (.anewarray 42, 3) := by decide +kernel
theorem dX5_init_77 : decode cX5_init 77 = .ok (.putfield 44, 3) := by decide +kernel
theorem dX5_init_80 : decode cX5_init 80 = .ok (.aload_n 0, 1) := by decide +kernel
theorem dX5_init_81 : decode cX5_init 81 = .ok (.bipush 7, 2) := by decide +kernel
theorem dX5_init_83 : decode cX5_init 83 = .ok (.newarray .int, 2) := by decide +kernel
theorem dX5_init_85 : decode cX5_init 85 = .ok (.putfield 48, 3) := by decide +kernel
theorem dX5_init_88 : decode cX5_init 88 = .ok (.iconst 0, 1) := by decide +kernel
theorem dX5_init_89 : decode cX5_init 89 = .ok (.istore_n 1, 1) := by decide +kernel
theorem dX5_init_90 : decode cX5_init 90 = .ok (.iload_n 1, 1) := by decide +kernel
theorem dX5_init_91 : decode cX5_init 91 = .ok (.iconst 4, 1) := by decide +kernel
theorem dX5_init_92 : decode cX5_init 92 = .ok (.if_icmp .ge 22, 3) := by decide +kernel
theorem dX5_init_95 : decode cX5_init 95 = .ok (.aload_n 0, 1) := by decide +kernel
theorem dX5_init_96 : decode cX5_init 96 = .ok (.getfield 44, 3) := by decide +kernel
theorem dX5_init_99 : decode cX5_init 99 = .ok (.iload_n 1, 1) := by decide +kernel
theorem dX5_init_100 : decode cX5_init 100 = .ok (.new 42, 3) := by decide +kernel
theorem dX5_init_103 : decode cX5_init 103 = .ok (.dup, 1) := by decide +kernel
theorem dX5_init_104 : decode cX5_init 104 = .ok (.invokespecial 52, 3) := by decide +kernel
theorem dX5_init_107 : decode cX5_init 107 = .ok (.aastore, 1) := by decide +kernel
theorem dX5_init_108 : decode cX5_init 108 = .ok (.iinc 1 1, 3) := by decide +kernel
theorem dX5_init_111 : decode cX5_init 111 = .ok (.goto (-21), 3) := by decide +kernel
theorem dX5_init_114 : decode cX5_init 114 = .ok (.return_, 1) := by decide +kernel
theorem dX5_wind_0 : decode cX5_wind 0 = .ok (.iload_n 1, 1) := by decide +kernel
theorem dX5_wind_1 : decode cX5_wind 1 = .ok (.iconst 0, 1) := by decide +kernel
theorem dX5_wind_2 : decode cX5_wind 2 = .ok (.bipush 11, 2) := by decide +kernel
theorem dX5_wind_4 : decode cX5_wind 4 = .ok (.invokestatic 53, 3) := by decide +kernel
theorem dX5_wind_7 : decode cX5_wind 7 = .ok (.ifCond .eq 13, 3) := by decide +kernel
theorem dX5_wind_10 : decode cX5_wind 10 = .ok (.iload_n 2, 1) := by decide +kernel
theorem dX5_wind_11 : decode cX5_wind 11 = .ok (.iconst 0, 1) := by decide +kernel
theorem dX5_wind_12 : decode cX5_wind 12 = .ok (.bipush 99, 2) := by decide +kernel
theorem dX5_wind_14 : decode cX5_wind 14 = .ok (.invokestatic 53, 3) := by decide +kernel
theorem dX5_wind_17 : decode cX5_wind 17 = .ok (.ifCond .ne 10, 3) := by decide +kernel
theorem dX5_wind_20 : decode cX5_wind 20 = .ok (.aload_n 0, 1) := by decide +kernel
theorem dX5_wind_21 : decode cX5_wind 21 = .ok (.ldc 57, 2) := by decide +kernel
theorem dX5_wind_23 : decode cX5_wind 23 = .ok (.invokevirtual 58, 3) := by decide +kernel
theorem dX5_wind_26 : decode cX5_wind 26 = .ok (.ireturn, 1) := by decide +kernel
theorem dX5_wind_27 : decode cX5_wind 27 = .ok (.aload_n 0, 1) := by decide +kernel
theorem dX5_wind_28 : decode cX5_wind 28 = .ok (.getfield 10, 3) := by decide +kernel
theorem dX5_wind_31 : decode cX5_wind 31 = .ok (.getfield 62, 3) := by decide +kernel
theorem dX5_wind_34 : decode cX5_wind 34 = .ok (.iload_n 1, 1) := by decide +kernel
theorem dX5_wind_35 : decode cX5_wind 35 = .ok (.iaload, 1) := by decide +kernel
theorem dX5_wind_36 : decode cX5_wind 36 = .ok (.istore_n 3, 1) := by decide +kernel
theorem dX5_wind_37 : decode cX5_wind 37 = .ok (.aload_n 0, 1) := by decide +kernel
theorem dX5_wind_38 : decode cX5_wind 38 = .ok (.getfield 10, 3) := by decide +kernel
theorem dX5_wind_41 : decode cX5_wind 41 = .ok (.getfield 62, 3) := by decide +kernel
theorem dX5_wind_44 : decode cX5_wind 44 = .ok (.iload_n 1, 1) := by decide +kernel
theorem dX5_wind_45 : decode cX5_wind 45 = .ok (.iload_n 2, 1) := by decide +kernel
theorem dX5_wind_46 : decode cX5_wind 46 = .ok (.iastore, 1) := by decide +kernel
theorem dX5_wind_47 : decode cX5_wind 47 = .ok (.iload_n 3, 1) := by decide +kernel
theorem dX5_wind_48 : decode cX5_wind 48 = .ok (.ireturn, 1) := by decide +kernel
theorem dX5_weight_0 : decode cX5_weight 0 = .ok (.iload_n 1, 1) := by decide +kernel
theorem dX5_weight_1 : decode cX5_weight 1 = .ok (.invokestatic 65, 3) := by decide +kernel
theorem dX5_weight_4 : decode cX5_weight 4 = .ok (.ifCond .eq 14, 3) := by decide +kernel
theorem dX5_weight_7 : decode cX5_weight 7 = .ok (.iload_n 2, 1) := by decide +kernel
theorem dX5_weight_8 : decode cX5_weight 8 = .ok (.iconst 0, 1) := by decide +kernel
theorem dX5_weight_9 : decode cX5_weight 9 = .ok (.sipush 999, 3) := by decide +kernel
theorem dX5_weight_12 : decode cX5_weight 12 = .ok (.invokestatic 53, 3) := by decide +kernel
theorem dX5_weight_15 : decode cX5_weight 15 = .ok (.ifCond .ne 10, 3) := by decide +kernel
theorem dX5_weight_18 : decode cX5_weight 18 = .ok (.aload_n 0, 1) := by decide +kernel
theorem dX5_weight_19 : decode cX5_weight 19 = .ok (.ldc 57, 2) := by decide +kernel
theorem dX5_weight_21 : decode cX5_weight 21 = .ok (.invokevirtual 58, 3) := by decide +kernel
theorem dX5_weight_24 : decode cX5_weight 24 = .ok (.ireturn, 1) := by decide +kernel
theorem dX5_weight_25 : decode cX5_weight 25 = .ok (.aload_n 0, 1) := by decide +kernel
theorem dX5_weight_26 : decode cX5_weight 26 = .ok (.getfield 10, 3) := by decide +kernel
theorem dX5_weight_29 : decode cX5_weight 29 = .ok (.getfield 69, 3) := by decide +kernel
theorem dX5_weight_32 : decode cX5_weight 32 = .ok (.iload_n 1, 1) := by decide +kernel
theorem dX5_weight_33 : decode cX5_weight 33 = .ok (.iaload, 1) := by decide +kernel
theorem dX5_weight_34 : decode cX5_weight 34 = .ok (.istore_n 3, 1) := by decide +kernel
theorem dX5_weight_35 : decode cX5_weight 35 = .ok (.aload_n 0, 1) := by decide +kernel
theorem dX5_weight_36 : decode cX5_weight 36 = .ok (.getfield 10, 3) := by decide +kernel
theorem dX5_weight_39 : decode cX5_weight 39 = .ok (.getfield 69, 3) := by decide +kernel
theorem dX5_weight_42 : decode cX5_weight 42 = .ok (.iload_n 1, 1) := by decide +kernel
theorem dX5_weight_43 : decode cX5_weight 43 = .ok (.iload_n 2, 1) := by decide +kernel
theorem dX5_weight_44 : decode cX5_weight 44 = .ok (.iastore, 1) := by decide +kernel
theorem dX5_weight_45 : decode cX5_weight 45 = .ok (.iload_n 3, 1) := by decide +kernel
theorem dX5_weight_46 : decode cX5_weight 46 = .ok (.ireturn, 1) := by decide +kernel
theorem dX5_raise_0 : decode cX5_raise 0 = .ok (.iload_n 1, 1) := by decide +kernel
theorem dX5_raise_1 : decode cX5_raise 1 = .ok (.invokestatic 65, 3) := by decide +kernel
theorem dX5_raise_4 : decode cX5_raise 4 = .ok (.ifCond .ne 10, 3) := by decide +kernel
theorem dX5_raise_7 : decode cX5_raise 7 = .ok (.aload_n 0, 1) := by decide +kernel
theorem dX5_raise_8 : decode cX5_raise 8 = .ok (.ldc 57, 2) := by decide +kernel
theorem dX5_raise_10 : decode cX5_raise 10 = .ok (.invokevirtual 58, 3) := by decide +kernel
theorem dX5_raise_13 : decode cX5_raise 13 = .ok (.ireturn, 1) := by decide +kernel
theorem dX5_raise_14 : decode cX5_raise 14 = .ok (.aload_n 0, 1) := by decide +kernel
theorem dX5_raise_15 : decode cX5_raise 15 = .ok (.getfield 10, 3) := by decide +kernel
theorem dX5_raise_18 : decode cX5_raise 18 = .ok (.iload_n 1, 1) := by decide +kernel
theorem dX5_raise_19 : decode cX5_raise 19 = .ok (.invokevirtual 72, 3) := by decide +kernel
theorem dX5_raise_22 : decode cX5_raise 22 = .ok (.ifCond .eq 7, 3) := by decide +kernel
theorem dX5_raise_25 : decode cX5_raise 25 = .ok (.iconst 0, 1) := by decide +kernel
theorem dX5_raise_26 : decode cX5_raise 26 = .ok (.goto 4, 3) := by decide +kernel
theorem dX5_raise_29 : decode cX5_raise 29 = .ok (.iconst 1, 1) := by decide +kernel
theorem dX5_raise_30 : decode cX5_raise 30 = .ok (.istore_n 2, 1) := by decide +kernel
theorem dX5_raise_31 : decode cX5_raise 31 = .ok (.aload_n 0, 1) := by decide +kernel
theorem dX5_raise_32 : decode cX5_raise 32 = .ok (.getfield 10, 3) := by decide +kernel
theorem dX5_raise_35 : decode cX5_raise 35 = .ok (.iload_n 1, 1) := by decide +kernel
theorem dX5_raise_36 : decode cX5_raise 36 = .ok (.iconst 1, 1) := by decide +kernel
theorem dX5_raise_37 : decode cX5_raise 37 = .ok (.invokevirtual 75, 3) := by decide +kernel
theorem dX5_raise_40 : decode cX5_raise 40 = .ok (.iload_n 2, 1) := by decide +kernel
theorem dX5_raise_41 : decode cX5_raise 41 = .ok (.ireturn, 1) := by decide +kernel
theorem dX5_mastOf_0 : decode cX5_mastOf 0 = .ok (.iload_n 1, 1) := by decide +kernel
theorem dX5_mastOf_1 : decode cX5_mastOf 1 = .ok (.invokestatic 65, 3) := by decide +kernel
theorem dX5_mastOf_4 : decode cX5_mastOf 4 = .ok (.ifCond .ne 10, 3) := by decide +kernel
theorem dX5_mastOf_7 : decode cX5_mastOf 7 = .ok (.aload_n 0, 1) := by decide +kernel
theorem dX5_mastOf_8 : decode cX5_mastOf 8 = .ok (.ldc 57, 2) := by decide +kernel
theorem dX5_mastOf_10 : decode cX5_mastOf 10 = .ok (.invokevirtual 58, 3) := by decide +kernel
theorem dX5_mastOf_13 : decode cX5_mastOf 13 = .ok (.ireturn, 1) := by decide +kernel
theorem dX5_mastOf_14 : decode cX5_mastOf 14 = .ok (.iload_n 2, 1) := by decide +kernel
theorem dX5_mastOf_15 : decode cX5_mastOf 15 = .ok (.tableswitch 108 0 5 #[37, 47, 64, 73, 90, 99], 37) := by decide +kernel
theorem dX5_mastOf_52 : decode cX5_mastOf 52 = .ok (.aload_n 0, 1) := by decide +kernel
theorem dX5_mastOf_53 : decode cX5_mastOf 53 = .ok (.getfield 10, 3) := by decide +kernel
theorem dX5_mastOf_56 : decode cX5_mastOf 56 = .ok (.getfield 69, 3) := by decide +kernel
theorem dX5_mastOf_59 : decode cX5_mastOf 59 = .ok (.iload_n 1, 1) := by decide +kernel
theorem dX5_mastOf_60 : decode cX5_mastOf 60 = .ok (.iaload, 1) := by decide +kernel
theorem dX5_mastOf_61 : decode cX5_mastOf 61 = .ok (.ireturn, 1) := by decide +kernel
theorem dX5_mastOf_62 : decode cX5_mastOf 62 = .ok (.aload_n 0, 1) := by decide +kernel
theorem dX5_mastOf_63 : decode cX5_mastOf 63 = .ok (.getfield 10, 3) := by decide +kernel
theorem dX5_mastOf_66 : decode cX5_mastOf 66 = .ok (.iload_n 1, 1) := by decide +kernel
theorem dX5_mastOf_67 : decode cX5_mastOf 67 = .ok (.invokevirtual 72, 3) := by decide +kernel
theorem dX5_mastOf_70 : decode cX5_mastOf 70 = .ok (.ifCond .eq 7, 3) := by decide +kernel
theorem dX5_mastOf_73 : decode cX5_mastOf 73 = .ok (.iconst 1, 1) := by decide +kernel
theorem dX5_mastOf_74 : decode cX5_mastOf 74 = .ok (.goto 4, 3) := by decide +kernel
theorem dX5_mastOf_77 : decode cX5_mastOf 77 = .ok (.iconst 0, 1) := by decide +kernel
theorem dX5_mastOf_78 : decode cX5_mastOf 78 = .ok (.ireturn, 1) := by decide +kernel
theorem dX5_mastOf_79 : decode cX5_mastOf 79 = .ok (.aload_n 0, 1) := by decide +kernel
theorem dX5_mastOf_80 : decode cX5_mastOf 80 = .ok (.getfield 10, 3) := by decide +kernel
theorem dX5_mastOf_83 : decode cX5_mastOf 83 = .ok (.iload_n 1, 1) := by decide +kernel
theorem dX5_mastOf_84 : decode cX5_mastOf 84 = .ok (.invokevirtual 79, 3) := by decide +kernel
theorem dX5_mastOf_87 : decode cX5_mastOf 87 = .ok (.ireturn, 1) := by decide +kernel
theorem dX5_mastOf_88 : decode cX5_mastOf 88 = .ok (.aload_n 0, 1) := by decide +kernel
theorem dX5_mastOf_89 : decode cX5_mastOf 89 = .ok (.getfield 10, 3) := by decide +kernel
theorem dX5_mastOf_92 : decode cX5_mastOf 92 = .ok (.iload_n 1, 1) := by decide +kernel
theorem dX5_mastOf_93 : decode cX5_mastOf 93 = .ok (.invokevirtual 79, 3) := by decide +kernel
theorem dX5_mastOf_96 : decode cX5_mastOf 96 = .ok (.aload_n 0, 1) := by decide +kernel
theorem dX5_mastOf_97 : decode cX5_mastOf 97 = .ok (.getfield 10, 3) := by decide +kernel
theorem dX5_mastOf_100 : decode cX5_mastOf 100 = .ok (.invokevirtual 82, 3) := by decide +kernel
theorem dX5_mastOf_103 : decode cX5_mastOf 103 = .ok (.iand, 1) := by decide +kernel
theorem dX5_mastOf_104 : decode cX5_mastOf 104 = .ok (.ireturn, 1) := by decide +kernel
theorem dX5_mastOf_105 : decode cX5_mastOf 105 = .ok (.aload_n 0, 1) := by decide +kernel
theorem dX5_mastOf_106 : decode cX5_mastOf 106 = .ok (.getfield 10, 3) := by decide +kernel
theorem dX5_mastOf_109 : decode cX5_mastOf 109 = .ok (.iload_n 1, 1) := by decide +kernel
theorem dX5_mastOf_110 : decode cX5_mastOf 110 = .ok (.invokevirtual 86, 3) := by decide +kernel
theorem dX5_mastOf_113 : decode cX5_mastOf 113 = .ok (.ireturn, 1) := by decide +kernel
theorem dX5_mastOf_114 : decode cX5_mastOf 114 = .ok (.aload_n 0, 1) := by decide +kernel
theorem dX5_mastOf_115 : decode cX5_mastOf 115 = .ok (.getfield 10, 3) := by decide +kernel
theorem dX5_mastOf_118 : decode cX5_mastOf 118 = .ok (.iload_n 1, 1) := by decide +kernel
theorem dX5_mastOf_119 : decode cX5_mastOf 119 = .ok (.invokevirtual 89, 3) := by decide +kernel
theorem dX5_mastOf_122 : decode cX5_mastOf 122 = .ok (.ireturn, 1) := by decide +kernel
theorem dX5_mastOf_123 : decode cX5_mastOf 123 = .ok (.aload_n 0, 1) := by decide +kernel
theorem dX5_mastOf_124 : decode cX5_mastOf 124 = .ok (.ldc 57, 2) := by decide +kernel
theorem dX5_mastOf_126 : decode cX5_mastOf 126 = .ok (.invokevirtual 58, 3) := by decide +kernel
theorem dX5_mastOf_129 : decode cX5_mastOf 129 = .ok (.ireturn, 1) := by decide +kernel
theorem dX5_now_0 : decode cX5_now 0 = .ok (.iload_n 1, 1) := by decide +kernel
theorem dX5_now_1 : decode cX5_now 1 = .ok (.tableswitch 87 0 5 #[39, 47, 55, 63, 71, 79], 39) := by decide +kernel
theorem dX5_now_40 : decode cX5_now 40 = .ok (.aload_n 0, 1) := by decide +kernel
theorem dX5_now_41 : decode cX5_now 41 = .ok (.getfield 10, 3) := by decide +kernel
theorem dX5_now_44 : decode cX5_now 44 = .ok (.getfield 92, 3) := by decide +kernel
theorem dX5_now_47 : decode cX5_now 47 = .ok (.ireturn, 1) := by decide +kernel
theorem dX5_now_48 : decode cX5_now 48 = .ok (.aload_n 0, 1) := by decide +kernel
theorem dX5_now_49 : decode cX5_now 49 = .ok (.getfield 10, 3) := by decide +kernel
theorem dX5_now_52 : decode cX5_now 52 = .ok (.invokevirtual 96, 3) := by decide +kernel
theorem dX5_now_55 : decode cX5_now 55 = .ok (.ireturn, 1) := by decide +kernel
theorem dX5_now_56 : decode cX5_now 56 = .ok (.aload_n 0, 1) := by decide +kernel
theorem dX5_now_57 : decode cX5_now 57 = .ok (.getfield 10, 3) := by decide +kernel
theorem dX5_now_60 : decode cX5_now 60 = .ok (.invokevirtual 99, 3) := by decide +kernel
theorem dX5_now_63 : decode cX5_now 63 = .ok (.ireturn, 1) := by decide +kernel
theorem dX5_now_64 : decode cX5_now 64 = .ok (.aload_n 0, 1) := by decide +kernel
theorem dX5_now_65 : decode cX5_now 65 = .ok (.getfield 10, 3) := by decide +kernel
theorem dX5_now_68 : decode cX5_now 68 = .ok (.getfield 102, 3) := by decide +kernel
theorem dX5_now_71 : decode cX5_now 71 = .ok (.ireturn, 1) := by decide +kernel
theorem dX5_now_72 : decode cX5_now 72 = .ok (.aload_n 0, 1) := by decide +kernel
theorem dX5_now_73 : decode cX5_now 73 = .ok (.getfield 10, 3) := by decide +kernel
theorem dX5_now_76 : decode cX5_now 76 = .ok (.invokevirtual 82, 3) := by decide +kernel
theorem dX5_now_79 : decode cX5_now 79 = .ok (.ireturn, 1) := by decide +kernel
theorem dX5_now_80 : decode cX5_now 80 = .ok (.aload_n 0, 1) := by decide +kernel
theorem dX5_now_81 : decode cX5_now 81 = .ok (.getfield 10, 3) := by decide +kernel
theorem dX5_now_84 : decode cX5_now 84 = .ok (.invokevirtual 105, 3) := by decide +kernel
theorem dX5_now_87 : decode cX5_now 87 = .ok (.ireturn, 1) := by decide +kernel
theorem dX5_now_88 : decode cX5_now 88 = .ok (.aload_n 0, 1) := by decide +kernel
theorem dX5_now_89 : decode cX5_now 89 = .ok (.ldc 57, 2) := by decide +kernel
theorem dX5_now_91 : decode cX5_now 91 = .ok (.invokevirtual 58, 3) := by decide +kernel
theorem dX5_now_94 : decode cX5_now 94 = .ok (.ireturn, 1) := by decide +kernel
theorem dX5_knot_0 : decode cX5_knot 0 = .ok (.iload_n 1, 1) := by decide +kernel
theorem dX5_knot_1 : decode cX5_knot 1 = .ok (.invokestatic 108, 3) := by decide +kernel
theorem dX5_knot_4 : decode cX5_knot 4 = .ok (.ifCond .eq 10, 3) := by decide +kernel
theorem dX5_knot_7 : decode cX5_knot 7 = .ok (.iload_n 2, 1) := by decide +kernel
theorem dX5_knot_8 : decode cX5_knot 8 = .ok (.invokestatic 65, 3) := by decide +kernel
theorem dX5_knot_11 : decode cX5_knot 11 = .ok (.ifCond .ne 10, 3) := by decide +kernel
theorem dX5_knot_14 : decode cX5_knot 14 = .ok (.aload_n 0, 1) := by decide +kernel
theorem dX5_knot_15 : decode cX5_knot 15 = .ok (.ldc 57, 2) := by decide +kernel
theorem dX5_knot_17 : decode cX5_knot 17 = .ok (.invokevirtual 58, 3) := by decide +kernel
theorem dX5_knot_20 : decode cX5_knot 20 = .ok (.ireturn, 1) := by decide +kernel
theorem dX5_knot_21 : decode cX5_knot 21 = .ok (.aload_n 0, 1) := by decide +kernel
theorem dX5_knot_22 : decode cX5_knot 22 = .ok (.getfield 10, 3) := by decide +kernel
theorem dX5_knot_25 : decode cX5_knot 25 = .ok (.invokevirtual 111, 3) := by decide +kernel
theorem dX5_knot_28 : decode cX5_knot 28 = .ok (.ifCond .eq 10, 3) := by decide +kernel
theorem dX5_knot_31 : decode cX5_knot 31 = .ok (.aload_n 0, 1) := by decide +kernel
theorem dX5_knot_32 : decode cX5_knot 32 = .ok (.ldc 115, 2) := by decide +kernel
theorem dX5_knot_34 : decode cX5_knot 34 = .ok (.invokevirtual 58, 3) := by decide +kernel
theorem dX5_knot_37 : decode cX5_knot 37 = .ok (.ireturn, 1) := by decide +kernel
theorem dX5_knot_38 : decode cX5_knot 38 = .ok (.aload_n 0, 1) := by decide +kernel
theorem dX5_knot_39 : decode cX5_knot 39 = .ok (.getfield 10, 3) := by decide +kernel
theorem dX5_knot_42 : decode cX5_knot 42 = .ok (.iload_n 1, 1) := by decide +kernel
theorem dX5_knot_43 : decode cX5_knot 43 = .ok (.iload_n 2, 1) := by decide +kernel
theorem dX5_knot_44 : decode cX5_knot 44 = .ok (.invokevirtual 116, 3) := by decide +kernel
theorem dX5_knot_47 : decode cX5_knot 47 = .ok (.ireturn, 1) := by decide +kernel
theorem dX5_of_0 : decode cX5_of 0 = .ok (.aload_n 0, 1) := by decide +kernel
theorem dX5_of_1 : decode cX5_of 1 = .ok (.iload_n 1, 1) := by decide +kernel
theorem dX5_of_2 : decode cX5_of 2 = .ok (.invokevirtual 120, 3) := by decide +kernel
theorem dX5_of_5 : decode cX5_of 5 = .ok (.ifCond .ne 10, 3) := by decide +kernel
theorem dX5_of_8 : decode cX5_of 8 = .ok (.aload_n 0, 1) := by decide +kernel
theorem dX5_of_9 : decode cX5_of 9 = .ok (.ldc 57, 2) := by decide +kernel
theorem dX5_of_11 : decode cX5_of 11 = .ok (.invokevirtual 58, 3) := by decide +kernel
theorem dX5_of_14 : decode cX5_of 14 = .ok (.ireturn, 1) := by decide +kernel
theorem dX5_of_15 : decode cX5_of 15 = .ok (.aload_n 0, 1) := by decide +kernel
theorem dX5_of_16 : decode cX5_of 16 = .ok (.getfield 10, 3) := by decide +kernel
theorem dX5_of_19 : decode cX5_of 19 = .ok (.getfield 123, 3) := by decide +kernel
theorem dX5_of_22 : decode cX5_of 22 = .ok (.iload_n 1, 1) := by decide +kernel
theorem dX5_of_23 : decode cX5_of 23 = .ok (.aaload, 1) := by decide +kernel
theorem dX5_of_24 : decode cX5_of 24 = .ok (.astore_n 3, 1) := by decide +kernel
theorem dX5_of_25 : decode cX5_of 25 = .ok (.iload_n 2, 1) := by decide +kernel
theorem dX5_of_26 : decode cX5_of 26 = .ok (.tableswitch 132 0 8 #[50, 55, 60, 65, 78, 83, 92, 107, 115], 50) := by decide +kernel
theorem dX5_of_76 : decode cX5_of 76 = .ok (.aload_n 3, 1) := by decide +kernel
theorem dX5_of_77 : decode cX5_of 77 = .ok (.getfield 127, 3) := by decide +kernel
theorem dX5_of_80 : decode cX5_of 80 = .ok (.ireturn, 1) := by decide +kernel
theorem dX5_of_81 : decode cX5_of 81 = .ok (.aload_n 3, 1) := by decide +kernel
theorem dX5_of_82 : decode cX5_of 82 = .ok (.getfield 132, 3) := by decide +kernel
theorem dX5_of_85 : decode cX5_of 85 = .ok (.ireturn, 1) := by decide +kernel
theorem dX5_of_86 : decode cX5_of 86 = .ok (.aload_n 3, 1) := by decide +kernel
theorem dX5_of_87 : decode cX5_of 87 = .ok (.getfield 135, 3) := by decide +kernel
theorem dX5_of_90 : decode cX5_of 90 = .ok (.ireturn, 1) := by decide +kernel
theorem dX5_of_91 : decode cX5_of 91 = .ok (.aload_n 3, 1) := by decide +kernel
theorem dX5_of_92 : decode cX5_of 92 = .ok (.getfield 138, 3) := by decide +kernel
theorem dX5_of_95 : decode cX5_of 95 = .ok (.ifCond .eq 7, 3) := by decide +kernel
theorem dX5_of_98 : decode cX5_of 98 = .ok (.iconst 1, 1) := by decide +kernel
theorem dX5_of_99 : decode cX5_of 99 = .ok (.goto 4, 3) := by decide +kernel
theorem dX5_of_102 : decode cX5_of 102 = .ok (.iconst 0, 1) := by decide +kernel
theorem dX5_of_103 : decode cX5_of 103 = .ok (.ireturn, 1) := by decide +kernel
theorem dX5_of_104 : decode cX5_of 104 = .ok (.aload_n 3, 1) := by decide +kernel
theorem dX5_of_105 : decode cX5_of 105 = .ok (.getfield 141, 3) := by decide +kernel
theorem dX5_of_108 : decode cX5_of 108 = .ok (.ireturn, 1) := by decide +kernel
theorem dX5_of_109 : decode cX5_of 109 = .ok (.aload_n 0, 1) := by decide +kernel
theorem dX5_of_110 : decode cX5_of 110 = .ok (.getfield 10, 3) := by decide +kernel
theorem dX5_of_113 : decode cX5_of 113 = .ok (.aload_n 3, 1) := by decide +kernel
theorem dX5_of_114 : decode cX5_of 114 = .ok (.invokevirtual 144, 3) := by decide +kernel
theorem dX5_of_117 : decode cX5_of 117 = .ok (.ireturn, 1) := by decide +kernel
theorem dX5_of_118 : decode cX5_of 118 = .ok (.bipush 100, 2) := by decide +kernel
theorem dX5_of_120 : decode cX5_of 120 = .ok (.aload_n 3, 1) := by decide +kernel
theorem dX5_of_121 : decode cX5_of 121 = .ok (.aload_n 0, 1) := by decide +kernel
theorem dX5_of_122 : decode cX5_of 122 = .ok (.getfield 10, 3) := by decide +kernel
theorem dX5_of_125 : decode cX5_of 125 = .ok (.invokevirtual 99, 3) := by decide +kernel
theorem dX5_of_128 : decode cX5_of 128 = .ok (.invokevirtual 148, 3) := by decide +kernel
theorem dX5_of_131 : decode cX5_of 131 = .ok (.iadd, 1) := by decide +kernel
theorem dX5_of_132 : decode cX5_of 132 = .ok (.ireturn, 1) := by decide +kernel
theorem dX5_of_133 : decode cX5_of 133 = .ok (.bipush 100, 2) := by decide +kernel
theorem dX5_of_135 : decode cX5_of 135 = .ok (.aload_n 3, 1) := by decide +kernel
theorem dX5_of_136 : decode cX5_of 136 = .ok (.invokevirtual 151, 3) := by decide +kernel
theorem dX5_of_139 : decode cX5_of 139 = .ok (.iadd, 1) := by decide +kernel
theorem dX5_of_140 : decode cX5_of 140 = .ok (.ireturn, 1) := by decide +kernel
theorem dX5_of_141 : decode cX5_of 141 = .ok (.aload_n 0, 1) := by decide +kernel
theorem dX5_of_142 : decode cX5_of 142 = .ok (.getfield 10, 3) := by decide +kernel
theorem dX5_of_145 : decode cX5_of 145 = .ok (.aload_n 3, 1) := by decide +kernel
theorem dX5_of_146 : decode cX5_of 146 = .ok (.invokevirtual 154, 3) := by decide +kernel
theorem dX5_of_149 : decode cX5_of 149 = .ok (.ifCond .eq 7, 3) := by decide +kernel
theorem dX5_of_152 : decode cX5_of 152 = .ok (.iconst 1, 1) := by decide +kernel
theorem dX5_of_153 : decode cX5_of 153 = .ok (.goto 4, 3) := by decide +kernel
theorem dX5_of_156 : decode cX5_of 156 = .ok (.iconst 0, 1) := by decide +kernel
theorem dX5_of_157 : decode cX5_of 157 = .ok (.ireturn, 1) := by decide +kernel
theorem dX5_of_158 : decode cX5_of 158 = .ok (.aload_n 0, 1) := by decide +kernel
theorem dX5_of_159 : decode cX5_of 159 = .ok (.ldc 57, 2) := by decide +kernel
theorem dX5_of_161 : decode cX5_of 161 = .ok (.invokevirtual 58, 3) := by decide +kernel
theorem dX5_of_164 : decode cX5_of 164 = .ok (.ireturn, 1) := by decide +kernel
theorem dX5_set_0 : decode cX5_set 0 = .ok (.aload_n 0, 1) := by decide +kernel
theorem dX5_set_1 : decode cX5_set 1 = .ok (.iload_n 1, 1) := by decide +kernel
theorem dX5_set_2 : decode cX5_set 2 = .ok (.invokevirtual 120, 3) := by decide +kernel
theorem dX5_set_5 : decode cX5_set 5 = .ok (.ifCond .ne 10, 3) := by decide +kernel
theorem dX5_set_8 : decode cX5_set 8 = .ok (.aload_n 0, 1) := by decide +kernel
theorem dX5_set_9 : decode cX5_set 9 = .ok (.ldc 57, 2) := by decide +kernel
theorem dX5_set_11 : decode cX5_set 11 = .ok (.invokevirtual 58, 3) := by decide +kernel
theorem dX5_set_14 : decode cX5_set 14 = .ok (.ireturn, 1) := by decide +kernel
theorem dX5_set_15 : decode cX5_set 15 = .ok (.aload_n 0, 1) := by decide +kernel
theorem dX5_set_16 : decode cX5_set 16 = .ok (.getfield 10, 3) := by decide +kernel
theorem dX5_set_19 : decode cX5_set 19 = .ok (.getfield 123, 3) := by decide +kernel
theorem dX5_set_22 : decode cX5_set 22 = .ok (.iload_n 1, 1) := by decide +kernel
theorem dX5_set_23 : decode cX5_set 23 = .ok (.aaload, 1) := by decide +kernel
theorem dX5_set_24 : decode cX5_set 24 = .ok (.astore 4, 2) := by decide +kernel
theorem dX5_set_26 : decode cX5_set 26 = .ok (.iload_n 2, 1) := by decide +kernel
theorem dX5_set_27 : decode cX5_set 27 = .ok (.iconst 1, 1) := by decide +kernel
theorem dX5_set_28 : decode cX5_set 28 = .ok (.if_icmp .ne 26, 3) := by decide +kernel
theorem dX5_set_31 : decode cX5_set 31 = .ok (.iload_n 3, 1) := by decide +kernel
theorem dX5_set_32 : decode cX5_set 32 = .ok (.invokestatic 65, 3) := by decide +kernel
theorem dX5_set_35 : decode cX5_set 35 = .ok (.ifCond .eq 19, 3) := by decide +kernel
theorem dX5_set_38 : decode cX5_set 38 = .ok (.aload 4, 2) := by decide +kernel
theorem dX5_set_40 : decode cX5_set 40 = .ok (.getfield 132, 3) := by decide +kernel
theorem dX5_set_43 : decode cX5_set 43 = .ok (.istore 5, 2) := by decide +kernel
theorem dX5_set_45 : decode cX5_set 45 = .ok (.aload 4, 2) := by decide +kernel
theorem dX5_set_47 : decode cX5_set 47 = .ok (.iload_n 3, 1) := by decide +kernel
theorem dX5_set_48 : decode cX5_set 48 = .ok (.putfield 132, 3) := by decide +kernel
theorem dX5_set_51 : decode cX5_set 51 = .ok (.iload 5, 2) := by decide +kernel
theorem dX5_set_53 : decode cX5_set 53 = .ok (.ireturn, 1) := by decide +kernel
theorem dX5_set_54 : decode cX5_set 54 = .ok (.iload_n 2, 1) := by decide +kernel
theorem dX5_set_55 : decode cX5_set 55 = .ok (.iconst 2, 1) := by decide +kernel
theorem dX5_set_56 : decode cX5_set 56 = .ok (.if_icmp .ne 29, 3) := by decide +kernel
theorem dX5_set_59 : decode cX5_set 59 = .ok (.iload_n 3, 1) := by decide +kernel
theorem dX5_set_60 : decode cX5_set 60 = .ok (.iconst 0, 1) := by decide +kernel
theorem dX5_set_61 : decode cX5_set 61 = .ok (.bipush 99, 2) := by decide +kernel
theorem dX5_set_63 : decode cX5_set 63 = .ok (.invokestatic 53, 3) := by decide +kernel
theorem dX5_set_66 : decode cX5_set 66 = .ok (.ifCond .eq 19, 3) := by decide +kernel
theorem dX5_set_69 : decode cX5_set 69 = .ok (.aload 4, 2) := by decide +kernel
theorem dX5_set_71 : decode cX5_set 71 = .ok (.getfield 135, 3) := by decide +kernel
theorem dX5_set_74 : decode cX5_set 74 = .ok (.istore 5, 2) := by decide +kernel
theorem dX5_set_76 : decode cX5_set 76 = .ok (.aload 4, 2) := by decide +kernel
theorem dX5_set_78 : decode cX5_set 78 = .ok (.iload_n 3, 1) := by decide +kernel
theorem dX5_set_79 : decode cX5_set 79 = .ok (.putfield 135, 3) := by decide +kernel
theorem dX5_set_82 : decode cX5_set 82 = .ok (.iload 5, 2) := by decide +kernel
theorem dX5_set_84 : decode cX5_set 84 = .ok (.ireturn, 1) := by decide +kernel
theorem dX5_set_85 : decode cX5_set 85 = .ok (.iload_n 2, 1) := by decide +kernel
theorem dX5_set_86 : decode cX5_set 86 = .ok (.iconst 4, 1) := by decide +kernel
theorem dX5_set_87 : decode cX5_set 87 = .ok (.if_icmp .ne 30, 3) := by decide +kernel
theorem dX5_set_90 : decode cX5_set 90 = .ok (.iload_n 3, 1) := by decide +kernel
theorem dX5_set_91 : decode cX5_set 91 = .ok (.iconst 0, 1) := by decide +kernel
theorem dX5_set_92 : decode cX5_set 92 = .ok (.sipush 9999, 3) := by decide +kernel
theorem dX5_set_95 : decode cX5_set 95 = .ok (.invokestatic 53, 3) := by decide +kernel
theorem dX5_set_98 : decode cX5_set 98 = .ok (.ifCond .eq 19, 3) := by decide +kernel
theorem dX5_set_101 : decode cX5_set 101 = .ok (.aload 4, 2) := by decide +kernel
theorem dX5_set_103 : decode cX5_set 103 = .ok (.getfield 141, 3) := by decide +kernel
theorem dX5_set_106 : decode cX5_set 106 = .ok (.istore 5, 2) := by decide +kernel
theorem dX5_set_108 : decode cX5_set 108 = .ok (.aload 4, 2) := by decide +kernel
theorem dX5_set_110 : decode cX5_set 110 = .ok (.iload_n 3, 1) := by decide +kernel
theorem dX5_set_111 : decode cX5_set 111 = .ok (.putfield 141, 3) := by decide +kernel
theorem dX5_set_114 : decode cX5_set 114 = .ok (.iload 5, 2) := by decide +kernel
theorem dX5_set_116 : decode cX5_set 116 = .ok (.ireturn, 1) := by decide +kernel
theorem dX5_set_117 : decode cX5_set 117 = .ok (.aload_n 0, 1) := by decide +kernel
theorem dX5_set_118 : decode cX5_set 118 = .ok (.ldc 57, 2) := by decide +kernel
theorem dX5_set_120 : decode cX5_set 120 = .ok (.invokevirtual 58, 3) := by decide +kernel
theorem dX5_set_123 : decode cX5_set 123 = .ok (.ireturn, 1) := by decide +kernel
theorem dX5_turn_0 : decode cX5_turn 0 = .ok (.aload_n 0, 1) := by decide +kernel
theorem dX5_turn_1 : decode cX5_turn 1 = .ok (.iload_n 1, 1) := by decide +kernel
theorem dX5_turn_2 : decode cX5_turn 2 = .ok (.invokevirtual 120, 3) := by decide +kernel
theorem dX5_turn_5 : decode cX5_turn 5 = .ok (.ifCond .eq 10, 3) := by decide +kernel
theorem dX5_turn_8 : decode cX5_turn 8 = .ok (.iload_n 2, 1) := by decide +kernel
theorem dX5_turn_9 : decode cX5_turn 9 = .ok (.invokestatic 108, 3) := by decide +kernel
theorem dX5_turn_12 : decode cX5_turn 12 = .ok (.ifCond .ne 10, 3) := by decide +kernel
theorem dX5_turn_15 : decode cX5_turn 15 = .ok (.aload_n 0, 1) := by decide +kernel
theorem dX5_turn_16 : decode cX5_turn 16 = .ok (.ldc 57, 2) := by decide +kernel
theorem dX5_turn_18 : decode cX5_turn 18 = .ok (.invokevirtual 58, 3) := by decide +kernel
theorem dX5_turn_21 : decode cX5_turn 21 = .ok (.ireturn, 1) := by decide +kernel
theorem dX5_turn_22 : decode cX5_turn 22 = .ok (.aload_n 0, 1) := by decide +kernel
theorem dX5_turn_23 : decode cX5_turn 23 = .ok (.getfield 10, 3) := by decide +kernel
theorem dX5_turn_26 : decode cX5_turn 26 = .ok (.getfield 123, 3) := by decide +kernel
theorem dX5_turn_29 : decode cX5_turn 29 = .ok (.iload_n 1, 1) := by decide +kernel
theorem dX5_turn_30 : decode cX5_turn 30 = .ok (.aaload, 1) := by decide +kernel
theorem dX5_turn_31 : decode cX5_turn 31 = .ok (.getfield 127, 3) := by decide +kernel
theorem dX5_turn_34 : decode cX5_turn 34 = .ok (.istore_n 3, 1) := by decide +kernel
theorem dX5_turn_35 : decode cX5_turn 35 = .ok (.aload_n 0, 1) := by decide +kernel
theorem dX5_turn_36 : decode cX5_turn 36 = .ok (.getfield 10, 3) := by decide +kernel
theorem dX5_turn_39 : decode cX5_turn 39 = .ok (.getfield 123, 3) := by decide +kernel
theorem dX5_turn_42 : decode cX5_turn 42 = .ok (.iload_n 1, 1) := by decide +kernel
theorem dX5_turn_43 : decode cX5_turn 43 = .ok (.aaload, 1) := by decide +kernel
theorem dX5_turn_44 : decode cX5_turn 44 = .ok (.iload_n 2, 1) := by decide +kernel
theorem dX5_turn_45 : decode cX5_turn 45 = .ok (.putfield 127, 3) := by decide +kernel
theorem dX5_turn_48 : decode cX5_turn 48 = .ok (.iload_n 3, 1) := by decide +kernel
theorem dX5_turn_49 : decode cX5_turn 49 = .ok (.ireturn, 1) := by decide +kernel
theorem dX5_as_0 : decode cX5_as 0 = .ok (.aload_n 0, 1) := by decide +kernel
theorem dX5_as_1 : decode cX5_as 1 = .ok (.iload_n 1, 1) := by decide +kernel
theorem dX5_as_2 : decode cX5_as 2 = .ok (.invokevirtual 120, 3) := by decide +kernel
theorem dX5_as_5 : decode cX5_as 5 = .ok (.ifCond .eq 10, 3) := by decide +kernel
theorem dX5_as_8 : decode cX5_as 8 = .ok (.iload_n 2, 1) := by decide +kernel
theorem dX5_as_9 : decode cX5_as 9 = .ok (.invokestatic 108, 3) := by decide +kernel
theorem dX5_as_12 : decode cX5_as 12 = .ok (.ifCond .ne 10, 3) := by decide +kernel
theorem dX5_as_15 : decode cX5_as 15 = .ok (.aload_n 0, 1) := by decide +kernel
theorem dX5_as_16 : decode cX5_as 16 = .ok (.ldc 57, 2) := by decide +kernel
theorem dX5_as_18 : decode cX5_as 18 = .ok (.invokevirtual 58, 3) := by decide +kernel
theorem dX5_as_21 : decode cX5_as 21 = .ok (.ireturn, 1) := by decide +kernel
theorem dX5_as_22 : decode cX5_as 22 = .ok (.aload_n 0, 1) := by decide +kernel
theorem dX5_as_23 : decode cX5_as 23 = .ok (.getfield 10, 3) := by decide +kernel
theorem dX5_as_26 : decode cX5_as 26 = .ok (.getfield 123, 3) := by decide +kernel
theorem dX5_as_29 : decode cX5_as 29 = .ok (.iload_n 1, 1) := by decide +kernel
theorem dX5_as_30 : decode cX5_as 30 = .ok (.aaload, 1) := by decide +kernel
theorem dX5_as_31 : decode cX5_as 31 = .ok (.astore_n 3, 1) := by decide +kernel
theorem dX5_as_32 : decode cX5_as 32 = .ok (.aload_n 3, 1) := by decide +kernel
theorem dX5_as_33 : decode cX5_as 33 = .ok (.iload_n 2, 1) := by decide +kernel
theorem dX5_as_34 : decode cX5_as 34 = .ok (.invokevirtual 158, 3) := by decide +kernel
theorem dX5_as_37 : decode cX5_as 37 = .ok (.ifCond .eq 10, 3) := by decide +kernel
theorem dX5_as_40 : decode cX5_as 40 = .ok (.aload_n 3, 1) := by decide +kernel
theorem dX5_as_41 : decode cX5_as 41 = .ok (.getfield 135, 3) := by decide +kernel
theorem dX5_as_44 : decode cX5_as 44 = .ok (.goto 9, 3) := by decide +kernel
theorem dX5_as_47 : decode cX5_as 47 = .ok (.aload_n 0, 1) := by decide +kernel
theorem dX5_as_48 : decode cX5_as 48 = .ok (.ldc 161, 2) := by decide +kernel
theorem dX5_as_50 : decode cX5_as 50 = .ok (.invokevirtual 58, 3) := by decide +kernel
theorem dX5_as_53 : decode cX5_as 53 = .ok (.ireturn, 1) := by decide +kernel
theorem dX5_tease_0 : decode cX5_tease 0 = .ok (.aload_n 0, 1) := by decide +kernel
theorem dX5_tease_1 : decode cX5_tease 1 = .ok (.iload_n 1, 1) := by decide +kernel
theorem dX5_tease_2 : decode cX5_tease 2 = .ok (.invokevirtual 120, 3) := by decide +kernel
theorem dX5_tease_5 : decode cX5_tease 5 = .ok (.ifCond .ne 10, 3) := by decide +kernel
theorem dX5_tease_8 : decode cX5_tease 8 = .ok (.aload_n 0, 1) := by decide +kernel
theorem dX5_tease_9 : decode cX5_tease 9 = .ok (.ldc 57, 2) := by decide +kernel
theorem dX5_tease_11 : decode cX5_tease 11 = .ok (.invokevirtual 58, 3) := by decide +kernel
theorem dX5_tease_14 : decode cX5_tease 14 = .ok (.ireturn, 1) := by decide +kernel
theorem dX5_tease_15 : decode cX5_tease 15 = .ok (.aload_n 0, 1) := by decide +kernel
theorem dX5_tease_16 : decode cX5_tease 16 = .ok (.getfield 10, 3) := by decide +kernel
theorem dX5_tease_19 : decode cX5_tease 19 = .ok (.getfield 123, 3) := by decide +kernel
theorem dX5_tease_22 : decode cX5_tease 22 = .ok (.iload_n 1, 1) := by decide +kernel
theorem dX5_tease_23 : decode cX5_tease 23 = .ok (.aaload, 1) := by decide +kernel
theorem dX5_tease_24 : decode cX5_tease 24 = .ok (.invokevirtual 162, 3) := by decide +kernel
theorem dX5_tease_27 : decode cX5_tease 27 = .ok (.aload_n 0, 1) := by decide +kernel
theorem dX5_tease_28 : decode cX5_tease 28 = .ok (.getfield 10, 3) := by decide +kernel
theorem dX5_tease_31 : decode cX5_tease 31 = .ok (.getfield 123, 3) := by decide +kernel
theorem dX5_tease_34 : decode cX5_tease 34 = .ok (.iload_n 1, 1) := by decide +kernel
theorem dX5_tease_35 : decode cX5_tease 35 = .ok (.aaload, 1) := by decide +kernel
theorem dX5_tease_36 : decode cX5_tease 36 = .ok (.getfield 135, 3) := by decide +kernel
theorem dX5_tease_39 : decode cX5_tease 39 = .ok (.ireturn, 1) := by decide +kernel
theorem dX5_tie_0 : decode cX5_tie 0 = .ok (.aload_n 0, 1) := by decide +kernel
theorem dX5_tie_1 : decode cX5_tie 1 = .ok (.iload_n 1, 1) := by decide +kernel
theorem dX5_tie_2 : decode cX5_tie 2 = .ok (.invokevirtual 120, 3) := by decide +kernel
theorem dX5_tie_5 : decode cX5_tie 5 = .ok (.ifCond .ne 10, 3) := by decide +kernel
theorem dX5_tie_8 : decode cX5_tie 8 = .ok (.aload_n 0, 1) := by decide +kernel
theorem dX5_tie_9 : decode cX5_tie 9 = .ok (.ldc 57, 2) := by decide +kernel
theorem dX5_tie_11 : decode cX5_tie 11 = .ok (.invokevirtual 58, 3) := by decide +kernel
theorem dX5_tie_14 : decode cX5_tie 14 = .ok (.ireturn, 1) := by decide +kernel
theorem dX5_tie_15 : decode cX5_tie 15 = .ok (.aload_n 0, 1) := by decide +kernel
theorem dX5_tie_16 : decode cX5_tie 16 = .ok (.getfield 10, 3) := by decide +kernel
theorem dX5_tie_19 : decode cX5_tie 19 = .ok (.getfield 123, 3) := by decide +kernel
theorem dX5_tie_22 : decode cX5_tie 22 = .ok (.iload_n 1, 1) := by decide +kernel
theorem dX5_tie_23 : decode cX5_tie 23 = .ok (.aaload, 1) := by decide +kernel
theorem dX5_tie_24 : decode cX5_tie 24 = .ok (.astore_n 2, 1) := by decide +kernel
theorem dX5_tie_25 : decode cX5_tie 25 = .ok (.aload_n 2, 1) := by decide +kernel
theorem dX5_tie_26 : decode cX5_tie 26 = .ok (.getfield 138, 3) := by decide +kernel
theorem dX5_tie_29 : decode cX5_tie 29 = .ok (.ifCond .eq 10, 3) := by decide +kernel
theorem dX5_tie_32 : decode cX5_tie 32 = .ok (.aload_n 0, 1) := by decide +kernel
theorem dX5_tie_33 : decode cX5_tie 33 = .ok (.ldc 165, 2) := by decide +kernel
theorem dX5_tie_35 : decode cX5_tie 35 = .ok (.invokevirtual 58, 3) := by decide +kernel
theorem dX5_tie_38 : decode cX5_tie 38 = .ok (.ireturn, 1) := by decide +kernel
theorem dX5_tie_39 : decode cX5_tie 39 = .ok (.aload_n 2, 1) := by decide +kernel
theorem dX5_tie_40 : decode cX5_tie 40 = .ok (.iconst 1, 1) := by decide +kernel
theorem dX5_tie_41 : decode cX5_tie 41 = .ok (.putfield 138, 3) := by decide +kernel
theorem dX5_tie_44 : decode cX5_tie 44 = .ok (.aload_n 2, 1) := by decide +kernel
theorem dX5_tie_45 : decode cX5_tie 45 = .ok (.iconst 0, 1) := by decide +kernel
theorem dX5_tie_46 : decode cX5_tie 46 = .ok (.putfield 141, 3) := by decide +kernel
theorem dX5_tie_49 : decode cX5_tie 49 = .ok (.iconst 1, 1) := by decide +kernel
theorem dX5_tie_50 : decode cX5_tie 50 = .ok (.ireturn, 1) := by decide +kernel
theorem dX5_cast_0 : decode cX5_cast 0 = .ok (.aload_n 0, 1) := by decide +kernel
theorem dX5_cast_1 : decode cX5_cast 1 = .ok (.iload_n 1, 1) := by decide +kernel
theorem dX5_cast_2 : decode cX5_cast 2 = .ok (.invokevirtual 120, 3) := by decide +kernel
theorem dX5_cast_5 : decode cX5_cast 5 = .ok (.ifCond .ne 10, 3) := by decide +kernel
theorem dX5_cast_8 : decode cX5_cast 8 = .ok (.aload_n 0, 1) := by decide +kernel
theorem dX5_cast_9 : decode cX5_cast 9 = .ok (.ldc 57, 2) := by decide +kernel
theorem dX5_cast_11 : decode cX5_cast 11 = .ok (.invokevirtual 58, 3) := by decide +kernel
theorem dX5_cast_14 : decode cX5_cast 14 = .ok (.ireturn, 1) := by decide +kernel
theorem dX5_cast_15 : decode cX5_cast 15 = .ok (.aload_n 0, 1) := by decide +kernel
theorem dX5_cast_16 : decode cX5_cast 16 = .ok (.getfield 10, 3) := by decide +kernel
theorem dX5_cast_19 : decode cX5_cast 19 = .ok (.getfield 123, 3) := by decide +kernel
theorem dX5_cast_22 : decode cX5_cast 22 = .ok (.iload_n 1, 1) := by decide +kernel
theorem dX5_cast_23 : decode cX5_cast 23 = .ok (.aaload, 1) := by decide +kernel
theorem dX5_cast_24 : decode cX5_cast 24 = .ok (.astore_n 2, 1) := by decide +kernel
theorem dX5_cast_25 : decode cX5_cast 25 = .ok (.aload_n 2, 1) := by decide +kernel
theorem dX5_cast_26 : decode cX5_cast 26 = .ok (.getfield 138, 3) := by decide +kernel
theorem dX5_cast_29 : decode cX5_cast 29 = .ok (.ifCond .ne 10, 3) := by decide +kernel
theorem dX5_cast_32 : decode cX5_cast 32 = .ok (.aload_n 0, 1) := by decide +kernel
theorem dX5_cast_33 : decode cX5_cast 33 = .ok (.ldc 165, 2) := by decide +kernel
theorem dX5_cast_35 : decode cX5_cast 35 = .ok (.invokevirtual 58, 3) := by decide +kernel
theorem dX5_cast_38 : decode cX5_cast 38 = .ok (.ireturn, 1) := by decide +kernel
theorem dX5_cast_39 : decode cX5_cast 39 = .ok (.aload_n 2, 1) := by decide +kernel
theorem dX5_cast_40 : decode cX5_cast 40 = .ok (.iconst 0, 1) := by decide +kernel
theorem dX5_cast_41 : decode cX5_cast 41 = .ok (.putfield 138, 3) := by decide +kernel
theorem dX5_cast_44 : decode cX5_cast 44 = .ok (.aload_n 2, 1) := by decide +kernel
theorem dX5_cast_45 : decode cX5_cast 45 = .ok (.getfield 141, 3) := by decide +kernel
theorem dX5_cast_48 : decode cX5_cast 48 = .ok (.ireturn, 1) := by decide +kernel
theorem dX5_hours_0 : decode cX5_hours 0 = .ok (.iload_n 1, 1) := by decide +kernel
theorem dX5_hours_1 : decode cX5_hours 1 = .ok (.iconst 1, 1) := by decide +kernel
theorem dX5_hours_2 : decode cX5_hours 2 = .ok (.bipush 100, 2) := by decide +kernel
theorem dX5_hours_4 : decode cX5_hours 4 = .ok (.invokestatic 53, 3) := by decide +kernel
theorem dX5_hours_7 : decode cX5_hours 7 = .ok (.ifCond .ne 10, 3) := by decide +kernel
theorem dX5_hours_10 : decode cX5_hours 10 = .ok (.aload_n 0, 1) := by decide +kernel
theorem dX5_hours_11 : decode cX5_hours 11 = .ok (.ldc 57, 2) := by decide +kernel
theorem dX5_hours_13 : decode cX5_hours 13 = .ok (.invokevirtual 58, 3) := by decide +kernel
theorem dX5_hours_16 : decode cX5_hours 16 = .ok (.ireturn, 1) := by decide +kernel
theorem dX5_hours_17 : decode cX5_hours 17 = .ok (.aload_n 0, 1) := by decide +kernel
theorem dX5_hours_18 : decode cX5_hours 18 = .ok (.getfield 10, 3) := by decide +kernel
theorem dX5_hours_21 : decode cX5_hours 21 = .ok (.getfield 92, 3) := by decide +kernel
theorem dX5_hours_24 : decode cX5_hours 24 = .ok (.ldc 166, 2) := by decide +kernel
theorem dX5_hours_26 : decode cX5_hours 26 = .ok (.iload_n 1, 1) := by decide +kernel
theorem dX5_hours_27 : decode cX5_hours 27 = .ok (.isub, 1) := by decide +kernel
theorem dX5_hours_28 : decode cX5_hours 28 = .ok (.if_icmp .le 10, 3) := by decide +kernel
theorem dX5_hours_31 : decode cX5_hours 31 = .ok (.aload_n 0, 1) := by decide +kernel
theorem dX5_hours_32 : decode cX5_hours 32 = .ok (.ldc 165, 2) := by decide +kernel
theorem dX5_hours_34 : decode cX5_hours 34 = .ok (.invokevirtual 58, 3) := by decide +kernel
theorem dX5_hours_37 : decode cX5_hours 37 = .ok (.ireturn, 1) := by decide +kernel
theorem dX5_hours_38 : decode cX5_hours 38 = .ok (.aload_n 0, 1) := by decide +kernel
theorem dX5_hours_39 : decode cX5_hours 39 = .ok (.getfield 10, 3) := by decide +kernel
theorem dX5_hours_42 : decode cX5_hours 42 = .ok (.iload_n 1, 1) := by decide +kernel
theorem dX5_hours_43 : decode cX5_hours 43 = .ok (.invokevirtual 167, 3) := by decide +kernel
theorem dX5_hours_46 : decode cX5_hours 46 = .ok (.aload_n 0, 1) := by decide +kernel
theorem dX5_hours_47 : decode cX5_hours 47 = .ok (.getfield 10, 3) := by decide +kernel
theorem dX5_hours_50 : decode cX5_hours 50 = .ok (.getfield 102, 3) := by decide +kernel
theorem dX5_hours_53 : decode cX5_hours 53 = .ok (.ireturn, 1) := by decide +kernel
theorem dX5_on_0 : decode cX5_on 0 = .ok (.aload_n 0, 1) := by decide +kernel
theorem dX5_on_1 : decode cX5_on 1 = .ok (.iload_n 1, 1) := by decide +kernel
theorem dX5_on_2 : decode cX5_on 2 = .ok (.invokevirtual 120, 3) := by decide +kernel
theorem dX5_on_5 : decode cX5_on 5 = .ok (.ifCond .eq 23, 3) := by decide +kernel
theorem dX5_on_8 : decode cX5_on 8 = .ok (.iload_n 2, 1) := by decide +kernel
theorem dX5_on_9 : decode cX5_on 9 = .ok (.iconst 0, 1) := by decide +kernel
theorem dX5_on_10 : decode cX5_on 10 = .ok (.sipush 200, 3) := by decide +kernel
theorem dX5_on_13 : decode cX5_on 13 = .ok (.invokestatic 53, 3) := by decide +kernel
theorem dX5_on_16 : decode cX5_on 16 = .ok (.ifCond .eq 12, 3) := by decide +kernel
theorem dX5_on_19 : decode cX5_on 19 = .ok (.iload_n 3, 1) := by decide +kernel
theorem dX5_on_20 : decode cX5_on 20 = .ok (.iconst 0, 1) := by decide +kernel
theorem dX5_on_21 : decode cX5_on 21 = .ok (.iconst 2, 1) := by decide +kernel
theorem dX5_on_22 : decode cX5_on 22 = .ok (.invokestatic 53, 3) := by decide +kernel
theorem dX5_on_25 : decode cX5_on 25 = .ok (.ifCond .ne 10, 3) := by decide +kernel
theorem dX5_on_28 : decode cX5_on 28 = .ok (.aload_n 0, 1) := by decide +kernel
theorem dX5_on_29 : decode cX5_on 29 = .ok (.ldc 57, 2) := by decide +kernel
theorem dX5_on_31 : decode cX5_on 31 = .ok (.invokevirtual 58, 3) := by decide +kernel
theorem dX5_on_34 : decode cX5_on 34 = .ok (.ireturn, 1) := by decide +kernel
theorem dX5_on_35 : decode cX5_on 35 = .ok (.aload_n 0, 1) := by decide +kernel
theorem dX5_on_36 : decode cX5_on 36 = .ok (.getfield 16, 3) := by decide +kernel
theorem dX5_on_39 : decode cX5_on 39 = .ok (.aload_n 0, 1) := by decide +kernel
theorem dX5_on_40 : decode cX5_on 40 = .ok (.getfield 10, 3) := by decide +kernel
theorem dX5_on_43 : decode cX5_on 43 = .ok (.invokevirtual 171, 3) := by decide +kernel
theorem dX5_on_46 : decode cX5_on 46 = .ok (.aload_n 0, 1) := by decide +kernel
theorem dX5_on_47 : decode cX5_on 47 = .ok (.getfield 16, 3) := by decide +kernel
theorem dX5_on_50 : decode cX5_on 50 = .ok (.iload_n 2, 1) := by decide +kernel
theorem dX5_on_51 : decode cX5_on 51 = .ok (.invokevirtual 167, 3) := by decide +kernel
theorem dX5_on_54 : decode cX5_on 54 = .ok (.aload_n 0, 1) := by decide +kernel
theorem dX5_on_55 : decode cX5_on 55 = .ok (.getfield 16, 3) := by decide +kernel
theorem dX5_on_58 : decode cX5_on 58 = .ok (.getfield 123, 3) := by decide +kernel
theorem dX5_on_61 : decode cX5_on 61 = .ok (.iload_n 1, 1) := by decide +kernel
theorem dX5_on_62 : decode cX5_on 62 = .ok (.aaload, 1) := by decide +kernel
theorem dX5_on_63 : decode cX5_on 63 = .ok (.astore 4, 2) := by decide +kernel
theorem dX5_on_65 : decode cX5_on 65 = .ok (.iload_n 3, 1) := by decide +kernel
theorem dX5_on_66 : decode cX5_on 66 = .ok (.ifCond .ne 9, 3) := by decide +kernel
theorem dX5_on_69 : decode cX5_on 69 = .ok (.aload 4, 2) := by decide +kernel
theorem dX5_on_71 : decode cX5_on 71 = .ok (.getfield 135, 3) := by decide +kernel
theorem dX5_on_74 : decode cX5_on 74 = .ok (.ireturn, 1) := by decide +kernel
theorem dX5_on_75 : decode cX5_on 75 = .ok (.iload_n 3, 1) := by decide +kernel
theorem dX5_on_76 : decode cX5_on 76 = .ok (.iconst 1, 1) := by decide +kernel
theorem dX5_on_77 : decode cX5_on 77 = .ok (.if_icmp .ne 17, 3) := by decide +kernel
theorem dX5_on_80 : decode cX5_on 80 = .ok (.aload 4, 2) := by decide +kernel
theorem dX5_on_82 : decode cX5_on 82 = .ok (.getfield 138, 3) := by decide +kernel
theorem dX5_on_85 : decode cX5_on 85 = .ok (.ifCond .eq 7, 3) := by decide +kernel
theorem dX5_on_88 : decode cX5_on 88 = .ok (.iconst 1, 1) := by decide +kernel
theorem dX5_on_89 : decode cX5_on 89 = .ok (.goto 4, 3) := by decide +kernel
theorem dX5_on_92 : decode cX5_on 92 = .ok (.iconst 0, 1) := by decide +kernel
theorem dX5_on_93 : decode cX5_on 93 = .ok (.ireturn, 1) := by decide +kernel
theorem dX5_on_94 : decode cX5_on 94 = .ok (.aload 4, 2) := by decide +kernel
theorem dX5_on_96 : decode cX5_on 96 = .ok (.getfield 141, 3) := by decide +kernel
theorem dX5_on_99 : decode cX5_on 99 = .ok (.ireturn, 1) := by decide +kernel
theorem dX5_then_0 : decode cX5_then 0 = .ok (.iload_n 1, 1) := by decide +kernel
theorem dX5_then_1 : decode cX5_then 1 = .ok (.iconst 0, 1) := by decide +kernel
theorem dX5_then_2 : decode cX5_then 2 = .ok (.sipush 200, 3) := by decide +kernel
theorem dX5_then_5 : decode cX5_then 5 = .ok (.invokestatic 53, 3) := by decide +kernel
theorem dX5_then_8 : decode cX5_then 8 = .ok (.ifCond .eq 12, 3) := by decide +kernel
theorem dX5_then_11 : decode cX5_then 11 = .ok (.iload_n 2, 1) := by decide +kernel
theorem dX5_then_12 : decode cX5_then 12 = .ok (.iconst 0, 1) := by decide +kernel
theorem dX5_then_13 : decode cX5_then 13 = .ok (.iconst 1, 1) := by decide +kernel
theorem dX5_then_14 : decode cX5_then 14 = .ok (.invokestatic 53, 3) := by decide +kernel
theorem dX5_then_17 : decode cX5_then 17 = .ok (.ifCond .ne 10, 3) := by decide +kernel
theorem dX5_then_20 : decode cX5_then 20 = .ok (.aload_n 0, 1) := by decide +kernel
theorem dX5_then_21 : decode cX5_then 21 = .ok (.ldc 57, 2) := by decide +kernel
theorem dX5_then_23 : decode cX5_then 23 = .ok (.invokevirtual 58, 3) := by decide +kernel
theorem dX5_then_26 : decode cX5_then 26 = .ok (.ireturn, 1) := by decide +kernel
theorem dX5_then_27 : decode cX5_then 27 = .ok (.aload_n 0, 1) := by decide +kernel
theorem dX5_then_28 : decode cX5_then 28 = .ok (.getfield 16, 3) := by decide +kernel
theorem dX5_then_31 : decode cX5_then 31 = .ok (.aload_n 0, 1) := by decide +kernel
theorem dX5_then_32 : decode cX5_then 32 = .ok (.getfield 10, 3) := by decide +kernel
theorem dX5_then_35 : decode cX5_then 35 = .ok (.invokevirtual 171, 3) := by decide +kernel
theorem dX5_then_38 : decode cX5_then 38 = .ok (.aload_n 0, 1) := by decide +kernel
theorem dX5_then_39 : decode cX5_then 39 = .ok (.getfield 16, 3) := by decide +kernel
theorem dX5_then_42 : decode cX5_then 42 = .ok (.iload_n 1, 1) := by decide +kernel
theorem dX5_then_43 : decode cX5_then 43 = .ok (.invokevirtual 167, 3) := by decide +kernel
theorem dX5_then_46 : decode cX5_then 46 = .ok (.iload_n 2, 1) := by decide +kernel
theorem dX5_then_47 : decode cX5_then 47 = .ok (.ifCond .ne 13, 3) := by decide +kernel
theorem dX5_then_50 : decode cX5_then 50 = .ok (.aload_n 0, 1) := by decide +kernel
theorem dX5_then_51 : decode cX5_then 51 = .ok (.getfield 16, 3) := by decide +kernel
theorem dX5_then_54 : decode cX5_then 54 = .ok (.getfield 102, 3) := by decide +kernel
theorem dX5_then_57 : decode cX5_then 57 = .ok (.goto 10, 3) := by decide +kernel
theorem dX5_then_60 : decode cX5_then 60 = .ok (.aload_n 0, 1) := by decide +kernel
theorem dX5_then_61 : decode cX5_then 61 = .ok (.getfield 16, 3) := by decide +kernel
theorem dX5_then_64 : decode cX5_then 64 = .ok (.invokevirtual 82, 3) := by decide +kernel
theorem dX5_then_67 : decode cX5_then 67 = .ok (.ireturn, 1) := by decide +kernel
theorem dX5_falls_0 : decode cX5_falls 0 = .ok (.iload_n 1, 1) := by decide +kernel
theorem dX5_falls_1 : decode cX5_falls 1 = .ok (.invokestatic 65, 3) := by decide +kernel
theorem dX5_falls_4 : decode cX5_falls 4 = .ok (.ifCond .ne 10, 3) := by decide +kernel
theorem dX5_falls_7 : decode cX5_falls 7 = .ok (.aload_n 0, 1) := by decide +kernel
theorem dX5_falls_8 : decode cX5_falls 8 = .ok (.ldc 57, 2) := by decide +kernel
theorem dX5_falls_10 : decode cX5_falls 10 = .ok (.invokevirtual 58, 3) := by decide +kernel
theorem dX5_falls_13 : decode cX5_falls 13 = .ok (.ireturn, 1) := by decide +kernel
theorem dX5_falls_14 : decode cX5_falls 14 = .ok (.aload_n 0, 1) := by decide +kernel
theorem dX5_falls_15 : decode cX5_falls 15 = .ok (.getfield 16, 3) := by decide +kernel
theorem dX5_falls_18 : decode cX5_falls 18 = .ok (.aload_n 0, 1) := by decide +kernel
theorem dX5_falls_19 : decode cX5_falls 19 = .ok (.getfield 10, 3) := by decide +kernel
theorem dX5_falls_22 : decode cX5_falls 22 = .ok (.invokevirtual 171, 3) := by decide +kernel
theorem dX5_falls_25 : decode cX5_falls 25 = .ok (.aload_n 0, 1) := by decide +kernel
theorem dX5_falls_26 : decode cX5_falls 26 = .ok (.getfield 16, 3) := by decide +kernel
theorem dX5_falls_29 : decode cX5_falls 29 = .ok (.iload_n 1, 1) := by decide +kernel
theorem dX5_falls_30 : decode cX5_falls 30 = .ok (.invokevirtual 175, 3) := by decide +kernel
theorem dX5_falls_33 : decode cX5_falls 33 = .ok (.istore_n 2, 1) := by decide +kernel
theorem dX5_falls_34 : decode cX5_falls 34 = .ok (.iload_n 2, 1) := by decide +kernel
theorem dX5_falls_35 : decode cX5_falls 35 = .ok (.sipush 200, 3) := by decide +kernel
theorem dX5_falls_38 : decode cX5_falls 38 = .ok (.if_icmp .le 12, 3) := by decide +kernel
theorem dX5_falls_41 : decode cX5_falls 41 = .ok (.aload_n 0, 1) := by decide +kernel
theorem dX5_falls_42 : decode cX5_falls 42 = .ok (.ldc 178, 2) := by decide +kernel
theorem dX5_falls_44 : decode cX5_falls 44 = .ok (.invokevirtual 58, 3) := by decide +kernel
theorem dX5_falls_47 : decode cX5_falls 47 = .ok (.goto 4, 3) := by decide +kernel
theorem dX5_falls_50 : decode cX5_falls 50 = .ok (.iload_n 2, 1) := by decide +kernel
theorem dX5_falls_51 : decode cX5_falls 51 = .ok (.ireturn, 1) := by decide +kernel
theorem dX5_gives_0 : decode cX5_gives 0 = .ok (.aload_n 0, 1) := by decide +kernel
theorem dX5_gives_1 : decode cX5_gives 1 = .ok (.iload_n 1, 1) := by decide +kernel
theorem dX5_gives_2 : decode cX5_gives 2 = .ok (.invokevirtual 120, 3) := by decide +kernel
theorem dX5_gives_5 : decode cX5_gives 5 = .ok (.ifCond .ne 10, 3) := by decide +kernel
theorem dX5_gives_8 : decode cX5_gives 8 = .ok (.aload_n 0, 1) := by decide +kernel
theorem dX5_gives_9 : decode cX5_gives 9 = .ok (.ldc 57, 2) := by decide +kernel
theorem dX5_gives_11 : decode cX5_gives 11 = .ok (.invokevirtual 58, 3) := by decide +kernel
theorem dX5_gives_14 : decode cX5_gives 14 = .ok (.ireturn, 1) := by decide +kernel
theorem dX5_gives_15 : decode cX5_gives 15 = .ok (.aload_n 0, 1) := by decide +kernel
theorem dX5_gives_16 : decode cX5_gives 16 = .ok (.getfield 16, 3) := by decide +kernel
theorem dX5_gives_19 : decode cX5_gives 19 = .ok (.aload_n 0, 1) := by decide +kernel
theorem dX5_gives_20 : decode cX5_gives 20 = .ok (.getfield 10, 3) := by decide +kernel
theorem dX5_gives_23 : decode cX5_gives 23 = .ok (.invokevirtual 171, 3) := by decide +kernel
theorem dX5_gives_26 : decode cX5_gives 26 = .ok (.aload_n 0, 1) := by decide +kernel
theorem dX5_gives_27 : decode cX5_gives 27 = .ok (.getfield 16, 3) := by decide +kernel
theorem dX5_gives_30 : decode cX5_gives 30 = .ok (.aload_n 0, 1) := by decide +kernel
theorem dX5_gives_31 : decode cX5_gives 31 = .ok (.getfield 16, 3) := by decide +kernel
theorem dX5_gives_34 : decode cX5_gives 34 = .ok (.getfield 123, 3) := by decide +kernel
theorem dX5_gives_37 : decode cX5_gives 37 = .ok (.iload_n 1, 1) := by decide +kernel
theorem dX5_gives_38 : decode cX5_gives 38 = .ok (.aaload, 1) := by decide +kernel
theorem dX5_gives_39 : decode cX5_gives 39 = .ok (.invokevirtual 179, 3) := by decide +kernel
theorem dX5_gives_42 : decode cX5_gives 42 = .ok (.istore_n 2, 1) := by decide +kernel
theorem dX5_gives_43 : decode cX5_gives 43 = .ok (.iload_n 2, 1) := by decide +kernel
theorem dX5_gives_44 : decode cX5_gives 44 = .ok (.sipush 200, 3) := by decide +kernel
theorem dX5_gives_47 : decode cX5_gives 47 = .ok (.if_icmp .le 12, 3) := by decide +kernel
theorem dX5_gives_50 : decode cX5_gives 50 = .ok (.aload_n 0, 1) := by decide +kernel
theorem dX5_gives_51 : decode cX5_gives 51 = .ok (.ldc 178, 2) := by decide +kernel
theorem dX5_gives_53 : decode cX5_gives 53 = .ok (.invokevirtual 58, 3) := by decide +kernel
theorem dX5_gives_56 : decode cX5_gives 56 = .ok (.goto 4, 3) := by decide +kernel
theorem dX5_gives_59 : decode cX5_gives 59 = .ok (.iload_n 2, 1) := by decide +kernel
theorem dX5_gives_60 : decode cX5_gives 60 = .ok (.ireturn, 1) := by decide +kernel
theorem dX5_best_0 : decode cX5_best 0 = .ok (.iload_n 1, 1) := by decide +kernel
theorem dX5_best_1 : decode cX5_best 1 = .ok (.invokestatic 65, 3) := by decide +kernel
theorem dX5_best_4 : decode cX5_best 4 = .ok (.ifCond .ne 10, 3) := by decide +kernel
theorem dX5_best_7 : decode cX5_best 7 = .ok (.aload_n 0, 1) := by decide +kernel
theorem dX5_best_8 : decode cX5_best 8 = .ok (.ldc 57, 2) := by decide +kernel
theorem dX5_best_10 : decode cX5_best 10 = .ok (.invokevirtual 58, 3) := by decide +kernel
theorem dX5_best_13 : decode cX5_best 13 = .ok (.ireturn, 1) := by decide +kernel
theorem dX5_best_14 : decode cX5_best 14 = .ok (.aload_n 0, 1) := by decide +kernel
theorem dX5_best_15 : decode cX5_best 15 = .ok (.getfield 16, 3) := by decide +kernel
theorem dX5_best_18 : decode cX5_best 18 = .ok (.aload_n 0, 1) := by decide +kernel
theorem dX5_best_19 : decode cX5_best 19 = .ok (.getfield 10, 3) := by decide +kernel
theorem dX5_best_22 : decode cX5_best 22 = .ok (.invokevirtual 171, 3) := by decide +kernel
theorem dX5_best_25 : decode cX5_best 25 = .ok (.aload_n 0, 1) := by decide +kernel
theorem dX5_best_26 : decode cX5_best 26 = .ok (.getfield 16, 3) := by decide +kernel
theorem dX5_best_29 : decode cX5_best 29 = .ok (.iload_n 1, 1) := by decide +kernel
theorem dX5_best_30 : decode cX5_best 30 = .ok (.invokevirtual 175, 3) := by decide +kernel
theorem dX5_best_33 : decode cX5_best 33 = .ok (.istore_n 2, 1) := by decide +kernel
theorem dX5_best_34 : decode cX5_best 34 = .ok (.iconst (-1), 1) := by decide +kernel
theorem dX5_best_35 : decode cX5_best 35 = .ok (.istore_n 3, 1) := by decide +kernel
theorem dX5_best_36 : decode cX5_best 36 = .ok (.iconst 0, 1) := by decide +kernel
theorem dX5_best_37 : decode cX5_best 37 = .ok (.istore 4, 2) := by decide +kernel
theorem dX5_best_39 : decode cX5_best 39 = .ok (.iload 4, 2) := by decide +kernel
theorem dX5_best_41 : decode cX5_best 41 = .ok (.aload_n 0, 1) := by decide +kernel
theorem dX5_best_42 : decode cX5_best 42 = .ok (.getfield 10, 3) := by decide +kernel
theorem dX5_best_45 : decode cX5_best 45 = .ok (.getfield 182, 3) := by decide +kernel
theorem dX5_best_48 : decode cX5_best 48 = .ok (.if_icmp .ge 55, 3) := by decide +kernel
theorem dX5_best_51 : decode cX5_best 51 = .ok (.aload_n 0, 1) := by decide +kernel
theorem dX5_best_52 : decode cX5_best 52 = .ok (.getfield 16, 3) := by decide +kernel
theorem dX5_best_55 : decode cX5_best 55 = .ok (.aload_n 0, 1) := by decide +kernel
theorem dX5_best_56 : decode cX5_best 56 = .ok (.getfield 10, 3) := by decide +kernel
theorem dX5_best_59 : decode cX5_best 59 = .ok (.invokevirtual 171, 3) := by decide +kernel
theorem dX5_best_62 : decode cX5_best 62 = .ok (.aload_n 0, 1) := by decide +kernel
theorem dX5_best_63 : decode cX5_best 63 = .ok (.getfield 16, 3) := by decide +kernel
theorem dX5_best_66 : decode cX5_best 66 = .ok (.getfield 123, 3) := by decide +kernel
theorem dX5_best_69 : decode cX5_best 69 = .ok (.iload 4, 2) := by decide +kernel
theorem dX5_best_71 : decode cX5_best 71 = .ok (.aaload, 1) := by decide +kernel
theorem dX5_best_72 : decode cX5_best 72 = .ok (.invokevirtual 162, 3) := by decide +kernel
theorem dX5_best_75 : decode cX5_best 75 = .ok (.aload_n 0, 1) := by decide +kernel
theorem dX5_best_76 : decode cX5_best 76 = .ok (.getfield 16, 3) := by decide +kernel
theorem dX5_best_79 : decode cX5_best 79 = .ok (.iload_n 1, 1) := by decide +kernel
theorem dX5_best_80 : decode cX5_best 80 = .ok (.invokevirtual 175, 3) := by decide +kernel
theorem dX5_best_83 : decode cX5_best 83 = .ok (.istore 5, 2) := by decide +kernel
theorem dX5_best_85 : decode cX5_best 85 = .ok (.iload 5, 2) := by decide +kernel
theorem dX5_best_87 : decode cX5_best 87 = .ok (.iload_n 2, 1) := by decide +kernel
theorem dX5_best_88 : decode cX5_best 88 = .ok (.if_icmp .le 9, 3) := by decide +kernel
theorem dX5_best_91 : decode cX5_best 91 = .ok (.iload 5, 2) := by decide +kernel
theorem dX5_best_93 : decode cX5_best 93 = .ok (.istore_n 2, 1) := by decide +kernel
theorem dX5_best_94 : decode cX5_best 94 = .ok (.iload 4, 2) := by decide +kernel
theorem dX5_best_96 : decode cX5_best 96 = .ok (.istore_n 3, 1) := by decide +kernel
theorem dX5_best_97 : decode cX5_best 97 = .ok (.iinc 4 1, 3) := by decide +kernel
theorem dX5_best_100 : decode cX5_best 100 = .ok (.goto (-61), 3) := by decide +kernel
theorem dX5_best_103 : decode cX5_best 103 = .ok (.iload_n 3, 1) := by decide +kernel
theorem dX5_best_104 : decode cX5_best 104 = .ok (.ifCond .ge 12, 3) := by decide +kernel
theorem dX5_best_107 : decode cX5_best 107 = .ok (.aload_n 0, 1) := by decide +kernel
theorem dX5_best_108 : decode cX5_best 108 = .ok (.ldc 178, 2) := by decide +kernel
theorem dX5_best_110 : decode cX5_best 110 = .ok (.invokevirtual 58, 3) := by decide +kernel
theorem dX5_best_113 : decode cX5_best 113 = .ok (.goto 4, 3) := by decide +kernel
theorem dX5_best_116 : decode cX5_best 116 = .ok (.iload_n 3, 1) := by decide +kernel
theorem dX5_best_117 : decode cX5_best 117 = .ok (.ireturn, 1) := by decide +kernel
theorem dX5_kind_0 : decode cX5_kind 0 = .ok (.aload_n 0, 1) := by decide +kernel
theorem dX5_kind_1 : decode cX5_kind 1 = .ok (.iload_n 1, 1) := by decide +kernel
theorem dX5_kind_2 : decode cX5_kind 2 = .ok (.invokevirtual 120, 3) := by decide +kernel
theorem dX5_kind_5 : decode cX5_kind 5 = .ok (.ifCond .ne 10, 3) := by decide +kernel
theorem dX5_kind_8 : decode cX5_kind 8 = .ok (.aload_n 0, 1) := by decide +kernel
theorem dX5_kind_9 : decode cX5_kind 9 = .ok (.ldc 57, 2) := by decide +kernel
theorem dX5_kind_11 : decode cX5_kind 11 = .ok (.invokevirtual 58, 3) := by decide +kernel
theorem dX5_kind_14 : decode cX5_kind 14 = .ok (.ireturn, 1) := by decide +kernel
theorem dX5_kind_15 : decode cX5_kind 15 = .ok (.iconst (-1), 1) := by decide +kernel
theorem dX5_kind_16 : decode cX5_kind 16 = .ok (.istore_n 2, 1) := by decide +kernel
theorem dX5_kind_17 : decode cX5_kind 17 = .ok (.iconst 0, 1) := by decide +kernel
theorem dX5_kind_18 : decode cX5_kind 18 = .ok (.istore_n 3, 1) := by decide +kernel
theorem dX5_kind_19 : decode cX5_kind 19 = .ok (.iconst 0, 1) := by decide +kernel
theorem dX5_kind_20 : decode cX5_kind 20 = .ok (.istore 4, 2) := by decide +kernel
theorem dX5_kind_22 : decode cX5_kind 22 = .ok (.iload 4, 2) := by decide +kernel
theorem dX5_kind_24 : decode cX5_kind 24 = .ok (.bipush 6, 2) := by decide +kernel
theorem dX5_kind_26 : decode cX5_kind 26 = .ok (.if_icmp .ge 64, 3) := by decide +kernel
theorem dX5_kind_29 : decode cX5_kind 29 = .ok (.aload_n 0, 1) := by decide +kernel
theorem dX5_kind_30 : decode cX5_kind 30 = .ok (.getfield 16, 3) := by decide +kernel
theorem dX5_kind_33 : decode cX5_kind 33 = .ok (.aload_n 0, 1) := by decide +kernel
theorem dX5_kind_34 : decode cX5_kind 34 = .ok (.getfield 10, 3) := by decide +kernel
theorem dX5_kind_37 : decode cX5_kind 37 = .ok (.invokevirtual 171, 3) := by decide +kernel
theorem dX5_kind_40 : decode cX5_kind 40 = .ok (.aload_n 0, 1) := by decide +kernel
theorem dX5_kind_41 : decode cX5_kind 41 = .ok (.getfield 16, 3) := by decide +kernel
theorem dX5_kind_44 : decode cX5_kind 44 = .ok (.getfield 123, 3) := by decide +kernel
theorem dX5_kind_47 : decode cX5_kind 47 = .ok (.iload_n 1, 1) := by decide +kernel
theorem dX5_kind_48 : decode cX5_kind 48 = .ok (.aaload, 1) := by decide +kernel
theorem dX5_kind_49 : decode cX5_kind 49 = .ok (.iload 4, 2) := by decide +kernel
theorem dX5_kind_51 : decode cX5_kind 51 = .ok (.putfield 127, 3) := by decide +kernel
theorem dX5_kind_54 : decode cX5_kind 54 = .ok (.aload_n 0, 1) := by decide +kernel
theorem dX5_kind_55 : decode cX5_kind 55 = .ok (.getfield 16, 3) := by decide +kernel
theorem dX5_kind_58 : decode cX5_kind 58 = .ok (.aload_n 0, 1) := by decide +kernel
theorem dX5_kind_59 : decode cX5_kind 59 = .ok (.getfield 16, 3) := by decide +kernel
theorem dX5_kind_62 : decode cX5_kind 62 = .ok (.getfield 123, 3) := by decide +kernel
theorem dX5_kind_65 : decode cX5_kind 65 = .ok (.iload_n 1, 1) := by decide +kernel
theorem dX5_kind_66 : decode cX5_kind 66 = .ok (.aaload, 1) := by decide +kernel
theorem dX5_kind_67 : decode cX5_kind 67 = .ok (.invokevirtual 179, 3) := by decide +kernel
theorem dX5_kind_70 : decode cX5_kind 70 = .ok (.istore 5, 2) := by decide +kernel
theorem dX5_kind_72 : decode cX5_kind 72 = .ok (.iload 5, 2) := by decide +kernel
theorem dX5_kind_74 : decode cX5_kind 74 = .ok (.iload_n 2, 1) := by decide +kernel
theorem dX5_kind_75 : decode cX5_kind 75 = .ok (.if_icmp .le 9, 3) := by decide +kernel
theorem dX5_kind_78 : decode cX5_kind 78 = .ok (.iload 5, 2) := by decide +kernel
theorem dX5_kind_80 : decode cX5_kind 80 = .ok (.istore_n 2, 1) := by decide +kernel
theorem dX5_kind_81 : decode cX5_kind 81 = .ok (.iload 4, 2) := by decide +kernel
theorem dX5_kind_83 : decode cX5_kind 83 = .ok (.istore_n 3, 1) := by decide +kernel
theorem dX5_kind_84 : decode cX5_kind 84 = .ok (.iinc 4 1, 3) := by decide +kernel
theorem dX5_kind_87 : decode cX5_kind 87 = .ok (.goto (-65), 3) := by decide +kernel
theorem dX5_kind_90 : decode cX5_kind 90 = .ok (.iload_n 3, 1) := by decide +kernel
theorem dX5_kind_91 : decode cX5_kind 91 = .ok (.ireturn, 1) := by decide +kernel
theorem dX5_open_0 : decode cX5_open 0 = .ok (.aload_n 0, 1) := by decide +kernel
theorem dX5_open_1 : decode cX5_open 1 = .ok (.iload_n 1, 1) := by decide +kernel
theorem dX5_open_2 : decode cX5_open 2 = .ok (.invokevirtual 120, 3) := by decide +kernel
theorem dX5_open_5 : decode cX5_open 5 = .ok (.ifCond .eq 13, 3) := by decide +kernel
theorem dX5_open_8 : decode cX5_open 8 = .ok (.iload_n 2, 1) := by decide +kernel
theorem dX5_open_9 : decode cX5_open 9 = .ok (.iconst 0, 1) := by decide +kernel
theorem dX5_open_10 : decode cX5_open 10 = .ok (.bipush 100, 2) := by decide +kernel
theorem dX5_open_12 : decode cX5_open 12 = .ok (.invokestatic 53, 3) := by decide +kernel
theorem dX5_open_15 : decode cX5_open 15 = .ok (.ifCond .ne 10, 3) := by decide +kernel
theorem dX5_open_18 : decode cX5_open 18 = .ok (.aload_n 0, 1) := by decide +kernel
theorem dX5_open_19 : decode cX5_open 19 = .ok (.ldc 57, 2) := by decide +kernel
theorem dX5_open_21 : decode cX5_open 21 = .ok (.invokevirtual 58, 3) := by decide +kernel
theorem dX5_open_24 : decode cX5_open 24 = .ok (.ireturn, 1) := by decide +kernel
theorem dX5_open_25 : decode cX5_open 25 = .ok (.iconst 0, 1) := by decide +kernel
theorem dX5_open_26 : decode cX5_open 26 = .ok (.istore_n 3, 1) := by decide +kernel
theorem dX5_open_27 : decode cX5_open 27 = .ok (.iload_n 3, 1) := by decide +kernel
theorem dX5_open_28 : decode cX5_open 28 = .ok (.bipush 99, 2) := by decide +kernel
theorem dX5_open_30 : decode cX5_open 30 = .ok (.if_icmp .gt 55, 3) := by decide +kernel
theorem dX5_open_33 : decode cX5_open 33 = .ok (.aload_n 0, 1) := by decide +kernel
theorem dX5_open_34 : decode cX5_open 34 = .ok (.getfield 16, 3) := by decide +kernel
theorem dX5_open_37 : decode cX5_open 37 = .ok (.aload_n 0, 1) := by decide +kernel
theorem dX5_open_38 : decode cX5_open 38 = .ok (.getfield 10, 3) := by decide +kernel
theorem dX5_open_41 : decode cX5_open 41 = .ok (.invokevirtual 171, 3) := by decide +kernel
theorem dX5_open_44 : decode cX5_open 44 = .ok (.aload_n 0, 1) := by decide +kernel
theorem dX5_open_45 : decode cX5_open 45 = .ok (.getfield 16, 3) := by decide +kernel
theorem dX5_open_48 : decode cX5_open 48 = .ok (.getfield 123, 3) := by decide +kernel
theorem dX5_open_51 : decode cX5_open 51 = .ok (.iload_n 1, 1) := by decide +kernel
theorem dX5_open_52 : decode cX5_open 52 = .ok (.aaload, 1) := by decide +kernel
theorem dX5_open_53 : decode cX5_open 53 = .ok (.iload_n 3, 1) := by decide +kernel
theorem dX5_open_54 : decode cX5_open 54 = .ok (.putfield 135, 3) := by decide +kernel
theorem dX5_open_57 : decode cX5_open 57 = .ok (.aload_n 0, 1) := by decide +kernel
theorem dX5_open_58 : decode cX5_open 58 = .ok (.getfield 16, 3) := by decide +kernel
theorem dX5_open_61 : decode cX5_open 61 = .ok (.aload_n 0, 1) := by decide +kernel
theorem dX5_open_62 : decode cX5_open 62 = .ok (.getfield 16, 3) := by decide +kernel
theorem dX5_open_65 : decode cX5_open 65 = .ok (.getfield 123, 3) := by decide +kernel
theorem dX5_open_68 : decode cX5_open 68 = .ok (.iload_n 1, 1) := by decide +kernel
theorem dX5_open_69 : decode cX5_open 69 = .ok (.aaload, 1) := by decide +kernel
theorem dX5_open_70 : decode cX5_open 70 = .ok (.iload_n 2, 1) := by decide +kernel
theorem dX5_open_71 : decode cX5_open 71 = .ok (.invokevirtual 185, 3) := by decide +kernel
theorem dX5_open_74 : decode cX5_open 74 = .ok (.ifCond .eq 5, 3) := by decide +kernel
theorem dX5_open_77 : decode cX5_open 77 = .ok (.iload_n 3, 1) := by decide +kernel
theorem dX5_open_78 : decode cX5_open 78 = .ok (.ireturn, 1) := by decide +kernel
theorem dX5_open_79 : decode cX5_open 79 = .ok (.iinc 3 1, 3) := by decide +kernel
theorem dX5_open_82 : decode cX5_open 82 = .ok (.goto (-55), 3) := by decide +kernel
theorem dX5_open_85 : decode cX5_open 85 = .ok (.aload_n 0, 1) := by decide +kernel
theorem dX5_open_86 : decode cX5_open 86 = .ok (.ldc 178, 2) := by decide +kernel
theorem dX5_open_88 : decode cX5_open 88 = .ok (.invokevirtual 58, 3) := by decide +kernel
theorem dX5_open_91 : decode cX5_open 91 = .ok (.ireturn, 1) := by decide +kernel
theorem dX5_bears_0 : decode cX5_bears 0 = .ok (.iload_n 1, 1) := by decide +kernel
theorem dX5_bears_1 : decode cX5_bears 1 = .ok (.invokestatic 65, 3) := by decide +kernel
theorem dX5_bears_4 : decode cX5_bears 4 = .ok (.ifCond .eq 13, 3) := by decide +kernel
theorem dX5_bears_7 : decode cX5_bears 7 = .ok (.iload_n 2, 1) := by decide +kernel
theorem dX5_bears_8 : decode cX5_bears 8 = .ok (.iconst 0, 1) := by decide +kernel
theorem dX5_bears_9 : decode cX5_bears 9 = .ok (.bipush 100, 2) := by decide +kernel
theorem dX5_bears_11 : decode cX5_bears 11 = .ok (.invokestatic 53, 3) := by decide +kernel
theorem dX5_bears_14 : decode cX5_bears 14 = .ok (.ifCond .ne 10, 3) := by decide +kernel
theorem dX5_bears_17 : decode cX5_bears 17 = .ok (.aload_n 0, 1) := by decide +kernel
theorem dX5_bears_18 : decode cX5_bears 18 = .ok (.ldc 57, 2) := by decide +kernel
theorem dX5_bears_20 : decode cX5_bears 20 = .ok (.invokevirtual 58, 3) := by decide +kernel
theorem dX5_bears_23 : decode cX5_bears 23 = .ok (.ireturn, 1) := by decide +kernel
theorem dX5_bears_24 : decode cX5_bears 24 = .ok (.iconst (-1), 1) := by decide +kernel
theorem dX5_bears_25 : decode cX5_bears 25 = .ok (.istore_n 3, 1) := by decide +kernel
theorem dX5_bears_26 : decode cX5_bears 26 = .ok (.sipush 1000, 3) := by decide +kernel
theorem dX5_bears_29 : decode cX5_bears 29 = .ok (.istore 4, 2) := by decide +kernel
theorem dX5_bears_31 : decode cX5_bears 31 = .ok (.iconst 0, 1) := by decide +kernel
theorem dX5_bears_32 : decode cX5_bears 32 = .ok (.istore 5, 2) := by decide +kernel
theorem dX5_bears_34 : decode cX5_bears 34 = .ok (.iload 5, 2) := by decide +kernel
theorem dX5_bears_36 : decode cX5_bears 36 = .ok (.bipush 10, 2) := by decide +kernel
theorem dX5_bears_38 : decode cX5_bears 38 = .ok (.if_icmp .ge 69, 3) := by decide +kernel
theorem dX5_bears_41 : decode cX5_bears 41 = .ok (.iload 4, 2) := by decide +kernel
theorem dX5_bears_43 : decode cX5_bears 43 = .ok (.iload_n 3, 1) := by decide +kernel
theorem dX5_bears_44 : decode cX5_bears 44 = .ok (.isub, 1) := by decide +kernel
theorem dX5_bears_45 : decode cX5_bears 45 = .ok (.iconst 1, 1) := by decide +kernel
theorem dX5_bears_46 : decode cX5_bears 46 = .ok (.if_icmp .le 61, 3) := by decide +kernel
theorem dX5_bears_49 : decode cX5_bears 49 = .ok (.iload_n 3, 1) := by decide +kernel
theorem dX5_bears_50 : decode cX5_bears 50 = .ok (.iload 4, 2) := by decide +kernel
theorem dX5_bears_52 : decode cX5_bears 52 = .ok (.iadd, 1) := by decide +kernel
theorem dX5_bears_53 : decode cX5_bears 53 = .ok (.iconst 2, 1) := by decide +kernel
theorem dX5_bears_54 : decode cX5_bears 54 = .ok (.idiv, 1) := by decide +kernel
theorem dX5_bears_55 : decode cX5_bears 55 = .ok (.istore 6, 2) := by decide +kernel
theorem dX5_bears_57 : decode cX5_bears 57 = .ok (.aload_n 0, 1) := by decide +kernel
theorem dX5_bears_58 : decode cX5_bears 58 = .ok (.getfield 16, 3) := by decide +kernel
theorem dX5_bears_61 : decode cX5_bears 61 = .ok (.aload_n 0, 1) := by decide +kernel
theorem dX5_bears_62 : decode cX5_bears 62 = .ok (.getfield 10, 3) := by decide +kernel
theorem dX5_bears_65 : decode cX5_bears 65 = .ok (.invokevirtual 171, 3) := by decide +kernel
theorem dX5_bears_68 : decode cX5_bears 68 = .ok (.aload_n 0, 1) := by decide +kernel
theorem dX5_bears_69 : decode cX5_bears 69 = .ok (.getfield 16, 3) := by decide +kernel
theorem dX5_bears_72 : decode cX5_bears 72 = .ok (.getfield 69, 3) := by decide +kernel
theorem dX5_bears_75 : decode cX5_bears 75 = .ok (.iload_n 1, 1) := by decide +kernel
theorem dX5_bears_76 : decode cX5_bears 76 = .ok (.iload 6, 2) := by decide +kernel
theorem dX5_bears_78 : decode cX5_bears 78 = .ok (.iastore, 1) := by decide +kernel
theorem dX5_bears_79 : decode cX5_bears 79 = .ok (.aload_n 0, 1) := by decide +kernel
theorem dX5_bears_80 : decode cX5_bears 80 = .ok (.getfield 16, 3) := by decide +kernel
theorem dX5_bears_83 : decode cX5_bears 83 = .ok (.iload_n 1, 1) := by decide +kernel
theorem dX5_bears_84 : decode cX5_bears 84 = .ok (.iload_n 2, 1) := by decide +kernel
theorem dX5_bears_85 : decode cX5_bears 85 = .ok (.invokevirtual 189, 3) := by decide +kernel
theorem dX5_bears_88 : decode cX5_bears 88 = .ok (.ifCond .eq 9, 3) := by decide +kernel
theorem dX5_bears_91 : decode cX5_bears 91 = .ok (.iload 6, 2) := by decide +kernel
theorem dX5_bears_93 : decode cX5_bears 93 = .ok (.istore_n 3, 1) := by decide +kernel
theorem dX5_bears_94 : decode cX5_bears 94 = .ok (.goto 7, 3) := by decide +kernel
theorem dX5_bears_97 : decode cX5_bears 97 = .ok (.iload 6, 2) := by decide +kernel
theorem dX5_bears_99 : decode cX5_bears 99 = .ok (.istore 4, 2) := by decide +kernel
theorem dX5_bears_101 : decode cX5_bears 101 = .ok (.iinc 5 1, 3) := by decide +kernel
theorem dX5_bears_104 : decode cX5_bears 104 = .ok (.goto (-70), 3) := by decide +kernel
theorem dX5_bears_107 : decode cX5_bears 107 = .ok (.iload_n 3, 1) := by decide +kernel
theorem dX5_bears_108 : decode cX5_bears 108 = .ok (.ifCond .ge 12, 3) := by decide +kernel
theorem dX5_bears_111 : decode cX5_bears 111 = .ok (.aload_n 0, 1) := by decide +kernel
theorem dX5_bears_112 : decode cX5_bears 112 = .ok (.ldc 178, 2) := by decide +kernel
theorem dX5_bears_114 : decode cX5_bears 114 = .ok (.invokevirtual 58, 3) := by decide +kernel
theorem dX5_bears_117 : decode cX5_bears 117 = .ok (.goto 4, 3) := by decide +kernel
theorem dX5_bears_120 : decode cX5_bears 120 = .ok (.iload_n 3, 1) := by decide +kernel
theorem dX5_bears_121 : decode cX5_bears 121 = .ok (.ireturn, 1) := by decide +kernel
theorem dX5_move_0 : decode cX5_move 0 = .ok (.aload_n 0, 1) := by decide +kernel
theorem dX5_move_1 : decode cX5_move 1 = .ok (.iload_n 1, 1) := by decide +kernel
theorem dX5_move_2 : decode cX5_move 2 = .ok (.invokevirtual 120, 3) := by decide +kernel
theorem dX5_move_5 : decode cX5_move 5 = .ok (.ifCond .eq 13, 3) := by decide +kernel
theorem dX5_move_8 : decode cX5_move 8 = .ok (.iload_n 2, 1) := by decide +kernel
theorem dX5_move_9 : decode cX5_move 9 = .ok (.iconst 1, 1) := by decide +kernel
theorem dX5_move_10 : decode cX5_move 10 = .ok (.bipush 100, 2) := by decide +kernel
theorem dX5_move_12 : decode cX5_move 12 = .ok (.invokestatic 53, 3) := by decide +kernel
theorem dX5_move_15 : decode cX5_move 15 = .ok (.ifCond .ne 10, 3) := by decide +kernel
theorem dX5_move_18 : decode cX5_move 18 = .ok (.aload_n 0, 1) := by decide +kernel
theorem dX5_move_19 : decode cX5_move 19 = .ok (.ldc 57, 2) := by decide +kernel
theorem dX5_move_21 : decode cX5_move 21 = .ok (.invokevirtual 58, 3) := by decide +kernel
theorem dX5_move_24 : decode cX5_move 24 = .ok (.ireturn, 1) := by decide +kernel
theorem dX5_move_25 : decode cX5_move 25 = .ok (.iconst (-1), 1) := by decide +kernel
theorem dX5_move_26 : decode cX5_move 26 = .ok (.istore_n 3, 1) := by decide +kernel
theorem dX5_move_27 : decode cX5_move 27 = .ok (.iconst 0, 1) := by decide +kernel
theorem dX5_move_28 : decode cX5_move 28 = .ok (.istore 4, 2) := by decide +kernel
theorem dX5_move_30 : decode cX5_move 30 = .ok (.iconst 0, 1) := by decide +kernel
theorem dX5_move_31 : decode cX5_move 31 = .ok (.istore 5, 2) := by decide +kernel
theorem dX5_move_33 : decode cX5_move 33 = .ok (.iload 5, 2) := by decide +kernel
theorem dX5_move_35 : decode cX5_move 35 = .ok (.iconst 4, 1) := by decide +kernel
theorem dX5_move_36 : decode cX5_move 36 = .ok (.if_icmp .ge 67, 3) := by decide +kernel
theorem dX5_move_39 : decode cX5_move 39 = .ok (.aload_n 0, 1) := by decide +kernel
theorem dX5_move_40 : decode cX5_move 40 = .ok (.getfield 16, 3) := by decide +kernel
theorem dX5_move_43 : decode cX5_move 43 = .ok (.aload_n 0, 1) := by decide +kernel
theorem dX5_move_44 : decode cX5_move 44 = .ok (.getfield 10, 3) := by decide +kernel
theorem dX5_move_47 : decode cX5_move 47 = .ok (.invokevirtual 171, 3) := by decide +kernel
theorem dX5_move_50 : decode cX5_move 50 = .ok (.aload_n 0, 1) := by decide +kernel
theorem dX5_move_51 : decode cX5_move 51 = .ok (.getfield 16, 3) := by decide +kernel
theorem dX5_move_54 : decode cX5_move 54 = .ok (.getfield 123, 3) := by decide +kernel
theorem dX5_move_57 : decode cX5_move 57 = .ok (.iload_n 1, 1) := by decide +kernel
theorem dX5_move_58 : decode cX5_move 58 = .ok (.aaload, 1) := by decide +kernel
theorem dX5_move_59 : decode cX5_move 59 = .ok (.iload 5, 2) := by decide +kernel
theorem dX5_move_61 : decode cX5_move 61 = .ok (.putfield 132, 3) := by decide +kernel
theorem dX5_move_64 : decode cX5_move 64 = .ok (.aload_n 0, 1) := by decide +kernel
theorem dX5_move_65 : decode cX5_move 65 = .ok (.getfield 16, 3) := by decide +kernel
theorem dX5_move_68 : decode cX5_move 68 = .ok (.iload_n 2, 1) := by decide +kernel
theorem dX5_move_69 : decode cX5_move 69 = .ok (.invokevirtual 167, 3) := by decide +kernel
theorem dX5_move_72 : decode cX5_move 72 = .ok (.aload_n 0, 1) := by decide +kernel
theorem dX5_move_73 : decode cX5_move 73 = .ok (.getfield 16, 3) := by decide +kernel
theorem dX5_move_76 : decode cX5_move 76 = .ok (.getfield 102, 3) := by decide +kernel
theorem dX5_move_79 : decode cX5_move 79 = .ok (.invokestatic 193, 3) := by decide +kernel
theorem dX5_move_82 : decode cX5_move 82 = .ok (.istore 6, 2) := by decide +kernel
theorem dX5_move_84 : decode cX5_move 84 = .ok (.iload 6, 2) := by decide +kernel
theorem dX5_move_86 : decode cX5_move 86 = .ok (.iload_n 3, 1) := by decide +kernel
theorem dX5_move_87 : decode cX5_move 87 = .ok (.if_icmp .le 10, 3) := by decide +kernel
theorem dX5_move_90 : decode cX5_move 90 = .ok (.iload 6, 2) := by decide +kernel
theorem dX5_move_92 : decode cX5_move 92 = .ok (.istore_n 3, 1) := by decide +kernel
theorem dX5_move_93 : decode cX5_move 93 = .ok (.iload 5, 2) := by decide +kernel
theorem dX5_move_95 : decode cX5_move 95 = .ok (.istore 4, 2) := by decide +kernel
theorem dX5_move_97 : decode cX5_move 97 = .ok (.iinc 5 1, 3) := by decide +kernel
theorem dX5_move_100 : decode cX5_move 100 = .ok (.goto (-67), 3) := by decide +kernel
theorem dX5_move_103 : decode cX5_move 103 = .ok (.iload 4, 2) := by decide +kernel
theorem dX5_move_105 : decode cX5_move 105 = .ok (.ireturn, 1) := by decide +kernel
theorem dX5_calm_0 : decode cX5_calm 0 = .ok (.iload_n 1, 1) := by decide +kernel
theorem dX5_calm_1 : decode cX5_calm 1 = .ok (.iconst 1, 1) := by decide +kernel
theorem dX5_calm_2 : decode cX5_calm 2 = .ok (.bipush 100, 2) := by decide +kernel
theorem dX5_calm_4 : decode cX5_calm 4 = .ok (.invokestatic 53, 3) := by decide +kernel
theorem dX5_calm_7 : decode cX5_calm 7 = .ok (.ifCond .ne 10, 3) := by decide +kernel
theorem dX5_calm_10 : decode cX5_calm 10 = .ok (.aload_n 0, 1) := by decide +kernel
theorem dX5_calm_11 : decode cX5_calm 11 = .ok (.ldc 57, 2) := by decide +kernel
theorem dX5_calm_13 : decode cX5_calm 13 = .ok (.invokevirtual 58, 3) := by decide +kernel
theorem dX5_calm_16 : decode cX5_calm 16 = .ok (.ireturn, 1) := by decide +kernel
theorem dX5_calm_17 : decode cX5_calm 17 = .ok (.iconst (-1), 1) := by decide +kernel
theorem dX5_calm_18 : decode cX5_calm 18 = .ok (.istore_n 2, 1) := by decide +kernel
theorem dX5_calm_19 : decode cX5_calm 19 = .ok (.iconst 0, 1) := by decide +kernel
theorem dX5_calm_20 : decode cX5_calm 20 = .ok (.istore_n 3, 1) := by decide +kernel
theorem dX5_calm_21 : decode cX5_calm 21 = .ok (.iconst 0, 1) := by decide +kernel
theorem dX5_calm_22 : decode cX5_calm 22 = .ok (.istore 4, 2) := by decide +kernel
theorem dX5_calm_24 : decode cX5_calm 24 = .ok (.iload 4, 2) := by decide +kernel
theorem dX5_calm_26 : decode cX5_calm 26 = .ok (.bipush 12, 2) := by decide +kernel
theorem dX5_calm_28 : decode cX5_calm 28 = .ok (.if_icmp .ge 63, 3) := by decide +kernel
theorem dX5_calm_31 : decode cX5_calm 31 = .ok (.aload_n 0, 1) := by decide +kernel
theorem dX5_calm_32 : decode cX5_calm 32 = .ok (.getfield 16, 3) := by decide +kernel
theorem dX5_calm_35 : decode cX5_calm 35 = .ok (.aload_n 0, 1) := by decide +kernel
theorem dX5_calm_36 : decode cX5_calm 36 = .ok (.getfield 10, 3) := by decide +kernel
theorem dX5_calm_39 : decode cX5_calm 39 = .ok (.invokevirtual 171, 3) := by decide +kernel
theorem dX5_calm_42 : decode cX5_calm 42 = .ok (.aload_n 0, 1) := by decide +kernel
theorem dX5_calm_43 : decode cX5_calm 43 = .ok (.getfield 16, 3) := by decide +kernel
theorem dX5_calm_46 : decode cX5_calm 46 = .ok (.getfield 62, 3) := by decide +kernel
theorem dX5_calm_49 : decode cX5_calm 49 = .ok (.iload 4, 2) := by decide +kernel
theorem dX5_calm_51 : decode cX5_calm 51 = .ok (.iconst 0, 1) := by decide +kernel
theorem dX5_calm_52 : decode cX5_calm 52 = .ok (.iastore, 1) := by decide +kernel
theorem dX5_calm_53 : decode cX5_calm 53 = .ok (.aload_n 0, 1) := by decide +kernel
theorem dX5_calm_54 : decode cX5_calm 54 = .ok (.getfield 16, 3) := by decide +kernel
theorem dX5_calm_57 : decode cX5_calm 57 = .ok (.iload_n 1, 1) := by decide +kernel
theorem dX5_calm_58 : decode cX5_calm 58 = .ok (.invokevirtual 167, 3) := by decide +kernel
theorem dX5_calm_61 : decode cX5_calm 61 = .ok (.aload_n 0, 1) := by decide +kernel
theorem dX5_calm_62 : decode cX5_calm 62 = .ok (.getfield 16, 3) := by decide +kernel
theorem dX5_calm_65 : decode cX5_calm 65 = .ok (.invokevirtual 82, 3) := by decide +kernel
theorem dX5_calm_68 : decode cX5_calm 68 = .ok (.invokestatic 193, 3) := by decide +kernel
theorem dX5_calm_71 : decode cX5_calm 71 = .ok (.istore 5, 2) := by decide +kernel
theorem dX5_calm_73 : decode cX5_calm 73 = .ok (.iload 5, 2) := by decide +kernel
theorem dX5_calm_75 : decode cX5_calm 75 = .ok (.iload_n 2, 1) := by decide +kernel
theorem dX5_calm_76 : decode cX5_calm 76 = .ok (.if_icmp .le 9, 3) := by decide +kernel
theorem dX5_calm_79 : decode cX5_calm 79 = .ok (.iload 5, 2) := by decide +kernel
theorem dX5_calm_81 : decode cX5_calm 81 = .ok (.istore_n 2, 1) := by decide +kernel
theorem dX5_calm_82 : decode cX5_calm 82 = .ok (.iload 4, 2) := by decide +kernel
theorem dX5_calm_84 : decode cX5_calm 84 = .ok (.istore_n 3, 1) := by decide +kernel
theorem dX5_calm_85 : decode cX5_calm 85 = .ok (.iinc 4 1, 3) := by decide +kernel
theorem dX5_calm_88 : decode cX5_calm 88 = .ok (.goto (-64), 3) := by decide +kernel
theorem dX5_calm_91 : decode cX5_calm 91 = .ok (.iload_n 3, 1) := by decide +kernel
theorem dX5_calm_92 : decode cX5_calm 92 = .ok (.ireturn, 1) := by decide +kernel
theorem dX5_firmest_0 : decode cX5_firmest 0 = .ok (.iload_n 1, 1) := by decide +kernel
theorem dX5_firmest_1 : decode cX5_firmest 1 = .ok (.iconst 0, 1) := by decide +kernel
theorem dX5_firmest_2 : decode cX5_firmest 2 = .ok (.sipush 200, 3) := by decide +kernel
theorem dX5_firmest_5 : decode cX5_firmest 5 = .ok (.invokestatic 53, 3) := by decide +kernel
theorem dX5_firmest_8 : decode cX5_firmest 8 = .ok (.ifCond .ne 10, 3) := by decide +kernel
theorem dX5_firmest_11 : decode cX5_firmest 11 = .ok (.aload_n 0, 1) := by decide +kernel
theorem dX5_firmest_12 : decode cX5_firmest 12 = .ok (.ldc 57, 2) := by decide +kernel
theorem dX5_firmest_14 : decode cX5_firmest 14 = .ok (.invokevirtual 58, 3) := by decide +kernel
theorem dX5_firmest_17 : decode cX5_firmest 17 = .ok (.ireturn, 1) := by decide +kernel
theorem dX5_firmest_18 : decode cX5_firmest 18 = .ok (.aload_n 0, 1) := by decide +kernel
theorem dX5_firmest_19 : decode cX5_firmest 19 = .ok (.getfield 16, 3) := by decide +kernel
theorem dX5_firmest_22 : decode cX5_firmest 22 = .ok (.aload_n 0, 1) := by decide +kernel
theorem dX5_firmest_23 : decode cX5_firmest 23 = .ok (.getfield 10, 3) := by decide +kernel
theorem dX5_firmest_26 : decode cX5_firmest 26 = .ok (.invokevirtual 171, 3) := by decide +kernel
theorem dX5_firmest_29 : decode cX5_firmest 29 = .ok (.aload_n 0, 1) := by decide +kernel
theorem dX5_firmest_30 : decode cX5_firmest 30 = .ok (.getfield 16, 3) := by decide +kernel
theorem dX5_firmest_33 : decode cX5_firmest 33 = .ok (.iload_n 1, 1) := by decide +kernel
theorem dX5_firmest_34 : decode cX5_firmest 34 = .ok (.invokevirtual 167, 3) := by decide +kernel
theorem dX5_firmest_37 : decode cX5_firmest 37 = .ok (.iconst (-1), 1) := by decide +kernel
theorem dX5_firmest_38 : decode cX5_firmest 38 = .ok (.istore_n 2, 1) := by decide +kernel
theorem dX5_firmest_39 : decode cX5_firmest 39 = .ok (.iconst (-1), 1) := by decide +kernel
theorem dX5_firmest_40 : decode cX5_firmest 40 = .ok (.istore_n 3, 1) := by decide +kernel
theorem dX5_firmest_41 : decode cX5_firmest 41 = .ok (.iconst 0, 1) := by decide +kernel
theorem dX5_firmest_42 : decode cX5_firmest 42 = .ok (.istore 4, 2) := by decide +kernel
theorem dX5_firmest_44 : decode cX5_firmest 44 = .ok (.iload 4, 2) := by decide +kernel
theorem dX5_firmest_46 : decode cX5_firmest 46 = .ok (.aload_n 0, 1) := by decide +kernel
theorem dX5_firmest_47 : decode cX5_firmest 47 = .ok (.getfield 16, 3) := by decide +kernel
theorem dX5_firmest_50 : decode cX5_firmest 50 = .ok (.getfield 182, 3) := by decide +kernel
theorem dX5_firmest_53 : decode cX5_firmest 53 = .ok (.if_icmp .ge 40, 3) := by decide +kernel
theorem dX5_firmest_56 : decode cX5_firmest 56 = .ok (.aload_n 0, 1) := by decide +kernel
theorem dX5_firmest_57 : decode cX5_firmest 57 = .ok (.getfield 16, 3) := by decide +kernel
theorem dX5_firmest_60 : decode cX5_firmest 60 = .ok (.aload_n 0, 1) := by decide +kernel
theorem dX5_firmest_61 : decode cX5_firmest 61 = .ok (.getfield 16, 3) := by decide +kernel
theorem dX5_firmest_64 : decode cX5_firmest 64 = .ok (.getfield 123, 3) := by decide +kernel
theorem dX5_firmest_67 : decode cX5_firmest 67 = .ok (.iload 4, 2) := by decide +kernel
theorem dX5_firmest_69 : decode cX5_firmest 69 = .ok (.aaload, 1) := by decide +kernel
theorem dX5_firmest_70 : decode cX5_firmest 70 = .ok (.invokevirtual 144, 3) := by decide +kernel
theorem dX5_firmest_73 : decode cX5_firmest 73 = .ok (.istore 5, 2) := by decide +kernel
theorem dX5_firmest_75 : decode cX5_firmest 75 = .ok (.iload 5, 2) := by decide +kernel
theorem dX5_firmest_77 : decode cX5_firmest 77 = .ok (.iload_n 2, 1) := by decide +kernel
theorem dX5_firmest_78 : decode cX5_firmest 78 = .ok (.if_icmp .le 9, 3) := by decide +kernel
theorem dX5_firmest_81 : decode cX5_firmest 81 = .ok (.iload 5, 2) := by decide +kernel
theorem dX5_firmest_83 : decode cX5_firmest 83 = .ok (.istore_n 2, 1) := by decide +kernel
theorem dX5_firmest_84 : decode cX5_firmest 84 = .ok (.iload 4, 2) := by decide +kernel
theorem dX5_firmest_86 : decode cX5_firmest 86 = .ok (.istore_n 3, 1) := by decide +kernel
theorem dX5_firmest_87 : decode cX5_firmest 87 = .ok (.iinc 4 1, 3) := by decide +kernel
theorem dX5_firmest_90 : decode cX5_firmest 90 = .ok (.goto (-46), 3) := by decide +kernel
theorem dX5_firmest_93 : decode cX5_firmest 93 = .ok (.iload_n 3, 1) := by decide +kernel
theorem dX5_firmest_94 : decode cX5_firmest 94 = .ok (.ifCond .ge 12, 3) := by decide +kernel
theorem dX5_firmest_97 : decode cX5_firmest 97 = .ok (.aload_n 0, 1) := by decide +kernel
theorem dX5_firmest_98 : decode cX5_firmest 98 = .ok (.ldc 178, 2) := by decide +kernel
theorem dX5_firmest_100 : decode cX5_firmest 100 = .ok (.invokevirtual 58, 3) := by decide +kernel
theorem dX5_firmest_103 : decode cX5_firmest 103 = .ok (.goto 4, 3) := by decide +kernel
theorem dX5_firmest_106 : decode cX5_firmest 106 = .ok (.iload_n 3, 1) := by decide +kernel
theorem dX5_firmest_107 : decode cX5_firmest 107 = .ok (.ireturn, 1) := by decide +kernel
theorem dX5_feed_0 : decode cX5_feed 0 = .ok (.iload_n 2, 1) := by decide +kernel
theorem dX5_feed_1 : decode cX5_feed 1 = .ok (.iconst 1, 1) := by decide +kernel
theorem dX5_feed_2 : decode cX5_feed 2 = .ok (.iconst 4, 1) := by decide +kernel
theorem dX5_feed_3 : decode cX5_feed 3 = .ok (.invokestatic 53, 3) := by decide +kernel
theorem dX5_feed_6 : decode cX5_feed 6 = .ok (.ifCond .ne 10, 3) := by decide +kernel
theorem dX5_feed_9 : decode cX5_feed 9 = .ok (.aload_n 0, 1) := by decide +kernel
theorem dX5_feed_10 : decode cX5_feed 10 = .ok (.ldc 57, 2) := by decide +kernel
theorem dX5_feed_12 : decode cX5_feed 12 = .ok (.invokevirtual 58, 3) := by decide +kernel
theorem dX5_feed_15 : decode cX5_feed 15 = .ok (.ireturn, 1) := by decide +kernel
theorem dX5_feed_16 : decode cX5_feed 16 = .ok (.aload_n 0, 1) := by decide +kernel
theorem dX5_feed_17 : decode cX5_feed 17 = .ok (.getfield 29, 3) := by decide +kernel
theorem dX5_feed_20 : decode cX5_feed 20 = .ok (.getfield 198, 3) := by decide +kernel
theorem dX5_feed_23 : decode cX5_feed 23 = .ok (.bipush 120, 2) := by decide +kernel
theorem dX5_feed_25 : decode cX5_feed 25 = .ok (.iload_n 2, 1) := by decide +kernel
theorem dX5_feed_26 : decode cX5_feed 26 = .ok (.isub, 1) := by decide +kernel
theorem dX5_feed_27 : decode cX5_feed 27 = .ok (.if_icmp .le 10, 3) := by decide +kernel
theorem dX5_feed_30 : decode cX5_feed 30 = .ok (.aload_n 0, 1) := by decide +kernel
theorem dX5_feed_31 : decode cX5_feed 31 = .ok (.ldc 115, 2) := by decide +kernel
theorem dX5_feed_33 : decode cX5_feed 33 = .ok (.invokevirtual 58, 3) := by decide +kernel
theorem dX5_feed_36 : decode cX5_feed 36 = .ok (.ireturn, 1) := by decide +kernel
theorem dX5_feed_37 : decode cX5_feed 37 = .ok (.iload_n 2, 1) := by decide +kernel
theorem dX5_feed_38 : decode cX5_feed 38 = .ok (.iconst 1, 1) := by decide +kernel
theorem dX5_feed_39 : decode cX5_feed 39 = .ok (.isub, 1) := by decide +kernel
theorem dX5_feed_40 : decode cX5_feed 40 = .ok (.istore_n 3, 1) := by decide +kernel
theorem dX5_feed_41 : decode cX5_feed 41 = .ok (.iload_n 3, 1) := by decide +kernel
theorem dX5_feed_42 : decode cX5_feed 42 = .ok (.ifCond .lt 26, 3) := by decide +kernel
theorem dX5_feed_45 : decode cX5_feed 45 = .ok (.aload_n 0, 1) := by decide +kernel
theorem dX5_feed_46 : decode cX5_feed 46 = .ok (.getfield 29, 3) := by decide +kernel
theorem dX5_feed_49 : decode cX5_feed 49 = .ok (.iload_n 1, 1) := by decide +kernel
theorem dX5_feed_50 : decode cX5_feed 50 = .ok (.bipush 8, 2) := by decide +kernel
theorem dX5_feed_52 : decode cX5_feed 52 = .ok (.iload_n 3, 1) := by decide +kernel
theorem dX5_feed_53 : decode cX5_feed 53 = .ok (.imul, 1) := by decide +kernel
theorem dX5_feed_54 : decode cX5_feed 54 = .ok (.iushr, 1) := by decide +kernel
theorem dX5_feed_55 : decode cX5_feed 55 = .ok (.sipush 255, 3) := by decide +kernel
theorem dX5_feed_58 : decode cX5_feed 58 = .ok (.iand, 1) := by decide +kernel
theorem dX5_feed_59 : decode cX5_feed 59 = .ok (.invokevirtual 201, 3) := by decide +kernel
theorem dX5_feed_62 : decode cX5_feed 62 = .ok (.iinc 3 (-1), 3) := by decide +kernel
theorem dX5_feed_65 : decode cX5_feed 65 = .ok (.goto (-24), 3) := by decide +kernel
theorem dX5_feed_68 : decode cX5_feed 68 = .ok (.aload_n 0, 1) := by decide +kernel
theorem dX5_feed_69 : decode cX5_feed 69 = .ok (.getfield 29, 3) := by decide +kernel
theorem dX5_feed_72 : decode cX5_feed 72 = .ok (.getfield 198, 3) := by decide +kernel
theorem dX5_feed_75 : decode cX5_feed 75 = .ok (.ireturn, 1) := by decide +kernel
theorem dX5_wipe_0 : decode cX5_wipe 0 = .ok (.aload_n 0, 1) := by decide +kernel
theorem dX5_wipe_1 : decode cX5_wipe 1 = .ok (.getfield 29, 3) := by decide +kernel
theorem dX5_wipe_4 : decode cX5_wipe 4 = .ok (.getfield 198, 3) := by decide +kernel
theorem dX5_wipe_7 : decode cX5_wipe 7 = .ok (.istore_n 1, 1) := by decide +kernel
theorem dX5_wipe_8 : decode cX5_wipe 8 = .ok (.aload_n 0, 1) := by decide +kernel
theorem dX5_wipe_9 : decode cX5_wipe 9 = .ok (.getfield 29, 3) := by decide +kernel
theorem dX5_wipe_12 : decode cX5_wipe 12 = .ok (.iconst 0, 1) := by decide +kernel
theorem dX5_wipe_13 : decode cX5_wipe 13 = .ok (.putfield 198, 3) := by decide +kernel
theorem dX5_wipe_16 : decode cX5_wipe 16 = .ok (.iload_n 1, 1) := by decide +kernel
theorem dX5_wipe_17 : decode cX5_wipe 17 = .ok (.ireturn, 1) := by decide +kernel
theorem dX5_yard_0 : decode cX5_yard 0 = .ok (.aload_n 0, 1) := by decide +kernel
theorem dX5_yard_1 : decode cX5_yard 1 = .ok (.getfield 16, 3) := by decide +kernel
theorem dX5_yard_4 : decode cX5_yard 4 = .ok (.aload_n 0, 1) := by decide +kernel
theorem dX5_yard_5 : decode cX5_yard 5 = .ok (.getfield 10, 3) := by decide +kernel
theorem dX5_yard_8 : decode cX5_yard 8 = .ok (.invokevirtual 171, 3) := by decide +kernel
theorem dX5_yard_11 : decode cX5_yard 11 = .ok (.aload_n 0, 1) := by decide +kernel
theorem dX5_yard_12 : decode cX5_yard 12 = .ok (.getfield 38, 3) := by decide +kernel
theorem dX5_yard_15 : decode cX5_yard 15 = .ok (.invokevirtual 204, 3) := by decide +kernel
theorem dX5_yard_18 : decode cX5_yard 18 = .ok (.istore_n 1, 1) := by decide +kernel
theorem dX5_yard_19 : decode cX5_yard 19 = .ok (.aload_n 0, 1) := by decide +kernel
theorem dX5_yard_20 : decode cX5_yard 20 = .ok (.getfield 29, 3) := by decide +kernel
theorem dX5_yard_23 : decode cX5_yard 23 = .ok (.iconst 0, 1) := by decide +kernel
theorem dX5_yard_24 : decode cX5_yard 24 = .ok (.putfield 198, 3) := by decide +kernel
theorem dX5_yard_27 : decode cX5_yard 27 = .ok (.iload_n 1, 1) := by decide +kernel
theorem dX5_yard_28 : decode cX5_yard 28 = .ok (.ifCond .lt 14, 3) := by decide +kernel
theorem dX5_yard_31 : decode cX5_yard 31 = .ok (.aload_n 0, 1) := by decide +kernel
theorem dX5_yard_32 : decode cX5_yard 32 = .ok (.getfield 10, 3) := by decide +kernel
theorem dX5_yard_35 : decode cX5_yard 35 = .ok (.aload_n 0, 1) := by decide +kernel
theorem dX5_yard_36 : decode cX5_yard 36 = .ok (.getfield 16, 3) := by decide +kernel
theorem dX5_yard_39 : decode cX5_yard 39 = .ok (.invokevirtual 171, 3) := by decide +kernel
theorem dX5_yard_42 : decode cX5_yard 42 = .ok (.iload_n 1, 1) := by decide +kernel
theorem dX5_yard_43 : decode cX5_yard 43 = .ok (.ireturn, 1) := by decide +kernel
theorem dX5_sheet_0 : decode cX5_sheet 0 = .ok (.iload_n 1, 1) := by decide +kernel
theorem dX5_sheet_1 : decode cX5_sheet 1 = .ok (.invokestatic 207, 3) := by decide +kernel
theorem dX5_sheet_4 : decode cX5_sheet 4 = .ok (.ifCond .eq 10, 3) := by decide +kernel
theorem dX5_sheet_7 : decode cX5_sheet 7 = .ok (.iload_n 2, 1) := by decide +kernel
theorem dX5_sheet_8 : decode cX5_sheet 8 = .ok (.invokestatic 210, 3) := by decide +kernel
theorem dX5_sheet_11 : decode cX5_sheet 11 = .ok (.ifCond .ne 10, 3) := by decide +kernel
theorem dX5_sheet_14 : decode cX5_sheet 14 = .ok (.aload_n 0, 1) := by decide +kernel
theorem dX5_sheet_15 : decode cX5_sheet 15 = .ok (.ldc 57, 2) := by decide +kernel
theorem dX5_sheet_17 : decode cX5_sheet 17 = .ok (.invokevirtual 58, 3) := by decide +kernel
theorem dX5_sheet_20 : decode cX5_sheet 20 = .ok (.ireturn, 1) := by decide +kernel
theorem dX5_sheet_21 : decode cX5_sheet 21 = .ok (.iload_n 3, 1) := by decide +kernel
theorem dX5_sheet_22 : decode cX5_sheet 22 = .ok (.ifCond .ge 10, 3) := by decide +kernel
theorem dX5_sheet_25 : decode cX5_sheet 25 = .ok (.aload_n 0, 1) := by decide +kernel
theorem dX5_sheet_26 : decode cX5_sheet 26 = .ok (.ldc 213, 2) := by decide +kernel
theorem dX5_sheet_28 : decode cX5_sheet 28 = .ok (.invokevirtual 58, 3) := by decide +kernel
theorem dX5_sheet_31 : decode cX5_sheet 31 = .ok (.ireturn, 1) := by decide +kernel
theorem dX5_sheet_32 : decode cX5_sheet 32 = .ok (.iload_n 3, 1) := by decide +kernel
theorem dX5_sheet_33 : decode cX5_sheet 33 = .ok (.bipush 40, 2) := by decide +kernel
theorem dX5_sheet_35 : decode cX5_sheet 35 = .ok (.if_icmp .le 10, 3) := by decide +kernel
theorem dX5_sheet_38 : decode cX5_sheet 38 = .ok (.aload_n 0, 1) := by decide +kernel
theorem dX5_sheet_39 : decode cX5_sheet 39 = .ok (.ldc 57, 2) := by decide +kernel
theorem dX5_sheet_41 : decode cX5_sheet 41 = .ok (.invokevirtual 58, 3) := by decide +kernel
theorem dX5_sheet_44 : decode cX5_sheet 44 = .ok (.ireturn, 1) := by decide +kernel
theorem dX5_sheet_45 : decode cX5_sheet 45 = .ok (.iload_n 2, 1) := by decide +kernel
theorem dX5_sheet_46 : decode cX5_sheet 46 = .ok (.ifCond .ne 7, 3) := by decide +kernel
theorem dX5_sheet_49 : decode cX5_sheet 49 = .ok (.iconst 0, 1) := by decide +kernel
theorem dX5_sheet_50 : decode cX5_sheet 50 = .ok (.goto 4, 3) := by decide +kernel
theorem dX5_sheet_53 : decode cX5_sheet 53 = .ok (.iload_n 3, 1) := by decide +kernel
theorem dX5_sheet_54 : decode cX5_sheet 54 = .ok (.istore 4, 2) := by decide +kernel
theorem dX5_sheet_56 : decode cX5_sheet 56 = .ok (.aload_n 0, 1) := by decide +kernel
theorem dX5_sheet_57 : decode cX5_sheet 57 = .ok (.getfield 44, 3) := by decide +kernel
theorem dX5_sheet_60 : decode cX5_sheet 60 = .ok (.iload_n 1, 1) := by decide +kernel
theorem dX5_sheet_61 : decode cX5_sheet 61 = .ok (.aaload, 1) := by decide +kernel
theorem dX5_sheet_62 : decode cX5_sheet 62 = .ok (.iload_n 2, 1) := by decide +kernel
theorem dX5_sheet_63 : decode cX5_sheet 63 = .ok (.iload 4, 2) := by decide +kernel
theorem dX5_sheet_65 : decode cX5_sheet 65 = .ok (.invokevirtual 214, 3) := by decide +kernel
theorem dX5_sheet_68 : decode cX5_sheet 68 = .ok (.iload 4, 2) := by decide +kernel
theorem dX5_sheet_70 : decode cX5_sheet 70 = .ok (.ireturn, 1) := by decide +kernel
theorem dX5_write_0 : decode cX5_write 0 = .ok (.iload_n 1, 1) := by decide +kernel
theorem dX5_write_1 : decode cX5_write 1 = .ok (.invokestatic 207, 3) := by decide +kernel
theorem dX5_write_4 : decode cX5_write 4 = .ok (.ifCond .ne 11, 3) := by decide +kernel
theorem dX5_write_7 : decode cX5_write 7 = .ok (.aload_n 0, 1) := by decide +kernel
theorem dX5_write_8 : decode cX5_write 8 = .ok (.ldc 57, 2) := by decide +kernel
theorem dX5_write_10 : decode cX5_write 10 = .ok (.invokevirtual 58, 3) := by decide +kernel
theorem dX5_write_13 : decode cX5_write 13 = .ok (.i2l, 1) := by decide +kernel
theorem dX5_write_14 : decode cX5_write 14 = .ok (.lreturn, 1) := by decide +kernel
theorem dX5_write_15 : decode cX5_write 15 = .ok (.aload_n 0, 1) := by decide +kernel
theorem dX5_write_16 : decode cX5_write 16 = .ok (.getfield 44, 3) := by decide +kernel
theorem dX5_write_19 : decode cX5_write 19 = .ok (.iload_n 1, 1) := by decide +kernel
theorem dX5_write_20 : decode cX5_write 20 = .ok (.aaload, 1) := by decide +kernel
theorem dX5_write_21 : decode cX5_write 21 = .ok (.astore 5, 2) := by decide +kernel
theorem dX5_write_23 : decode cX5_write 23 = .ok (.aload 5, 2) := by decide +kernel
theorem dX5_write_25 : decode cX5_write 25 = .ok (.invokevirtual 218, 3) := by decide +kernel
theorem dX5_write_28 : decode cX5_write 28 = .ok (.ifCond .eq 11, 3) := by decide +kernel
theorem dX5_write_31 : decode cX5_write 31 = .ok (.aload_n 0, 1) := by decide +kernel
theorem dX5_write_32 : decode cX5_write 32 = .ok (.ldc 221, 2) := by decide +kernel
theorem dX5_write_34 : decode cX5_write 34 = .ok (.invokevirtual 58, 3) := by decide +kernel
theorem dX5_write_37 : decode cX5_write 37 = .ok (.i2l, 1) := by decide +kernel
theorem dX5_write_38 : decode cX5_write 38 = .ok (.lreturn, 1) := by decide +kernel
theorem dX5_write_39 : decode cX5_write 39 = .ok (.iload_n 2, 1) := by decide +kernel
theorem dX5_write_40 : decode cX5_write 40 = .ok (.iconst 0, 1) := by decide +kernel
theorem dX5_write_41 : decode cX5_write 41 = .ok (.aload 5, 2) := by decide +kernel
theorem dX5_write_43 : decode cX5_write 43 = .ok (.getfield 222, 3) := by decide +kernel
theorem dX5_write_46 : decode cX5_write 46 = .ok (.iconst 1, 1) := by decide +kernel
theorem dX5_write_47 : decode cX5_write 47 = .ok (.isub, 1) := by decide +kernel
theorem dX5_write_48 : decode cX5_write 48 = .ok (.invokestatic 53, 3) := by decide +kernel
theorem dX5_write_51 : decode cX5_write 51 = .ok (.ifCond .ne 11, 3) := by decide +kernel
theorem dX5_write_54 : decode cX5_write 54 = .ok (.aload_n 0, 1) := by decide +kernel
theorem dX5_write_55 : decode cX5_write 55 = .ok (.ldc 57, 2) := by decide +kernel
theorem dX5_write_57 : decode cX5_write 57 = .ok (.invokevirtual 58, 3) := by decide +kernel
theorem dX5_write_60 : decode cX5_write 60 = .ok (.i2l, 1) := by decide +kernel
theorem dX5_write_61 : decode cX5_write 61 = .ok (.lreturn, 1) := by decide +kernel
theorem dX5_write_62 : decode cX5_write 62 = .ok (.aload 5, 2) := by decide +kernel
theorem dX5_write_64 : decode cX5_write 64 = .ok (.getfield 225, 3) := by decide +kernel
theorem dX5_write_67 : decode cX5_write 67 = .ok (.iload_n 2, 1) := by decide +kernel
theorem dX5_write_68 : decode cX5_write 68 = .ok (.laload, 1) := by decide +kernel
theorem dX5_write_69 : decode cX5_write 69 = .ok (.lstore 6, 2) := by decide +kernel
theorem dX5_write_71 : decode cX5_write 71 = .ok (.aload 5, 2) := by decide +kernel
theorem dX5_write_73 : decode cX5_write 73 = .ok (.iload_n 2, 1) := by decide +kernel
theorem dX5_write_74 : decode cX5_write 74 = .ok (.lload_n 3, 1) := by decide +kernel
theorem dX5_write_75 : decode cX5_write 75 = .ok (.invokevirtual 229, 3) := by decide +kernel
theorem dX5_write_78 : decode cX5_write 78 = .ok (.lload 6, 2) := by decide +kernel
theorem dX5_write_80 : decode cX5_write 80 = .ok (.lreturn, 1) := by decide +kernel
theorem dX5_copy_0 : decode cX5_copy 0 = .ok (.iload_n 1, 1) := by decide +kernel
theorem dX5_copy_1 : decode cX5_copy 1 = .ok (.invokestatic 207, 3) := by decide +kernel
theorem dX5_copy_4 : decode cX5_copy 4 = .ok (.ifCond .eq 10, 3) := by decide +kernel
theorem dX5_copy_7 : decode cX5_copy 7 = .ok (.iload_n 3, 1) := by decide +kernel
theorem dX5_copy_8 : decode cX5_copy 8 = .ok (.invokestatic 207, 3) := by decide +kernel
theorem dX5_copy_11 : decode cX5_copy 11 = .ok (.ifCond .ne 10, 3) := by decide +kernel
theorem dX5_copy_14 : decode cX5_copy 14 = .ok (.aload_n 0, 1) := by decide +kernel
theorem dX5_copy_15 : decode cX5_copy 15 = .ok (.ldc 57, 2) := by decide +kernel
theorem dX5_copy_17 : decode cX5_copy 17 = .ok (.invokevirtual 58, 3) := by decide +kernel
theorem dX5_copy_20 : decode cX5_copy 20 = .ok (.ireturn, 1) := by decide +kernel
theorem dX5_copy_21 : decode cX5_copy 21 = .ok (.aload_n 0, 1) := by decide +kernel
theorem dX5_copy_22 : decode cX5_copy 22 = .ok (.getfield 44, 3) := by decide +kernel
theorem dX5_copy_25 : decode cX5_copy 25 = .ok (.iload_n 1, 1) := by decide +kernel
theorem dX5_copy_26 : decode cX5_copy 26 = .ok (.aaload, 1) := by decide +kernel
theorem dX5_copy_27 : decode cX5_copy 27 = .ok (.astore 6, 2) := by decide +kernel
theorem dX5_copy_29 : decode cX5_copy 29 = .ok (.aload_n 0, 1) := by decide +kernel
theorem dX5_copy_30 : decode cX5_copy 30 = .ok (.getfield 44, 3) := by decide +kernel
theorem dX5_copy_33 : decode cX5_copy 33 = .ok (.iload_n 3, 1) := by decide +kernel
theorem dX5_copy_34 : decode cX5_copy 34 = .ok (.aaload, 1) := by decide +kernel
theorem dX5_copy_35 : decode cX5_copy 35 = .ok (.astore 7, 2) := by decide +kernel
theorem dX5_copy_37 : decode cX5_copy 37 = .ok (.aload 6, 2) := by decide +kernel
theorem dX5_copy_39 : decode cX5_copy 39 = .ok (.invokevirtual 218, 3) := by decide +kernel
theorem dX5_copy_42 : decode cX5_copy 42 = .ok (.ifCond .ne 11, 3) := by decide +kernel
theorem dX5_copy_45 : decode cX5_copy 45 = .ok (.aload 7, 2) := by decide +kernel
theorem dX5_copy_47 : decode cX5_copy 47 = .ok (.invokevirtual 218, 3) := by decide +kernel
theorem dX5_copy_50 : decode cX5_copy 50 = .ok (.ifCond .eq 10, 3) := by decide +kernel
theorem dX5_copy_53 : decode cX5_copy 53 = .ok (.aload_n 0, 1) := by decide +kernel
theorem dX5_copy_54 : decode cX5_copy 54 = .ok (.ldc 221, 2) := by decide +kernel
theorem dX5_copy_56 : decode cX5_copy 56 = .ok (.invokevirtual 58, 3) := by decide +kernel
theorem dX5_copy_59 : decode cX5_copy 59 = .ok (.ireturn, 1) := by decide +kernel
theorem dX5_copy_60 : decode cX5_copy 60 = .ok (.aload 6, 2) := by decide +kernel
theorem dX5_copy_62 : decode cX5_copy 62 = .ok (.getfield 233, 3) := by decide +kernel
theorem dX5_copy_65 : decode cX5_copy 65 = .ok (.aload 7, 2) := by decide +kernel
theorem dX5_copy_67 : decode cX5_copy 67 = .ok (.getfield 233, 3) := by decide +kernel
theorem dX5_copy_70 : decode cX5_copy 70 = .ok (.if_icmp .eq 10, 3) := by decide +kernel
theorem dX5_copy_73 : decode cX5_copy 73 = .ok (.aload_n 0, 1) := by decide +kernel
theorem dX5_copy_74 : decode cX5_copy 74 = .ok (.ldc 161, 2) := by decide +kernel
theorem dX5_copy_76 : decode cX5_copy 76 = .ok (.invokevirtual 58, 3) := by decide +kernel
theorem dX5_copy_79 : decode cX5_copy 79 = .ok (.ireturn, 1) := by decide +kernel
theorem dX5_copy_80 : decode cX5_copy 80 = .ok (.aload 6, 2) := by decide +kernel
theorem dX5_copy_82 : decode cX5_copy 82 = .ok (.iload_n 2, 1) := by decide +kernel
theorem dX5_copy_83 : decode cX5_copy 83 = .ok (.iload 5, 2) := by decide +kernel
theorem dX5_copy_85 : decode cX5_copy 85 = .ok (.invokevirtual 236, 3) := by decide +kernel
theorem dX5_copy_88 : decode cX5_copy 88 = .ok (.ifCond .eq 15, 3) := by decide +kernel
theorem dX5_copy_91 : decode cX5_copy 91 = .ok (.aload 7, 2) := by decide +kernel
theorem dX5_copy_93 : decode cX5_copy 93 = .ok (.iload 4, 2) := by decide +kernel
theorem dX5_copy_95 : decode cX5_copy 95 = .ok (.iload 5, 2) := by decide +kernel
theorem dX5_copy_97 : decode cX5_copy 97 = .ok (.invokevirtual 236, 3) := by decide +kernel
theorem dX5_copy_100 : decode cX5_copy 100 = .ok (.ifCond .ne 10, 3) := by decide +kernel
theorem dX5_copy_103 : decode cX5_copy 103 = .ok (.aload_n 0, 1) := by decide +kernel
theorem dX5_copy_104 : decode cX5_copy 104 = .ok (.ldc 57, 2) := by decide +kernel
theorem dX5_copy_106 : decode cX5_copy 106 = .ok (.invokevirtual 58, 3) := by decide +kernel
theorem dX5_copy_109 : decode cX5_copy 109 = .ok (.ireturn, 1) := by decide +kernel
theorem dX5_copy_110 : decode cX5_copy 110 = .ok (.aload 6, 2) := by decide +kernel
theorem dX5_copy_112 : decode cX5_copy 112 = .ok (.getfield 225, 3) := by decide +kernel
theorem dX5_copy_115 : decode cX5_copy 115 = .ok (.iload_n 2, 1) := by decide +kernel
theorem dX5_copy_116 : decode cX5_copy 116 = .ok (.aload 7, 2) := by decide +kernel
theorem dX5_copy_118 : decode cX5_copy 118 = .ok (.getfield 225, 3) := by decide +kernel
theorem dX5_copy_121 : decode cX5_copy 121 = .ok (.iload 4, 2) := by decide +kernel
theorem dX5_copy_123 : decode cX5_copy 123 = .ok (.iload 5, 2) := by decide +kernel
theorem dX5_copy_125 : decode cX5_copy 125 = .ok (.invokestatic 239, 3) := by decide +kernel
theorem dX5_copy_128 : decode cX5_copy 128 = .ok (.iload 5, 2) := by decide +kernel
theorem dX5_copy_130 : decode cX5_copy 130 = .ok (.ireturn, 1) := by decide +kernel
theorem dX5_lays_0 : decode cX5_lays 0 = .ok (.iload_n 1, 1) := by decide +kernel
theorem dX5_lays_1 : decode cX5_lays 1 = .ok (.invokestatic 207, 3) := by decide +kernel
theorem dX5_lays_4 : decode cX5_lays 4 = .ok (.ifCond .ne 10, 3) := by decide +kernel
theorem dX5_lays_7 : decode cX5_lays 7 = .ok (.aload_n 0, 1) := by decide +kernel
theorem dX5_lays_8 : decode cX5_lays 8 = .ok (.ldc 57, 2) := by decide +kernel
theorem dX5_lays_10 : decode cX5_lays 10 = .ok (.invokevirtual 58, 3) := by decide +kernel
theorem dX5_lays_13 : decode cX5_lays 13 = .ok (.ireturn, 1) := by decide +kernel
theorem dX5_lays_14 : decode cX5_lays 14 = .ok (.aload_n 0, 1) := by decide +kernel
theorem dX5_lays_15 : decode cX5_lays 15 = .ok (.getfield 44, 3) := by decide +kernel
theorem dX5_lays_18 : decode cX5_lays 18 = .ok (.iload_n 1, 1) := by decide +kernel
theorem dX5_lays_19 : decode cX5_lays 19 = .ok (.aaload, 1) := by decide +kernel
theorem dX5_lays_20 : decode cX5_lays 20 = .ok (.astore_n 2, 1) := by decide +kernel
theorem dX5_lays_21 : decode cX5_lays 21 = .ok (.aload_n 2, 1) := by decide +kernel
theorem dX5_lays_22 : decode cX5_lays 22 = .ok (.invokevirtual 218, 3) := by decide +kernel
theorem dX5_lays_25 : decode cX5_lays 25 = .ok (.ifCond .eq 10, 3) := by decide +kernel
theorem dX5_lays_28 : decode cX5_lays 28 = .ok (.aload_n 0, 1) := by decide +kernel
theorem dX5_lays_29 : decode cX5_lays 29 = .ok (.ldc 221, 2) := by decide +kernel
theorem dX5_lays_31 : decode cX5_lays 31 = .ok (.invokevirtual 58, 3) := by decide +kernel
theorem dX5_lays_34 : decode cX5_lays 34 = .ok (.ireturn, 1) := by decide +kernel
theorem dX5_lays_35 : decode cX5_lays 35 = .ok (.iconst 0, 1) := by decide +kernel
theorem dX5_lays_36 : decode cX5_lays 36 = .ok (.istore_n 3, 1) := by decide +kernel
theorem dX5_lays_37 : decode cX5_lays 37 = .ok (.iconst 0, 1) := by decide +kernel
theorem dX5_lays_38 : decode cX5_lays 38 = .ok (.istore 4, 2) := by decide +kernel
theorem dX5_lays_40 : decode cX5_lays 40 = .ok (.iload 4, 2) := by decide +kernel
theorem dX5_lays_42 : decode cX5_lays 42 = .ok (.bipush 12, 2) := by decide +kernel
theorem dX5_lays_44 : decode cX5_lays 44 = .ok (.if_icmp .ge 59, 3) := by decide +kernel
theorem dX5_lays_47 : decode cX5_lays 47 = .ok (.iload 4, 2) := by decide +kernel
theorem dX5_lays_49 : decode cX5_lays 49 = .ok (.aload_n 2, 1) := by decide +kernel
theorem dX5_lays_50 : decode cX5_lays 50 = .ok (.getfield 222, 3) := by decide +kernel
theorem dX5_lays_53 : decode cX5_lays 53 = .ok (.if_icmp .ge 50, 3) := by decide +kernel
theorem dX5_lays_56 : decode cX5_lays 56 = .ok (.aload_n 2, 1) := by decide +kernel
theorem dX5_lays_57 : decode cX5_lays 57 = .ok (.getfield 225, 3) := by decide +kernel
theorem dX5_lays_60 : decode cX5_lays 60 = .ok (.iload 4, 2) := by decide +kernel
theorem dX5_lays_62 : decode cX5_lays 62 = .ok (.laload, 1) := by decide +kernel
theorem dX5_lays_63 : decode cX5_lays 63 = .ok (.lstore 5, 2) := by decide +kernel
theorem dX5_lays_65 : decode cX5_lays 65 = .ok (.lload 5, 2) := by decide +kernel
theorem dX5_lays_67 : decode cX5_lays 67 = .ok (.lconst 0, 1) := by decide +kernel
theorem dX5_lays_68 : decode cX5_lays 68 = .ok (.lcmp, 1) := by decide +kernel
theorem dX5_lays_69 : decode cX5_lays 69 = .ok (.ifCond .lt 28, 3) := by decide +kernel
theorem dX5_lays_72 : decode cX5_lays 72 = .ok (.lload 5, 2) := by decide +kernel
theorem dX5_lays_74 : decode cX5_lays 74 = .ok (.ldc2_w 245, 3) := by decide +kernel
theorem dX5_lays_77 : decode cX5_lays 77 = .ok (.lcmp, 1) := by decide +kernel
theorem dX5_lays_78 : decode cX5_lays 78 = .ok (.ifCond .gt 19, 3) := by decide +kernel
theorem dX5_lays_81 : decode cX5_lays 81 = .ok (.aload_n 0, 1) := by decide +kernel
theorem dX5_lays_82 : decode cX5_lays 82 = .ok (.getfield 10, 3) := by decide +kernel
theorem dX5_lays_85 : decode cX5_lays 85 = .ok (.getfield 62, 3) := by decide +kernel
theorem dX5_lays_88 : decode cX5_lays 88 = .ok (.iload 4, 2) := by decide +kernel
theorem dX5_lays_90 : decode cX5_lays 90 = .ok (.lload 5, 2) := by decide +kernel
theorem dX5_lays_92 : decode cX5_lays 92 = .ok (.l2i, 1) := by decide +kernel
theorem dX5_lays_93 : decode cX5_lays 93 = .ok (.iastore, 1) := by decide +kernel
theorem dX5_lays_94 : decode cX5_lays 94 = .ok (.iinc 3 1, 3) := by decide +kernel
theorem dX5_lays_97 : decode cX5_lays 97 = .ok (.iinc 4 1, 3) := by decide +kernel
theorem dX5_lays_100 : decode cX5_lays 100 = .ok (.goto (-60), 3) := by decide +kernel
theorem dX5_lays_103 : decode cX5_lays 103 = .ok (.iload_n 3, 1) := by decide +kernel
theorem dX5_lays_104 : decode cX5_lays 104 = .ok (.ireturn, 1) := by decide +kernel
theorem dX5_book_0 : decode cX5_book 0 = .ok (.iload_n 1, 1) := by decide +kernel
theorem dX5_book_1 : decode cX5_book 1 = .ok (.invokestatic 207, 3) := by decide +kernel
theorem dX5_book_4 : decode cX5_book 4 = .ok (.ifCond .ne 10, 3) := by decide +kernel
theorem dX5_book_7 : decode cX5_book 7 = .ok (.aload_n 0, 1) := by decide +kernel
theorem dX5_book_8 : decode cX5_book 8 = .ok (.ldc 57, 2) := by decide +kernel
theorem dX5_book_10 : decode cX5_book 10 = .ok (.invokevirtual 58, 3) := by decide +kernel
theorem dX5_book_13 : decode cX5_book 13 = .ok (.ireturn, 1) := by decide +kernel
theorem dX5_book_14 : decode cX5_book 14 = .ok (.aload_n 0, 1) := by decide +kernel
theorem dX5_book_15 : decode cX5_book 15 = .ok (.getfield 44, 3) := by decide +kernel
theorem dX5_book_18 : decode cX5_book 18 = .ok (.iload_n 1, 1) := by decide +kernel
theorem dX5_book_19 : decode cX5_book 19 = .ok (.aaload, 1) := by decide +kernel
theorem dX5_book_20 : decode cX5_book 20 = .ok (.astore_n 3, 1) := by decide +kernel
theorem dX5_book_21 : decode cX5_book 21 = .ok (.aload_n 3, 1) := by decide +kernel
theorem dX5_book_22 : decode cX5_book 22 = .ok (.invokevirtual 218, 3) := by decide +kernel
theorem dX5_book_25 : decode cX5_book 25 = .ok (.ifCond .eq 10, 3) := by decide +kernel
theorem dX5_book_28 : decode cX5_book 28 = .ok (.aload_n 0, 1) := by decide +kernel
theorem dX5_book_29 : decode cX5_book 29 = .ok (.ldc 221, 2) := by decide +kernel
theorem dX5_book_31 : decode cX5_book 31 = .ok (.invokevirtual 58, 3) := by decide +kernel
theorem dX5_book_34 : decode cX5_book 34 = .ok (.ireturn, 1) := by decide +kernel
theorem dX5_book_35 : decode cX5_book 35 = .ok (.aload_n 0, 1) := by decide +kernel
theorem dX5_book_36 : decode cX5_book 36 = .ok (.iload_n 2, 1) := by decide +kernel
theorem dX5_book_37 : decode cX5_book 37 = .ok (.invokevirtual 120, 3) := by decide +kernel
theorem dX5_book_40 : decode cX5_book 40 = .ok (.ifCond .ne 10, 3) := by decide +kernel
theorem dX5_book_43 : decode cX5_book 43 = .ok (.aload_n 0, 1) := by decide +kernel
theorem dX5_book_44 : decode cX5_book 44 = .ok (.ldc 57, 2) := by decide +kernel
theorem dX5_book_46 : decode cX5_book 46 = .ok (.invokevirtual 58, 3) := by decide +kernel
theorem dX5_book_49 : decode cX5_book 49 = .ok (.ireturn, 1) := by decide +kernel
theorem dX5_book_50 : decode cX5_book 50 = .ok (.aload_n 0, 1) := by decide +kernel
theorem dX5_book_51 : decode cX5_book 51 = .ok (.getfield 16, 3) := by decide +kernel
theorem dX5_book_54 : decode cX5_book 54 = .ok (.aload_n 0, 1) := by decide +kernel
theorem dX5_book_55 : decode cX5_book 55 = .ok (.getfield 10, 3) := by decide +kernel
theorem dX5_book_58 : decode cX5_book 58 = .ok (.invokevirtual 171, 3) := by decide +kernel
theorem dX5_book_61 : decode cX5_book 61 = .ok (.iconst 0, 1) := by decide +kernel
theorem dX5_book_62 : decode cX5_book 62 = .ok (.istore 4, 2) := by decide +kernel
theorem dX5_book_64 : decode cX5_book 64 = .ok (.iload 4, 2) := by decide +kernel
theorem dX5_book_66 : decode cX5_book 66 = .ok (.aload_n 3, 1) := by decide +kernel
theorem dX5_book_67 : decode cX5_book 67 = .ok (.getfield 222, 3) := by decide +kernel
theorem dX5_book_70 : decode cX5_book 70 = .ok (.if_icmp .ge 35, 3) := by decide +kernel
theorem dX5_book_73 : decode cX5_book 73 = .ok (.aload_n 3, 1) := by decide +kernel
theorem dX5_book_74 : decode cX5_book 74 = .ok (.iload 4, 2) := by decide +kernel
theorem dX5_book_76 : decode cX5_book 76 = .ok (.aload_n 0, 1) := by decide +kernel
theorem dX5_book_77 : decode cX5_book 77 = .ok (.getfield 16, 3) := by decide +kernel
theorem dX5_book_80 : decode cX5_book 80 = .ok (.getfield 123, 3) := by decide +kernel
theorem dX5_book_83 : decode cX5_book 83 = .ok (.iload_n 2, 1) := by decide +kernel
theorem dX5_book_84 : decode cX5_book 84 = .ok (.aaload, 1) := by decide +kernel
theorem dX5_book_85 : decode cX5_book 85 = .ok (.getfield 135, 3) := by decide +kernel
theorem dX5_book_88 : decode cX5_book 88 = .ok (.i2l, 1) := by decide +kernel
theorem dX5_book_89 : decode cX5_book 89 = .ok (.invokevirtual 229, 3) := by decide +kernel
theorem dX5_book_92 : decode cX5_book 92 = .ok (.aload_n 0, 1) := by decide +kernel
theorem dX5_book_93 : decode cX5_book 93 = .ok (.getfield 16, 3) := by decide +kernel
theorem dX5_book_96 : decode cX5_book 96 = .ok (.invokevirtual 247, 3) := by decide +kernel
theorem dX5_book_99 : decode cX5_book 99 = .ok (.iinc 4 1, 3) := by decide +kernel
theorem dX5_book_102 : decode cX5_book 102 = .ok (.goto (-38), 3) := by decide +kernel
theorem dX5_book_105 : decode cX5_book 105 = .ok (.aload_n 3, 1) := by decide +kernel
theorem dX5_book_106 : decode cX5_book 106 = .ok (.getfield 222, 3) := by decide +kernel
theorem dX5_book_109 : decode cX5_book 109 = .ok (.ireturn, 1) := by decide +kernel
theorem dX5_read_0 : decode cX5_read 0 = .ok (.iload_n 1, 1) := by decide +kernel
theorem dX5_read_1 : decode cX5_read 1 = .ok (.invokestatic 207, 3) := by decide +kernel
theorem dX5_read_4 : decode cX5_read 4 = .ok (.ifCond .ne 10, 3) := by decide +kernel
theorem dX5_read_7 : decode cX5_read 7 = .ok (.aload_n 0, 1) := by decide +kernel
theorem dX5_read_8 : decode cX5_read 8 = .ok (.ldc 57, 2) := by decide +kernel
theorem dX5_read_10 : decode cX5_read 10 = .ok (.invokevirtual 58, 3) := by decide +kernel
theorem dX5_read_13 : decode cX5_read 13 = .ok (.ireturn, 1) := by decide +kernel
theorem dX5_read_14 : decode cX5_read 14 = .ok (.aload_n 0, 1) := by decide +kernel
theorem dX5_read_15 : decode cX5_read 15 = .ok (.getfield 44, 3) := by decide +kernel
theorem dX5_read_18 : decode cX5_read 18 = .ok (.iload_n 1, 1) := by decide +kernel
theorem dX5_read_19 : decode cX5_read 19 = .ok (.aaload, 1) := by decide +kernel
theorem dX5_read_20 : decode cX5_read 20 = .ok (.astore_n 3, 1) := by decide +kernel
theorem dX5_read_21 : decode cX5_read 21 = .ok (.aload_n 3, 1) := by decide +kernel
theorem dX5_read_22 : decode cX5_read 22 = .ok (.invokevirtual 218, 3) := by decide +kernel
theorem dX5_read_25 : decode cX5_read 25 = .ok (.ifCond .eq 10, 3) := by decide +kernel
theorem dX5_read_28 : decode cX5_read 28 = .ok (.aload_n 0, 1) := by decide +kernel
theorem dX5_read_29 : decode cX5_read 29 = .ok (.ldc 221, 2) := by decide +kernel
theorem dX5_read_31 : decode cX5_read 31 = .ok (.invokevirtual 58, 3) := by decide +kernel
theorem dX5_read_34 : decode cX5_read 34 = .ok (.ireturn, 1) := by decide +kernel
theorem dX5_read_35 : decode cX5_read 35 = .ok (.aload_n 0, 1) := by decide +kernel
theorem dX5_read_36 : decode cX5_read 36 = .ok (.iload_n 2, 1) := by decide +kernel
theorem dX5_read_37 : decode cX5_read 37 = .ok (.invokevirtual 120, 3) := by decide +kernel
theorem dX5_read_40 : decode cX5_read 40 = .ok (.ifCond .ne 10, 3) := by decide +kernel
theorem dX5_read_43 : decode cX5_read 43 = .ok (.aload_n 0, 1) := by decide +kernel
theorem dX5_read_44 : decode cX5_read 44 = .ok (.ldc 57, 2) := by decide +kernel
theorem dX5_read_46 : decode cX5_read 46 = .ok (.invokevirtual 58, 3) := by decide +kernel
theorem dX5_read_49 : decode cX5_read 49 = .ok (.ireturn, 1) := by decide +kernel
theorem dX5_read_50 : decode cX5_read 50 = .ok (.iconst 0, 1) := by decide +kernel
theorem dX5_read_51 : decode cX5_read 51 = .ok (.istore 4, 2) := by decide +kernel
theorem dX5_read_53 : decode cX5_read 53 = .ok (.iconst 0, 1) := by decide +kernel
theorem dX5_read_54 : decode cX5_read 54 = .ok (.istore 5, 2) := by decide +kernel
theorem dX5_read_56 : decode cX5_read 56 = .ok (.iload 5, 2) := by decide +kernel
theorem dX5_read_58 : decode cX5_read 58 = .ok (.bipush 6, 2) := by decide +kernel
theorem dX5_read_60 : decode cX5_read 60 = .ok (.if_icmp .ge 50, 3) := by decide +kernel
theorem dX5_read_63 : decode cX5_read 63 = .ok (.iconst 0, 1) := by decide +kernel
theorem dX5_read_64 : decode cX5_read 64 = .ok (.istore 6, 2) := by decide +kernel
theorem dX5_read_66 : decode cX5_read 66 = .ok (.iload 6, 2) := by decide +kernel
theorem dX5_read_68 : decode cX5_read 68 = .ok (.bipush 99, 2) := by decide +kernel
theorem dX5_read_70 : decode cX5_read 70 = .ok (.if_icmp .gt 34, 3) := by decide +kernel
theorem dX5_read_73 : decode cX5_read 73 = .ok (.aload_n 3, 1) := by decide +kernel
theorem dX5_read_74 : decode cX5_read 74 = .ok (.iload 6, 2) := by decide +kernel
theorem dX5_read_76 : decode cX5_read 76 = .ok (.invokevirtual 250, 3) := by decide +kernel
theorem dX5_read_79 : decode cX5_read 79 = .ok (.ifCond .eq 19, 3) := by decide +kernel
theorem dX5_read_82 : decode cX5_read 82 = .ok (.aload_n 0, 1) := by decide +kernel
theorem dX5_read_83 : decode cX5_read 83 = .ok (.aload_n 3, 1) := by decide +kernel
theorem dX5_read_84 : decode cX5_read 84 = .ok (.iload_n 2, 1) := by decide +kernel
theorem dX5_read_85 : decode cX5_read 85 = .ok (.iload 5, 2) := by decide +kernel
theorem dX5_read_87 : decode cX5_read 87 = .ok (.iload 6, 2) := by decide +kernel
theorem dX5_read_89 : decode cX5_read 89 = .ok (.invokevirtual 253, 3) := by decide +kernel
theorem dX5_read_92 : decode cX5_read 92 = .ok (.ifCond .eq 6, 3) := by decide +kernel
theorem dX5_read_95 : decode cX5_read 95 = .ok (.iinc 4 1, 3) := by decide +kernel
theorem dX5_read_98 : decode cX5_read 98 = .ok (.iinc 6 1, 3) := by decide +kernel
theorem dX5_read_101 : decode cX5_read 101 = .ok (.goto (-35), 3) := by decide +kernel
theorem dX5_read_104 : decode cX5_read 104 = .ok (.iinc 5 1, 3) := by decide +kernel
theorem dX5_read_107 : decode cX5_read 107 = .ok (.goto (-51), 3) := by decide +kernel
theorem dX5_read_110 : decode cX5_read 110 = .ok (.iload 4, 2) := by decide +kernel
theorem dX5_read_112 : decode cX5_read 112 = .ok (.ireturn, 1) := by decide +kernel
theorem dX5_image_0 : decode cX5_image 0 = .ok (.aload_n 0, 1) := by decide +kernel
theorem dX5_image_1 : decode cX5_image 1 = .ok (.getfield 19, 3) := by decide +kernel
theorem dX5_image_4 : decode cX5_image 4 = .ok (.aload_n 0, 1) := by decide +kernel
theorem dX5_image_5 : decode cX5_image 5 = .ok (.getfield 10, 3) := by decide +kernel
theorem dX5_image_8 : decode cX5_image 8 = .ok (.invokevirtual 171, 3) := by decide +kernel
theorem dX5_image_11 : decode cX5_image 11 = .ok (.aload_n 0, 1) := by decide +kernel
theorem dX5_image_12 : decode cX5_image 12 = .ok (.iconst 1, 1) := by decide +kernel
theorem dX5_image_13 : decode cX5_image 13 = .ok (.putfield 22, 3) := by decide +kernel
theorem dX5_image_16 : decode cX5_image 16 = .ok (.iconst 1, 1) := by decide +kernel
theorem dX5_image_17 : decode cX5_image 17 = .ok (.ireturn, 1) := by decide +kernel
theorem dX5_undo_0 : decode cX5_undo 0 = .ok (.aload_n 0, 1) := by decide +kernel
theorem dX5_undo_1 : decode cX5_undo 1 = .ok (.getfield 22, 3) := by decide +kernel
theorem dX5_undo_4 : decode cX5_undo 4 = .ok (.ifCond .ne 10, 3) := by decide +kernel
theorem dX5_undo_7 : decode cX5_undo 7 = .ok (.aload_n 0, 1) := by decide +kernel
theorem dX5_undo_8 : decode cX5_undo 8 = .ok (.ldc 178, 2) := by decide +kernel
theorem dX5_undo_10 : decode cX5_undo 10 = .ok (.invokevirtual 58, 3) := by decide +kernel
theorem dX5_undo_13 : decode cX5_undo 13 = .ok (.ireturn, 1) := by decide +kernel
theorem dX5_undo_14 : decode cX5_undo 14 = .ok (.aload_n 0, 1) := by decide +kernel
theorem dX5_undo_15 : decode cX5_undo 15 = .ok (.getfield 10, 3) := by decide +kernel
theorem dX5_undo_18 : decode cX5_undo 18 = .ok (.aload_n 0, 1) := by decide +kernel
theorem dX5_undo_19 : decode cX5_undo 19 = .ok (.getfield 19, 3) := by decide +kernel
theorem dX5_undo_22 : decode cX5_undo 22 = .ok (.invokevirtual 171, 3) := by decide +kernel
theorem dX5_undo_25 : decode cX5_undo 25 = .ok (.aload_n 0, 1) := by decide +kernel
theorem dX5_undo_26 : decode cX5_undo 26 = .ok (.getfield 10, 3) := by decide +kernel
theorem dX5_undo_29 : decode cX5_undo 29 = .ok (.getfield 182, 3) := by decide +kernel
theorem dX5_undo_32 : decode cX5_undo 32 = .ok (.ireturn, 1) := by decide +kernel
theorem dX5_tear_0 : decode cX5_tear 0 = .ok (.aload_n 0, 1) := by decide +kernel
theorem dX5_tear_1 : decode cX5_tear 1 = .ok (.getfield 22, 3) := by decide +kernel
theorem dX5_tear_4 : decode cX5_tear 4 = .ok (.ifCond .eq 7, 3) := by decide +kernel
theorem dX5_tear_7 : decode cX5_tear 7 = .ok (.iconst 1, 1) := by decide +kernel
theorem dX5_tear_8 : decode cX5_tear 8 = .ok (.goto 4, 3) := by decide +kernel
theorem dX5_tear_11 : decode cX5_tear 11 = .ok (.iconst 0, 1) := by decide +kernel
theorem dX5_tear_12 : decode cX5_tear 12 = .ok (.istore_n 1, 1) := by decide +kernel
theorem dX5_tear_13 : decode cX5_tear 13 = .ok (.aload_n 0, 1) := by decide +kernel
theorem dX5_tear_14 : decode cX5_tear 14 = .ok (.iconst 0, 1) := by decide +kernel
theorem dX5_tear_15 : decode cX5_tear 15 = .ok (.putfield 22, 3) := by decide +kernel
theorem dX5_tear_18 : decode cX5_tear 18 = .ok (.iload_n 1, 1) := by decide +kernel
theorem dX5_tear_19 : decode cX5_tear 19 = .ok (.ireturn, 1) := by decide +kernel
theorem dX5_count_0 : decode cX5_count 0 = .ok (.iload_n 1, 1) := by decide +kernel
theorem dX5_count_1 : decode cX5_count 1 = .ok (.tableswitch 63 0 3 #[31, 39, 47, 55], 31) := by decide +kernel
theorem dX5_count_32 : decode cX5_count 32 = .ok (.aload_n 0, 1) := by decide +kernel
theorem dX5_count_33 : decode cX5_count 33 = .ok (.getfield 10, 3) := by decide +kernel
theorem dX5_count_36 : decode cX5_count 36 = .ok (.getfield 182, 3) := by decide +kernel
theorem dX5_count_39 : decode cX5_count 39 = .ok (.ireturn, 1) := by decide +kernel
theorem dX5_count_40 : decode cX5_count 40 = .ok (.aload_n 0, 1) := by decide +kernel
theorem dX5_count_41 : decode cX5_count 41 = .ok (.getfield 29, 3) := by decide +kernel
theorem dX5_count_44 : decode cX5_count 44 = .ok (.getfield 198, 3) := by decide +kernel
theorem dX5_count_47 : decode cX5_count 47 = .ok (.ireturn, 1) := by decide +kernel
theorem dX5_count_48 : decode cX5_count 48 = .ok (.aload_n 0, 1) := by decide +kernel
theorem dX5_count_49 : decode cX5_count 49 = .ok (.getfield 10, 3) := by decide +kernel
theorem dX5_count_52 : decode cX5_count 52 = .ok (.invokevirtual 257, 3) := by decide +kernel
theorem dX5_count_55 : decode cX5_count 55 = .ok (.ireturn, 1) := by decide +kernel
theorem dX5_count_56 : decode cX5_count 56 = .ok (.aload_n 0, 1) := by decide +kernel
theorem dX5_count_57 : decode cX5_count 57 = .ok (.getfield 10, 3) := by decide +kernel
theorem dX5_count_60 : decode cX5_count 60 = .ok (.invokevirtual 260, 3) := by decide +kernel
theorem dX5_count_63 : decode cX5_count 63 = .ok (.ireturn, 1) := by decide +kernel
theorem dX5_count_64 : decode cX5_count 64 = .ok (.aload_n 0, 1) := by decide +kernel
theorem dX5_count_65 : decode cX5_count 65 = .ok (.ldc 57, 2) := by decide +kernel
theorem dX5_count_67 : decode cX5_count 67 = .ok (.invokevirtual 58, 3) := by decide +kernel
theorem dX5_count_70 : decode cX5_count 70 = .ok (.ireturn, 1) := by decide +kernel
theorem dX5_status_0 : decode cX5_status 0 = .ok (.iload_n 1, 1) := by decide +kernel
theorem dX5_status_1 : decode cX5_status 1 = .ok (.iconst (-1), 1) := by decide +kernel
theorem dX5_status_2 : decode cX5_status 2 = .ok (.if_icmp .ne 8, 3) := by decide +kernel
theorem dX5_status_5 : decode cX5_status 5 = .ok (.aload_n 0, 1) := by decide +kernel
theorem dX5_status_6 : decode cX5_status 6 = .ok (.invokevirtual 263, 3) := by decide +kernel
theorem dX5_status_9 : decode cX5_status 9 = .ok (.ireturn, 1) := by decide +kernel
theorem dX5_status_10 : decode cX5_status 10 = .ok (.iload_n 1, 1) := by decide +kernel
theorem dX5_status_11 : decode cX5_status 11 = .ok (.iconst 0, 1) := by decide +kernel
theorem dX5_status_12 : decode cX5_status 12 = .ok (.bipush 6, 2) := by decide +kernel
theorem dX5_status_14 : decode cX5_status 14 = .ok (.invokestatic 53, 3) := by decide +kernel
theorem dX5_status_17 : decode cX5_status 17 = .ok (.ifCond .eq 12, 3) := by decide +kernel
theorem dX5_status_20 : decode cX5_status 20 = .ok (.aload_n 0, 1) := by decide +kernel
theorem dX5_status_21 : decode cX5_status 21 = .ok (.getfield 48, 3) := by decide +kernel
theorem dX5_status_24 : decode cX5_status 24 = .ok (.iload_n 1, 1) := by decide +kernel
theorem dX5_status_25 : decode cX5_status 25 = .ok (.iaload, 1) := by decide +kernel
theorem dX5_status_26 : decode cX5_status 26 = .ok (.goto 9, 3) := by decide +kernel
theorem dX5_status_29 : decode cX5_status 29 = .ok (.aload_n 0, 1) := by decide +kernel
theorem dX5_status_30 : decode cX5_status 30 = .ok (.ldc 57, 2) := by decide +kernel
theorem dX5_status_32 : decode cX5_status 32 = .ok (.invokevirtual 58, 3) := by decide +kernel
theorem dX5_status_35 : decode cX5_status 35 = .ok (.ireturn, 1) := by decide +kernel
theorem dX5_tell_0 : decode cX5_tell 0 = .ok (.ldc 57, 2) := by decide +kernel
theorem dX5_tell_2 : decode cX5_tell 2 = .ok (.iload_n 1, 1) := by decide +kernel
theorem dX5_tell_3 : decode cX5_tell 3 = .ok (.isub, 1) := by decide +kernel
theorem dX5_tell_4 : decode cX5_tell 4 = .ok (.istore_n 2, 1) := by decide +kernel
theorem dX5_tell_5 : decode cX5_tell 5 = .ok (.iload_n 2, 1) := by decide +kernel
theorem dX5_tell_6 : decode cX5_tell 6 = .ok (.iconst 0, 1) := by decide +kernel
theorem dX5_tell_7 : decode cX5_tell 7 = .ok (.bipush 6, 2) := by decide +kernel
theorem dX5_tell_9 : decode cX5_tell 9 = .ok (.invokestatic 53, 3) := by decide +kernel
theorem dX5_tell_12 : decode cX5_tell 12 = .ok (.ifCond .eq 13, 3) := by decide +kernel
theorem dX5_tell_15 : decode cX5_tell 15 = .ok (.aload_n 0, 1) := by decide +kernel
theorem dX5_tell_16 : decode cX5_tell 16 = .ok (.getfield 48, 3) := by decide +kernel
theorem dX5_tell_19 : decode cX5_tell 19 = .ok (.iload_n 2, 1) := by decide +kernel
theorem dX5_tell_20 : decode cX5_tell 20 = .ok (.dup2, 1) := by decide +kernel
theorem dX5_tell_21 : decode cX5_tell 21 = .ok (.iaload, 1) := by decide +kernel
theorem dX5_tell_22 : decode cX5_tell 22 = .ok (.iconst 1, 1) := by decide +kernel
theorem dX5_tell_23 : decode cX5_tell 23 = .ok (.iadd, 1) := by decide +kernel
theorem dX5_tell_24 : decode cX5_tell 24 = .ok (.iastore, 1) := by decide +kernel
theorem dX5_tell_25 : decode cX5_tell 25 = .ok (.iload_n 1, 1) := by decide +kernel
theorem dX5_tell_26 : decode cX5_tell 26 = .ok (.ireturn, 1) := by decide +kernel
theorem dX5_allTold_0 : decode cX5_allTold 0 = .ok (.iconst 0, 1) := by decide +kernel
theorem dX5_allTold_1 : decode cX5_allTold 1 = .ok (.istore_n 1, 1) := by decide +kernel
theorem dX5_allTold_2 : decode cX5_allTold 2 = .ok (.iconst 0, 1) := by decide +kernel
theorem dX5_allTold_3 : decode cX5_allTold 3 = .ok (.istore_n 2, 1) := by decide +kernel
theorem dX5_allTold_4 : decode cX5_allTold 4 = .ok (.iload_n 2, 1) := by decide +kernel
theorem dX5_allTold_5 : decode cX5_allTold 5 = .ok (.bipush 7, 2) := by decide +kernel
theorem dX5_allTold_7 : decode cX5_allTold 7 = .ok (.if_icmp .ge 18, 3) := by decide +kernel
theorem dX5_allTold_10 : decode cX5_allTold 10 = .ok (.iload_n 1, 1) := by decide +kernel
theorem dX5_allTold_11 : decode cX5_allTold 11 = .ok (.aload_n 0, 1) := by decide +kernel
theorem dX5_allTold_12 : decode cX5_allTold 12 = .ok (.getfield 48, 3) := by decide +kernel
theorem dX5_allTold_15 : decode cX5_allTold 15 = .ok (.iload_n 2, 1) := by decide +kernel
theorem dX5_allTold_16 : decode cX5_allTold 16 = .ok (.iaload, 1) := by decide +kernel
theorem dX5_allTold_17 : decode cX5_allTold 17 = .ok (.iadd, 1) := by decide +kernel
theorem dX5_allTold_18 : decode cX5_allTold 18 = .ok (.istore_n 1, 1) := by decide +kernel
theorem dX5_allTold_19 : decode cX5_allTold 19 = .ok (.iinc 2 1, 3) := by decide +kernel
theorem dX5_allTold_22 : decode cX5_allTold 22 = .ok (.goto (-18), 3) := by decide +kernel
theorem dX5_allTold_25 : decode cX5_allTold 25 = .ok (.iload_n 1, 1) := by decide +kernel
theorem dX5_allTold_26 : decode cX5_allTold 26 = .ok (.ireturn, 1) := by decide +kernel
theorem dX5_isKnot_0 : decode cX5_isKnot 0 = .ok (.iload_n 1, 1) := by decide +kernel
theorem dX5_isKnot_1 : decode cX5_isKnot 1 = .ok (.iconst 0, 1) := by decide +kernel
theorem dX5_isKnot_2 : decode cX5_isKnot 2 = .ok (.aload_n 0, 1) := by decide +kernel
theorem dX5_isKnot_3 : decode cX5_isKnot 3 = .ok (.getfield 10, 3) := by decide +kernel
theorem dX5_isKnot_6 : decode cX5_isKnot 6 = .ok (.getfield 182, 3) := by decide +kernel
theorem dX5_isKnot_9 : decode cX5_isKnot 9 = .ok (.iconst 1, 1) := by decide +kernel
theorem dX5_isKnot_10 : decode cX5_isKnot 10 = .ok (.isub, 1) := by decide +kernel
theorem dX5_isKnot_11 : decode cX5_isKnot 11 = .ok (.invokestatic 53, 3) := by decide +kernel
theorem dX5_isKnot_14 : decode cX5_isKnot 14 = .ok (.ireturn, 1) := by decide +kernel
theorem dX5_goesAsTold_0 : decode cX5_goesAsTold 0 = .ok (.aload_n 0, 1) := by decide +kernel
theorem dX5_goesAsTold_1 : decode cX5_goesAsTold 1 = .ok (.getfield 16, 3) := by decide +kernel
theorem dX5_goesAsTold_4 : decode cX5_goesAsTold 4 = .ok (.aload_n 0, 1) := by decide +kernel
theorem dX5_goesAsTold_5 : decode cX5_goesAsTold 5 = .ok (.getfield 10, 3) := by decide +kernel
theorem dX5_goesAsTold_8 : decode cX5_goesAsTold 8 = .ok (.invokevirtual 171, 3) := by decide +kernel
theorem dX5_goesAsTold_11 : decode cX5_goesAsTold 11 = .ok (.aload_n 0, 1) := by decide +kernel
theorem dX5_goesAsTold_12 : decode cX5_goesAsTold 12 = .ok (.getfield 16, 3) := by decide +kernel
theorem dX5_goesAsTold_15 : decode cX5_goesAsTold 15 = .ok (.getfield 123, 3) := by decide +kernel
theorem dX5_goesAsTold_18 : decode cX5_goesAsTold 18 = .ok (.iload_n 2, 1) := by decide +kernel
theorem dX5_goesAsTold_19 : decode cX5_goesAsTold 19 = .ok (.aaload, 1) := by decide +kernel
theorem dX5_goesAsTold_20 : decode cX5_goesAsTold 20 = .ok (.astore 5, 2) := by decide +kernel
theorem dX5_goesAsTold_22 : decode cX5_goesAsTold 22 = .ok (.aload 5, 2) := by decide +kernel
theorem dX5_goesAsTold_24 : decode cX5_goesAsTold 24 = .ok (.iload_n 3, 1) := by decide +kernel
theorem dX5_goesAsTold_25 : decode cX5_goesAsTold 25 = .ok (.putfield 127, 3) := by decide +kernel
theorem dX5_goesAsTold_28 : decode cX5_goesAsTold 28 = .ok (.aload 5, 2) := by decide +kernel
theorem dX5_goesAsTold_30 : decode cX5_goesAsTold 30 = .ok (.iload 4, 2) := by decide +kernel
theorem dX5_goesAsTold_32 : decode cX5_goesAsTold 32 = .ok (.putfield 135, 3) := by decide +kernel
theorem dX5_goesAsTold_35 : decode cX5_goesAsTold 35 = .ok (.iconst 0, 1) := by decide +kernel
theorem dX5_goesAsTold_36 : decode cX5_goesAsTold 36 = .ok (.istore 6, 2) := by decide +kernel
theorem dX5_goesAsTold_38 : decode cX5_goesAsTold 38 = .ok (.iload 6, 2) := by decide +kernel
theorem dX5_goesAsTold_40 : decode cX5_goesAsTold 40 = .ok (.aload_n 1, 1) := by decide +kernel
theorem dX5_goesAsTold_41 : decode cX5_goesAsTold 41 = .ok (.getfield 222, 3) := by decide +kernel
theorem dX5_goesAsTold_44 : decode cX5_goesAsTold 44 = .ok (.if_icmp .ge 35, 3) := by decide +kernel
theorem dX5_goesAsTold_47 : decode cX5_goesAsTold 47 = .ok (.aload_n 1, 1) := by decide +kernel
theorem dX5_goesAsTold_48 : decode cX5_goesAsTold 48 = .ok (.getfield 225, 3) := by decide +kernel
theorem dX5_goesAsTold_51 : decode cX5_goesAsTold 51 = .ok (.iload 6, 2) := by decide +kernel
theorem dX5_goesAsTold_53 : decode cX5_goesAsTold 53 = .ok (.laload, 1) := by decide +kernel
theorem dX5_goesAsTold_54 : decode cX5_goesAsTold 54 = .ok (.aload 5, 2) := by decide +kernel
theorem dX5_goesAsTold_56 : decode cX5_goesAsTold 56 = .ok (.getfield 135, 3) := by decide +kernel
theorem dX5_goesAsTold_59 : decode cX5_goesAsTold 59 = .ok (.i2l, 1) := by decide +kernel
theorem dX5_goesAsTold_60 : decode cX5_goesAsTold 60 = .ok (.lcmp, 1) := by decide +kernel
theorem dX5_goesAsTold_61 : decode cX5_goesAsTold 61 = .ok (.ifCond .eq 5, 3) := by decide +kernel
theorem dX5_goesAsTold_64 : decode cX5_goesAsTold 64 = .ok (.iconst 0, 1) := by decide +kernel
theorem dX5_goesAsTold_65 : decode cX5_goesAsTold 65 = .ok (.ireturn, 1) := by decide +kernel
theorem dX5_goesAsTold_66 : decode cX5_goesAsTold 66 = .ok (.aload_n 0, 1) := by decide +kernel
theorem dX5_goesAsTold_67 : decode cX5_goesAsTold 67 = .ok (.getfield 16, 3) := by decide +kernel
theorem dX5_goesAsTold_70 : decode cX5_goesAsTold 70 = .ok (.invokevirtual 247, 3) := by decide +kernel
theorem dX5_goesAsTold_73 : decode cX5_goesAsTold 73 = .ok (.iinc 6 1, 3) := by decide +kernel
theorem dX5_goesAsTold_76 : decode cX5_goesAsTold 76 = .ok (.goto (-38), 3) := by decide +kernel
theorem dX5_goesAsTold_79 : decode cX5_goesAsTold 79 = .ok (.iconst 1, 1) := by decide +kernel
theorem dX5_goesAsTold_80 : decode cX5_goesAsTold 80 = .ok (.ireturn, 1) := by decide +kernel
theorem dX5_isWithin_0 : decode cX5_isWithin 0 = .ok (.iload_n 0, 1) := by decide +kernel
theorem dX5_isWithin_1 : decode cX5_isWithin 1 = .ok (.iload_n 1, 1) := by decide +kernel
theorem dX5_isWithin_2 : decode cX5_isWithin 2 = .ok (.if_icmp .lt 12, 3) := by decide +kernel
theorem dX5_isWithin_5 : decode cX5_isWithin 5 = .ok (.iload_n 0, 1) := by decide +kernel
theorem dX5_isWithin_6 : decode cX5_isWithin 6 = .ok (.iload_n 2, 1) := by decide +kernel
theorem dX5_isWithin_7 : decode cX5_isWithin 7 = .ok (.if_icmp .gt 7, 3) := by decide +kernel
theorem dX5_isWithin_10 : decode cX5_isWithin 10 = .ok (.iconst 1, 1) := by decide +kernel
theorem dX5_isWithin_11 : decode cX5_isWithin 11 = .ok (.goto 4, 3) := by decide +kernel
theorem dX5_isWithin_14 : decode cX5_isWithin 14 = .ok (.iconst 0, 1) := by decide +kernel
theorem dX5_isWithin_15 : decode cX5_isWithin 15 = .ok (.ireturn, 1) := by decide +kernel
theorem dX5_isMast_0 : decode cX5_isMast 0 = .ok (.iload_n 0, 1) := by decide +kernel
theorem dX5_isMast_1 : decode cX5_isMast 1 = .ok (.iconst 0, 1) := by decide +kernel
theorem dX5_isMast_2 : decode cX5_isMast 2 = .ok (.iconst 3, 1) := by decide +kernel
theorem dX5_isMast_3 : decode cX5_isMast 3 = .ok (.invokestatic 53, 3) := by decide +kernel
theorem dX5_isMast_6 : decode cX5_isMast 6 = .ok (.ireturn, 1) := by decide +kernel
theorem dX5_isKind_0 : decode cX5_isKind 0 = .ok (.iload_n 0, 1) := by decide +kernel
theorem dX5_isKind_1 : decode cX5_isKind 1 = .ok (.iconst 0, 1) := by decide +kernel
theorem dX5_isKind_2 : decode cX5_isKind 2 = .ok (.iconst 5, 1) := by decide +kernel
theorem dX5_isKind_3 : decode cX5_isKind 3 = .ok (.invokestatic 53, 3) := by decide +kernel
theorem dX5_isKind_6 : decode cX5_isKind 6 = .ok (.ireturn, 1) := by decide +kernel
theorem dX5_isSheet_0 : decode cX5_isSheet 0 = .ok (.iload_n 0, 1) := by decide +kernel
theorem dX5_isSheet_1 : decode cX5_isSheet 1 = .ok (.iconst 0, 1) := by decide +kernel
theorem dX5_isSheet_2 : decode cX5_isSheet 2 = .ok (.iconst 3, 1) := by decide +kernel
theorem dX5_isSheet_3 : decode cX5_isSheet 3 = .ok (.invokestatic 53, 3) := by decide +kernel
theorem dX5_isSheet_6 : decode cX5_isSheet 6 = .ok (.ireturn, 1) := by decide +kernel
theorem dX5_isSheetBits_0 : decode cX5_isSheetBits 0 = .ok (.iload_n 0, 1) := by decide +kernel
theorem dX5_isSheetBits_1 : decode cX5_isSheetBits 1 = .ok (.ifCond .eq 21, 3) := by decide +kernel
theorem dX5_isSheetBits_4 : decode cX5_isSheetBits 4 = .ok (.iload_n 0, 1) := by decide +kernel
theorem dX5_isSheetBits_5 : decode cX5_isSheetBits 5 = .ok (.bipush 8, 2) := by decide +kernel
theorem dX5_isSheetBits_7 : decode cX5_isSheetBits 7 = .ok (.if_icmp .eq 15, 3) := by decide +kernel
theorem dX5_isSheetBits_10 : decode cX5_isSheetBits 10 = .ok (.iload_n 0, 1) := by decide +kernel
theorem dX5_isSheetBits_11 : decode cX5_isSheetBits 11 = .ok (.bipush 16, 2) := by decide +kernel
theorem dX5_isSheetBits_13 : decode cX5_isSheetBits 13 = .ok (.if_icmp .eq 9, 3) := by decide +kernel
theorem dX5_isSheetBits_16 : decode cX5_isSheetBits 16 = .ok (.iload_n 0, 1) := by decide +kernel
theorem dX5_isSheetBits_17 : decode cX5_isSheetBits 17 = .ok (.bipush 64, 2) := by decide +kernel
theorem dX5_isSheetBits_19 : decode cX5_isSheetBits 19 = .ok (.if_icmp .ne 7, 3) := by decide +kernel
theorem dX5_isSheetBits_22 : decode cX5_isSheetBits 22 = .ok (.iconst 1, 1) := by decide +kernel
theorem dX5_isSheetBits_23 : decode cX5_isSheetBits 23 = .ok (.goto 4, 3) := by decide +kernel
theorem dX5_isSheetBits_26 : decode cX5_isSheetBits 26 = .ok (.iconst 0, 1) := by decide +kernel
theorem dX5_isSheetBits_27 : decode cX5_isSheetBits 27 = .ok (.ireturn, 1) := by decide +kernel
end
section
theorem dX6_init_0 : decode cX6_init 0 = .ok (.aload_n 0, 1) := by decide +kernel
theorem dX6_init_1 : decode cX6_init 1 = .ok (.invokespecial 1, 3) := by decide +kernel
theorem dX6_init_4 : decode cX6_init 4 = .ok (.aload_n 0, 1) := by decide +kernel
theorem dX6_init_5 : decode cX6_init 5 = .ok (.bipush 72, 2) := by decide +kernel
theorem dX6_init_7 : decode cX6_init 7 = .ok (.newarray .int, 2) := by decide +kernel
theorem dX6_init_9 : decode cX6_init 9 = .ok (.putfield 7, 3) := by decide +kernel
theorem dX6_init_12 : decode cX6_init 12 = .ok (.aload_n 0, 1) := by decide +kernel
theorem dX6_init_13 : decode cX6_init 13 = .ok (.bipush 7, 2) := by decide +kernel
theorem dX6_init_15 : decode cX6_init 15 = .ok (.newarray .int, 2) := by decide +kernel
theorem dX6_init_17 : decode cX6_init 17 = .ok (.putfield 13, 3) := by decide +kernel
theorem dX6_init_20 : decode cX6_init 20 = .ok (.aload_n 0, 1) := by decide +kernel
theorem dX6_init_21 : decode cX6_init 21 = .ok (.bipush 72, 2) := by decide +kernel
theorem dX6_init_23 : decode cX6_init 23 = .ok (.newarray .int, 2) := by decide +kernel
theorem dX6_init_25 : decode cX6_init 25 = .ok (.putfield 16, 3) := by decide +kernel
theorem dX6_init_28 : decode cX6_init 28 = .ok (.aload_n 0, 1) := by decide +kernel
theorem dX6_init_29 : decode cX6_init 29 = .ok (.bipush 72, 2) := by decide +kernel
theorem dX6_init_31 : decode cX6_init 31 = .ok (.newarray .int, 2) := by decide +kernel
theorem dX6_init_33 : decode cX6_init 33 = .ok (.putfield 19, 3) := by decide +kernel
theorem dX6_init_36 : decode cX6_init 36 = .ok (.aload_n 0, 1) := by decide +kernel
theorem dX6_init_37 : decode cX6_init 37 = .ok (.bipush 120, 2) := by decide +kernel
theorem dX6_init_39 : decode cX6_init 39 = .ok (.newarray .int, 2) := by decide +kernel
theorem dX6_init_41 : decode cX6_init 41 = .ok (.putfield 22, 3) := by decide +kernel
theorem dX6_init_44 : decode cX6_init 44 = .ok (.aload_n 0, 1) := by decide +kernel
theorem dX6_init_45 : decode cX6_init 45 = .ok (.iconst 4, 1) := by decide +kernel
theorem dX6_init_46 : decode cX6_init 46 = .ok (.newarray .int, 2) := by decide +kernel
theorem dX6_init_48 : decode cX6_init 48 = .ok (.putfield 25, 3) := by decide +kernel
theorem dX6_init_51 : decode cX6_init 51 = .ok (.aload_n 0, 1) := by decide +kernel
theorem dX6_init_52 : decode cX6_init 52 = .ok (.iconst 4, 1) := by decide +kernel
theorem dX6_init_53 : decode cX6_init 53 = .ok (.newarray .int, 2) := by decide +kernel
theorem dX6_init_55 : decode cX6_init 55 = .ok (.putfield 28, 3) := by decide +kernel
theorem dX6_init_58 : decode cX6_init 58 = .ok (.aload_n 0, 1) := by decide +kernel
theorem dX6_init_59 : decode cX6_init 59 = .ok (.sipush 160, 3) := by decide +kernel
theorem dX6_init_62 : decode cX6_init 62 = .ok (.newarray .long, 2) := by decide +kernel
theorem dX6_init_64 : decode cX6_init 64 = .ok (.putfield 31, 3) := by decide +kernel
theorem dX6_init_67 : decode cX6_init 67 = .ok (.aload_n 0, 1) := by decide +kernel
theorem dX6_init_68 : decode cX6_init 68 = .ok (.bipush 40, 2) := by decide +kernel
theorem dX6_init_70 : decode cX6_init 70 = .ok (.newarray .long, 2) := by decide +kernel
theorem dX6_init_72 : decode cX6_init 72 = .ok (.putfield 35, 3) := by decide +kernel
theorem dX6_init_75 : decode cX6_init 75 = .ok (.aload_n 0, 1) := by decide +kernel
theorem dX6_init_76 : decode cX6_init 76 = .ok (.bipush 72, 2) := by decide +kernel
theorem dX6_init_78 : decode cX6_init 78 = .ok (.newarray .int, 2) := by decide +kernel
theorem dX6_init_80 : decode cX6_init 80 = .ok (.putfield 38, 3) := by decide +kernel
theorem dX6_init_83 : decode cX6_init 83 = .ok (.aload_n 0, 1) := by decide +kernel
theorem dX6_init_84 : decode cX6_init 84 = .ok (.bipush 72, 2) := by decide +kernel
theorem dX6_init_86 : decode cX6_init 86 = .ok (.newarray .int, 2) := by decide +kernel
theorem dX6_init_88 : decode cX6_init 88 = .ok (.putfield 41, 3) := by decide +kernel
theorem dX6_init_91 : decode cX6_init 91 = .ok (.iconst 0, 1) := by decide +kernel
theorem dX6_init_92 : decode cX6_init 92 = .ok (.istore_n 1, 1) := by decide +kernel
theorem dX6_init_93 : decode cX6_init 93 = .ok (.iload_n 1, 1) := by decide +kernel
theorem dX6_init_94 : decode cX6_init 94 = .ok (.bipush 12, 2) := by decide +kernel
theorem dX6_init_96 : decode cX6_init 96 = .ok (.if_icmp .ge 24, 3) := by decide +kernel
theorem dX6_init_99 : decode cX6_init 99 = .ok (.aload_n 0, 1) := by decide +kernel
theorem dX6_init_100 : decode cX6_init 100 = .ok (.getfield 7, 3) := by decide +kernel
theorem dX6_init_103 : decode cX6_init 103 = .ok (.iconst 2, 1) := by decide +kernel
theorem dX6_init_104 : decode cX6_init 104 = .ok (.iload_n 1, 1) := by decide +kernel
theorem dX6_init_105 : decode cX6_init 105 = .ok (.iadd, 1) := by decide +kernel
theorem dX6_init_106 : decode cX6_init 106 = .ok (.bipush 7, 2) := by decide +kernel
theorem dX6_init_108 : decode cX6_init 108 = .ok (.iload_n 1, 1) := by decide +kernel
theorem dX6_init_109 : decode cX6_init 109 = .ok (.imul, 1) := by decide +kernel
theorem dX6_init_110 : decode cX6_init 110 = .ok (.bipush 30, 2) := by decide +kernel
theorem dX6_init_112 : decode cX6_init 112 = .ok (.irem, 1) := by decide +kernel
theorem dX6_init_113 : decode cX6_init 113 = .ok (.iastore, 1) := by decide +kernel
theorem dX6_init_114 : decode cX6_init 114 = .ok (.iinc 1 1, 3) := by decide +kernel
theorem dX6_init_117 : decode cX6_init 117 = .ok (.goto (-24), 3) := by decide +kernel
theorem dX6_init_120 : decode cX6_init 120 = .ok (.iconst 0, 1) := by decide +kernel
theorem dX6_init_121 : decode cX6_init 121 = .ok (.istore_n 1, 1) := by decide +kernel
theorem dX6_init_122 : decode cX6_init 122 = .ok (.iload_n 1, 1) := by decide +kernel
theorem dX6_init_123 : decode cX6_init 123 = .ok (.iconst 4, 1) := by decide +kernel
theorem dX6_init_124 : decode cX6_init 124 = .ok (.if_icmp .ge 24, 3) := by decide +kernel
theorem dX6_init_127 : decode cX6_init 127 = .ok (.aload_n 0, 1) := by decide +kernel
theorem dX6_init_128 : decode cX6_init 128 = .ok (.iload_n 1, 1) := by decide +kernel
theorem dX6_init_129 : decode cX6_init 129 = .ok (.iconst 0, 1) := by decide +kernel
theorem dX6_init_130 : decode cX6_init 130 = .ok (.bipush 100, 2) := by decide +kernel
theorem dX6_init_132 : decode cX6_init 132 = .ok (.invokevirtual 44, 3) := by decide +kernel
theorem dX6_init_135 : decode cX6_init 135 = .ok (.aload_n 0, 1) := by decide +kernel
theorem dX6_init_136 : decode cX6_init 136 = .ok (.iload_n 1, 1) := by decide +kernel
theorem dX6_init_137 : decode cX6_init 137 = .ok (.iconst 1, 1) := by decide +kernel
theorem dX6_init_138 : decode cX6_init 138 = .ok (.iconst 1, 1) := by decide +kernel
theorem dX6_init_139 : decode cX6_init 139 = .ok (.invokevirtual 44, 3) := by decide +kernel
theorem dX6_init_142 : decode cX6_init 142 = .ok (.iinc 1 1, 3) := by decide +kernel
theorem dX6_init_145 : decode cX6_init 145 = .ok (.goto (-23), 3) := by decide +kernel
theorem dX6_init_148 : decode cX6_init 148 = .ok (.return_, 1) := by decide +kernel
theorem dX6_in_0 : decode cX6_in 0 = .ok (.iload_n 0, 1) := by decide +kernel
theorem dX6_in_1 : decode cX6_in 1 = .ok (.iload_n 1, 1) := by decide +kernel
theorem dX6_in_2 : decode cX6_in 2 = .ok (.if_icmp .lt 12, 3) := by decide +kernel
theorem dX6_in_5 : decode cX6_in 5 = .ok (.iload_n 0, 1) := by decide +kernel
theorem dX6_in_6 : decode cX6_in 6 = .ok (.iload_n 2, 1) := by decide +kernel
theorem dX6_in_7 : decode cX6_in 7 = .ok (.if_icmp .gt 7, 3) := by decide +kernel
theorem dX6_in_10 : decode cX6_in 10 = .ok (.iconst 1, 1) := by decide +kernel
theorem dX6_in_11 : decode cX6_in 11 = .ok (.goto 4, 3) := by decide +kernel
theorem dX6_in_14 : decode cX6_in 14 = .ok (.iconst 0, 1) := by decide +kernel
theorem dX6_in_15 : decode cX6_in 15 = .ok (.ireturn, 1) := by decide +kernel
theorem dX6_finds_0 : decode cX6_finds 0 = .ok (.aload_n 0, 1) := by decide +kernel
theorem dX6_finds_1 : decode cX6_finds 1 = .ok (.getfield 13, 3) := by decide +kernel
theorem dX6_finds_4 : decode cX6_finds 4 = .ok (.ldc 48, 2) := by decide +kernel
theorem dX6_finds_6 : decode cX6_finds 6 = .ok (.iload_n 1, 1) := by decide +kernel
theorem dX6_finds_7 : decode cX6_finds 7 = .ok (.isub, 1) := by decide +kernel
theorem dX6_finds_8 : decode cX6_finds 8 = .ok (.dup2, 1) := by decide +kernel
theorem dX6_finds_9 : decode cX6_finds 9 = .ok (.iaload, 1) := by decide +kernel
theorem dX6_finds_10 : decode cX6_finds 10 = .ok (.iconst 1, 1) := by decide +kernel
theorem dX6_finds_11 : decode cX6_finds 11 = .ok (.iadd, 1) := by decide +kernel
theorem dX6_finds_12 : decode cX6_finds 12 = .ok (.iastore, 1) := by decide +kernel
theorem dX6_finds_13 : decode cX6_finds 13 = .ok (.iload_n 1, 1) := by decide +kernel
theorem dX6_finds_14 : decode cX6_finds 14 = .ok (.ireturn, 1) := by decide +kernel
theorem dX6_held_0 : decode cX6_held 0 = .ok (.iload_n 0, 1) := by decide +kernel
theorem dX6_held_1 : decode cX6_held 1 = .ok (.iload_n 1, 1) := by decide +kernel
theorem dX6_held_2 : decode cX6_held 2 = .ok (.if_icmp .ge 7, 3) := by decide +kernel
theorem dX6_held_5 : decode cX6_held 5 = .ok (.iload_n 1, 1) := by decide +kernel
theorem dX6_held_6 : decode cX6_held 6 = .ok (.goto 13, 3) := by decide +kernel
theorem dX6_held_9 : decode cX6_held 9 = .ok (.iload_n 0, 1) := by decide +kernel
theorem dX6_held_10 : decode cX6_held 10 = .ok (.iload_n 2, 1) := by decide +kernel
theorem dX6_held_11 : decode cX6_held 11 = .ok (.if_icmp .le 7, 3) := by decide +kernel
theorem dX6_held_14 : decode cX6_held 14 = .ok (.iload_n 2, 1) := by decide +kernel
theorem dX6_held_15 : decode cX6_held 15 = .ok (.goto 4, 3) := by decide +kernel
theorem dX6_held_18 : decode cX6_held 18 = .ok (.iload_n 0, 1) := by decide +kernel
theorem dX6_held_19 : decode cX6_held 19 = .ok (.ireturn, 1) := by decide +kernel
theorem dX6_its_0 : decode cX6_its 0 = .ok (.aload_n 0, 1) := by decide +kernel
theorem dX6_its_1 : decode cX6_its 1 = .ok (.getfield 7, 3) := by decide +kernel
theorem dX6_its_4 : decode cX6_its 4 = .ok (.bipush 22, 2) := by decide +kernel
theorem dX6_its_6 : decode cX6_its 6 = .ok (.iconst 5, 1) := by decide +kernel
theorem dX6_its_7 : decode cX6_its 7 = .ok (.iload_n 1, 1) := by decide +kernel
theorem dX6_its_8 : decode cX6_its 8 = .ok (.imul, 1) := by decide +kernel
theorem dX6_its_9 : decode cX6_its 9 = .ok (.iadd, 1) := by decide +kernel
theorem dX6_its_10 : decode cX6_its 10 = .ok (.iload_n 2, 1) := by decide +kernel
theorem dX6_its_11 : decode cX6_its 11 = .ok (.iadd, 1) := by decide +kernel
theorem dX6_its_12 : decode cX6_its 12 = .ok (.iaload, 1) := by decide +kernel
theorem dX6_its_13 : decode cX6_its 13 = .ok (.ireturn, 1) := by decide +kernel
theorem dX6_puts_0 : decode cX6_puts 0 = .ok (.aload_n 0, 1) := by decide +kernel
theorem dX6_puts_1 : decode cX6_puts 1 = .ok (.getfield 7, 3) := by decide +kernel
theorem dX6_puts_4 : decode cX6_puts 4 = .ok (.bipush 22, 2) := by decide +kernel
theorem dX6_puts_6 : decode cX6_puts 6 = .ok (.iconst 5, 1) := by decide +kernel
theorem dX6_puts_7 : decode cX6_puts 7 = .ok (.iload_n 1, 1) := by decide +kernel
theorem dX6_puts_8 : decode cX6_puts 8 = .ok (.imul, 1) := by decide +kernel
theorem dX6_puts_9 : decode cX6_puts 9 = .ok (.iadd, 1) := by decide +kernel
theorem dX6_puts_10 : decode cX6_puts 10 = .ok (.iload_n 2, 1) := by decide +kernel
theorem dX6_puts_11 : decode cX6_puts 11 = .ok (.iadd, 1) := by decide +kernel
theorem dX6_puts_12 : decode cX6_puts 12 = .ok (.iload_n 3, 1) := by decide +kernel
theorem dX6_puts_13 : decode cX6_puts 13 = .ok (.iastore, 1) := by decide +kernel
theorem dX6_puts_14 : decode cX6_puts 14 = .ok (.return_, 1) := by decide +kernel
theorem dX6_ofMast_0 : decode cX6_ofMast 0 = .ok (.aload_n 0, 1) := by decide +kernel
theorem dX6_ofMast_1 : decode cX6_ofMast 1 = .ok (.getfield 7, 3) := by decide +kernel
theorem dX6_ofMast_4 : decode cX6_ofMast 4 = .ok (.bipush 14, 2) := by decide +kernel
theorem dX6_ofMast_6 : decode cX6_ofMast 6 = .ok (.iconst 2, 1) := by decide +kernel
theorem dX6_ofMast_7 : decode cX6_ofMast 7 = .ok (.iload_n 1, 1) := by decide +kernel
theorem dX6_ofMast_8 : decode cX6_ofMast 8 = .ok (.imul, 1) := by decide +kernel
theorem dX6_ofMast_9 : decode cX6_ofMast 9 = .ok (.iadd, 1) := by decide +kernel
theorem dX6_ofMast_10 : decode cX6_ofMast 10 = .ok (.iload_n 2, 1) := by decide +kernel
theorem dX6_ofMast_11 : decode cX6_ofMast 11 = .ok (.iadd, 1) := by decide +kernel
theorem dX6_ofMast_12 : decode cX6_ofMast 12 = .ok (.iaload, 1) := by decide +kernel
theorem dX6_ofMast_13 : decode cX6_ofMast 13 = .ok (.ireturn, 1) := by decide +kernel
theorem dX6_puts1_0 : decode cX6_puts1 0 = .ok (.aload_n 0, 1) := by decide +kernel
theorem dX6_puts1_1 : decode cX6_puts1 1 = .ok (.getfield 7, 3) := by decide +kernel
theorem dX6_puts1_4 : decode cX6_puts1 4 = .ok (.bipush 14, 2) := by decide +kernel
theorem dX6_puts1_6 : decode cX6_puts1 6 = .ok (.iconst 2, 1) := by decide +kernel
theorem dX6_puts1_7 : decode cX6_puts1 7 = .ok (.iload_n 1, 1) := by decide +kernel
theorem dX6_puts1_8 : decode cX6_puts1 8 = .ok (.imul, 1) := by decide +kernel
theorem dX6_puts1_9 : decode cX6_puts1 9 = .ok (.iadd, 1) := by decide +kernel
theorem dX6_puts1_10 : decode cX6_puts1 10 = .ok (.iload_n 2, 1) := by decide +kernel
theorem dX6_puts1_11 : decode cX6_puts1 11 = .ok (.iadd, 1) := by decide +kernel
theorem dX6_puts1_12 : decode cX6_puts1 12 = .ok (.iload_n 3, 1) := by decide +kernel
theorem dX6_puts1_13 : decode cX6_puts1 13 = .ok (.iastore, 1) := by decide +kernel
theorem dX6_puts1_14 : decode cX6_puts1 14 = .ok (.return_, 1) := by decide +kernel
theorem dX6_becomes_0 : decode cX6_becomes 0 = .ok (.aload_n 0, 1) := by decide +kernel
theorem dX6_becomes_1 : decode cX6_becomes 1 = .ok (.getfield 7, 3) := by decide +kernel
theorem dX6_becomes_4 : decode cX6_becomes 4 = .ok (.iload_n 1, 1) := by decide +kernel
theorem dX6_becomes_5 : decode cX6_becomes 5 = .ok (.iaload, 1) := by decide +kernel
theorem dX6_becomes_6 : decode cX6_becomes 6 = .ok (.istore_n 3, 1) := by decide +kernel
theorem dX6_becomes_7 : decode cX6_becomes 7 = .ok (.aload_n 0, 1) := by decide +kernel
theorem dX6_becomes_8 : decode cX6_becomes 8 = .ok (.getfield 7, 3) := by decide +kernel
theorem dX6_becomes_11 : decode cX6_becomes 11 = .ok (.iload_n 1, 1) := by decide +kernel
theorem dX6_becomes_12 : decode cX6_becomes 12 = .ok (.iload_n 2, 1) := by decide +kernel
theorem dX6_becomes_13 : decode cX6_becomes 13 = .ok (.iastore, 1) := by decide +kernel
theorem dX6_becomes_14 : decode cX6_becomes 14 = .ok (.iload_n 3, 1) := by decide +kernel
theorem dX6_becomes_15 : decode cX6_becomes 15 = .ok (.ireturn, 1) := by decide +kernel
theorem dX6_isOne_0 : decode cX6_isOne 0 = .ok (.iload_n 1, 1) := by decide +kernel
theorem dX6_isOne_1 : decode cX6_isOne 1 = .ok (.iconst 0, 1) := by decide +kernel
theorem dX6_isOne_2 : decode cX6_isOne 2 = .ok (.aload_n 0, 1) := by decide +kernel
theorem dX6_isOne_3 : decode cX6_isOne 3 = .ok (.getfield 7, 3) := by decide +kernel
theorem dX6_isOne_6 : decode cX6_isOne 6 = .ok (.iconst 1, 1) := by decide +kernel
theorem dX6_isOne_7 : decode cX6_isOne 7 = .ok (.iaload, 1) := by decide +kernel
theorem dX6_isOne_8 : decode cX6_isOne 8 = .ok (.iconst 1, 1) := by decide +kernel
theorem dX6_isOne_9 : decode cX6_isOne 9 = .ok (.isub, 1) := by decide +kernel
theorem dX6_isOne_10 : decode cX6_isOne 10 = .ok (.invokestatic 49, 3) := by decide +kernel
theorem dX6_isOne_13 : decode cX6_isOne 13 = .ok (.ireturn, 1) := by decide +kernel
theorem dX6_isKind_0 : decode cX6_isKind 0 = .ok (.iload_n 0, 1) := by decide +kernel
theorem dX6_isKind_1 : decode cX6_isKind 1 = .ok (.iconst 0, 1) := by decide +kernel
theorem dX6_isKind_2 : decode cX6_isKind 2 = .ok (.iconst 5, 1) := by decide +kernel
theorem dX6_isKind_3 : decode cX6_isKind 3 = .ok (.invokestatic 49, 3) := by decide +kernel
theorem dX6_isKind_6 : decode cX6_isKind 6 = .ok (.ireturn, 1) := by decide +kernel
theorem dX6_isMast_0 : decode cX6_isMast 0 = .ok (.iload_n 0, 1) := by decide +kernel
theorem dX6_isMast_1 : decode cX6_isMast 1 = .ok (.iconst 0, 1) := by decide +kernel
theorem dX6_isMast_2 : decode cX6_isMast 2 = .ok (.iconst 3, 1) := by decide +kernel
theorem dX6_isMast_3 : decode cX6_isMast 3 = .ok (.invokestatic 49, 3) := by decide +kernel
theorem dX6_isMast_6 : decode cX6_isMast 6 = .ok (.ireturn, 1) := by decide +kernel
theorem dX6_bits_0 : decode cX6_bits 0 = .ok (.iconst 0, 1) := by decide +kernel
theorem dX6_bits_1 : decode cX6_bits 1 = .ok (.istore_n 1, 1) := by decide +kernel
theorem dX6_bits_2 : decode cX6_bits 2 = .ok (.iload_n 0, 1) := by decide +kernel
theorem dX6_bits_3 : decode cX6_bits 3 = .ok (.istore_n 2, 1) := by decide +kernel
theorem dX6_bits_4 : decode cX6_bits 4 = .ok (.iload_n 2, 1) := by decide +kernel
theorem dX6_bits_5 : decode cX6_bits 5 = .ok (.ifCond .eq 15, 3) := by decide +kernel
theorem dX6_bits_8 : decode cX6_bits 8 = .ok (.iinc 1 1, 3) := by decide +kernel
theorem dX6_bits_11 : decode cX6_bits 11 = .ok (.iload_n 2, 1) := by decide +kernel
theorem dX6_bits_12 : decode cX6_bits 12 = .ok (.iload_n 2, 1) := by decide +kernel
theorem dX6_bits_13 : decode cX6_bits 13 = .ok (.iconst 1, 1) := by decide +kernel
theorem dX6_bits_14 : decode cX6_bits 14 = .ok (.isub, 1) := by decide +kernel
theorem dX6_bits_15 : decode cX6_bits 15 = .ok (.iand, 1) := by decide +kernel
theorem dX6_bits_16 : decode cX6_bits 16 = .ok (.istore_n 2, 1) := by decide +kernel
theorem dX6_bits_17 : decode cX6_bits 17 = .ok (.goto (-13), 3) := by decide +kernel
theorem dX6_bits_20 : decode cX6_bits 20 = .ok (.iload_n 1, 1) := by decide +kernel
theorem dX6_bits_21 : decode cX6_bits 21 = .ok (.ireturn, 1) := by decide +kernel
theorem dX6_blowing_0 : decode cX6_blowing 0 = .ok (.aload_n 0, 1) := by decide +kernel
theorem dX6_blowing_1 : decode cX6_blowing 1 = .ok (.getfield 7, 3) := by decide +kernel
theorem dX6_blowing_4 : decode cX6_blowing 4 = .ok (.iconst 2, 1) := by decide +kernel
theorem dX6_blowing_5 : decode cX6_blowing 5 = .ok (.aload_n 0, 1) := by decide +kernel
theorem dX6_blowing_6 : decode cX6_blowing 6 = .ok (.getfield 7, 3) := by decide +kernel
theorem dX6_blowing_9 : decode cX6_blowing 9 = .ok (.iconst 0, 1) := by decide +kernel
theorem dX6_blowing_10 : decode cX6_blowing 10 = .ok (.iaload, 1) := by decide +kernel
theorem dX6_blowing_11 : decode cX6_blowing 11 = .ok (.bipush 12, 2) := by decide +kernel
theorem dX6_blowing_13 : decode cX6_blowing 13 = .ok (.irem, 1) := by decide +kernel
theorem dX6_blowing_14 : decode cX6_blowing 14 = .ok (.iadd, 1) := by decide +kernel
theorem dX6_blowing_15 : decode cX6_blowing 15 = .ok (.iaload, 1) := by decide +kernel
theorem dX6_blowing_16 : decode cX6_blowing 16 = .ok (.ireturn, 1) := by decide +kernel
theorem dX6_knotsOf_0 : decode cX6_knotsOf 0 = .ok (.iconst 0, 1) := by decide +kernel
theorem dX6_knotsOf_1 : decode cX6_knotsOf 1 = .ok (.istore_n 3, 1) := by decide +kernel
theorem dX6_knotsOf_2 : decode cX6_knotsOf 2 = .ok (.iconst 0, 1) := by decide +kernel
theorem dX6_knotsOf_3 : decode cX6_knotsOf 3 = .ok (.istore 4, 2) := by decide +kernel
theorem dX6_knotsOf_5 : decode cX6_knotsOf 5 = .ok (.iload 4, 2) := by decide +kernel
theorem dX6_knotsOf_7 : decode cX6_knotsOf 7 = .ok (.aload_n 0, 1) := by decide +kernel
theorem dX6_knotsOf_8 : decode cX6_knotsOf 8 = .ok (.getfield 7, 3) := by decide +kernel
theorem dX6_knotsOf_11 : decode cX6_knotsOf 11 = .ok (.iconst 1, 1) := by decide +kernel
theorem dX6_knotsOf_12 : decode cX6_knotsOf 12 = .ok (.iaload, 1) := by decide +kernel
theorem dX6_knotsOf_13 : decode cX6_knotsOf 13 = .ok (.if_icmp .ge 46, 3) := by decide +kernel
theorem dX6_knotsOf_16 : decode cX6_knotsOf 16 = .ok (.iload_n 3, 1) := by decide +kernel
theorem dX6_knotsOf_17 : decode cX6_knotsOf 17 = .ok (.aload_n 0, 1) := by decide +kernel
theorem dX6_knotsOf_18 : decode cX6_knotsOf 18 = .ok (.iload 4, 2) := by decide +kernel
theorem dX6_knotsOf_20 : decode cX6_knotsOf 20 = .ok (.iconst 1, 1) := by decide +kernel
theorem dX6_knotsOf_21 : decode cX6_knotsOf 21 = .ok (.invokevirtual 53, 3) := by decide +kernel
theorem dX6_knotsOf_24 : decode cX6_knotsOf 24 = .ok (.iload_n 1, 1) := by decide +kernel
theorem dX6_knotsOf_25 : decode cX6_knotsOf 25 = .ok (.if_icmp .ne 25, 3) := by decide +kernel
theorem dX6_knotsOf_28 : decode cX6_knotsOf 28 = .ok (.iload_n 2, 1) := by decide +kernel
theorem dX6_knotsOf_29 : decode cX6_knotsOf 29 = .ok (.ifCond .eq 14, 3) := by decide +kernel
theorem dX6_knotsOf_32 : decode cX6_knotsOf 32 = .ok (.aload_n 0, 1) := by decide +kernel
theorem dX6_knotsOf_33 : decode cX6_knotsOf 33 = .ok (.iload 4, 2) := by decide +kernel
theorem dX6_knotsOf_35 : decode cX6_knotsOf 35 = .ok (.iconst 3, 1) := by decide +kernel
theorem dX6_knotsOf_36 : decode cX6_knotsOf 36 = .ok (.invokevirtual 53, 3) := by decide +kernel
theorem dX6_knotsOf_39 : decode cX6_knotsOf 39 = .ok (.iconst 1, 1) := by decide +kernel
theorem dX6_knotsOf_40 : decode cX6_knotsOf 40 = .ok (.if_icmp .ne 10, 3) := by decide +kernel
theorem dX6_knotsOf_43 : decode cX6_knotsOf 43 = .ok (.iconst 1, 1) := by decide +kernel
theorem dX6_knotsOf_44 : decode cX6_knotsOf 44 = .ok (.iload 4, 2) := by decide +kernel
theorem dX6_knotsOf_46 : decode cX6_knotsOf 46 = .ok (.ishl, 1) := by decide +kernel
theorem dX6_knotsOf_47 : decode cX6_knotsOf 47 = .ok (.goto 4, 3) := by decide +kernel
theorem dX6_knotsOf_50 : decode cX6_knotsOf 50 = .ok (.iconst 0, 1) := by decide +kernel
theorem dX6_knotsOf_51 : decode cX6_knotsOf 51 = .ok (.ior, 1) := by decide +kernel
theorem dX6_knotsOf_52 : decode cX6_knotsOf 52 = .ok (.istore_n 3, 1) := by decide +kernel
theorem dX6_knotsOf_53 : decode cX6_knotsOf 53 = .ok (.iinc 4 1, 3) := by decide +kernel
theorem dX6_knotsOf_56 : decode cX6_knotsOf 56 = .ok (.goto (-51), 3) := by decide +kernel
theorem dX6_knotsOf_59 : decode cX6_knotsOf 59 = .ok (.iload_n 3, 1) := by decide +kernel
theorem dX6_knotsOf_60 : decode cX6_knotsOf 60 = .ok (.ireturn, 1) := by decide +kernel
theorem dX6_fastSet_0 : decode cX6_fastSet 0 = .ok (.iconst 0, 1) := by decide +kernel
theorem dX6_fastSet_1 : decode cX6_fastSet 1 = .ok (.istore_n 1, 1) := by decide +kernel
theorem dX6_fastSet_2 : decode cX6_fastSet 2 = .ok (.iconst 0, 1) := by decide +kernel
theorem dX6_fastSet_3 : decode cX6_fastSet 3 = .ok (.istore_n 2, 1) := by decide +kernel
theorem dX6_fastSet_4 : decode cX6_fastSet 4 = .ok (.iload_n 2, 1) := by decide +kernel
theorem dX6_fastSet_5 : decode cX6_fastSet 5 = .ok (.aload_n 0, 1) := by decide +kernel
theorem dX6_fastSet_6 : decode cX6_fastSet 6 = .ok (.getfield 7, 3) := by decide +kernel
theorem dX6_fastSet_9 : decode cX6_fastSet 9 = .ok (.iconst 1, 1) := by decide +kernel
theorem dX6_fastSet_10 : decode cX6_fastSet 10 = .ok (.iaload, 1) := by decide +kernel
theorem dX6_fastSet_11 : decode cX6_fastSet 11 = .ok (.if_icmp .ge 20, 3) := by decide +kernel
theorem dX6_fastSet_14 : decode cX6_fastSet 14 = .ok (.iload_n 1, 1) := by decide +kernel
theorem dX6_fastSet_15 : decode cX6_fastSet 15 = .ok (.aload_n 0, 1) := by decide +kernel
theorem dX6_fastSet_16 : decode cX6_fastSet 16 = .ok (.iload_n 2, 1) := by decide +kernel
theorem dX6_fastSet_17 : decode cX6_fastSet 17 = .ok (.iconst 3, 1) := by decide +kernel
theorem dX6_fastSet_18 : decode cX6_fastSet 18 = .ok (.invokevirtual 53, 3) := by decide +kernel
theorem dX6_fastSet_21 : decode cX6_fastSet 21 = .ok (.iload_n 2, 1) := by decide +kernel
theorem dX6_fastSet_22 : decode cX6_fastSet 22 = .ok (.ishl, 1) := by decide +kernel
theorem dX6_fastSet_23 : decode cX6_fastSet 23 = .ok (.ior, 1) := by decide +kernel
theorem dX6_fastSet_24 : decode cX6_fastSet 24 = .ok (.istore_n 1, 1) := by decide +kernel
theorem dX6_fastSet_25 : decode cX6_fastSet 25 = .ok (.iinc 2 1, 3) := by decide +kernel
theorem dX6_fastSet_28 : decode cX6_fastSet 28 = .ok (.goto (-24), 3) := by decide +kernel
theorem dX6_fastSet_31 : decode cX6_fastSet 31 = .ok (.iload_n 1, 1) := by decide +kernel
theorem dX6_fastSet_32 : decode cX6_fastSet 32 = .ok (.ireturn, 1) := by decide +kernel
theorem dX6_upSet_0 : decode cX6_upSet 0 = .ok (.iconst 0, 1) := by decide +kernel
theorem dX6_upSet_1 : decode cX6_upSet 1 = .ok (.istore_n 1, 1) := by decide +kernel
theorem dX6_upSet_2 : decode cX6_upSet 2 = .ok (.iconst 0, 1) := by decide +kernel
theorem dX6_upSet_3 : decode cX6_upSet 3 = .ok (.istore_n 2, 1) := by decide +kernel
theorem dX6_upSet_4 : decode cX6_upSet 4 = .ok (.iload_n 2, 1) := by decide +kernel
theorem dX6_upSet_5 : decode cX6_upSet 5 = .ok (.iconst 4, 1) := by decide +kernel
theorem dX6_upSet_6 : decode cX6_upSet 6 = .ok (.if_icmp .ge 20, 3) := by decide +kernel
theorem dX6_upSet_9 : decode cX6_upSet 9 = .ok (.iload_n 1, 1) := by decide +kernel
theorem dX6_upSet_10 : decode cX6_upSet 10 = .ok (.aload_n 0, 1) := by decide +kernel
theorem dX6_upSet_11 : decode cX6_upSet 11 = .ok (.iload_n 2, 1) := by decide +kernel
theorem dX6_upSet_12 : decode cX6_upSet 12 = .ok (.iconst 1, 1) := by decide +kernel
theorem dX6_upSet_13 : decode cX6_upSet 13 = .ok (.invokevirtual 57, 3) := by decide +kernel
theorem dX6_upSet_16 : decode cX6_upSet 16 = .ok (.iload_n 2, 1) := by decide +kernel
theorem dX6_upSet_17 : decode cX6_upSet 17 = .ok (.ishl, 1) := by decide +kernel
theorem dX6_upSet_18 : decode cX6_upSet 18 = .ok (.ior, 1) := by decide +kernel
theorem dX6_upSet_19 : decode cX6_upSet 19 = .ok (.istore_n 1, 1) := by decide +kernel
theorem dX6_upSet_20 : decode cX6_upSet 20 = .ok (.iinc 2 1, 3) := by decide +kernel
theorem dX6_upSet_23 : decode cX6_upSet 23 = .ok (.goto (-19), 3) := by decide +kernel
theorem dX6_upSet_26 : decode cX6_upSet 26 = .ok (.iload_n 1, 1) := by decide +kernel
theorem dX6_upSet_27 : decode cX6_upSet 27 = .ok (.ireturn, 1) := by decide +kernel
theorem dX6_strain_0 : decode cX6_strain 0 = .ok (.aload_n 0, 1) := by decide +kernel
theorem dX6_strain_1 : decode cX6_strain 1 = .ok (.iload_n 1, 1) := by decide +kernel
theorem dX6_strain_2 : decode cX6_strain 2 = .ok (.iconst 1, 1) := by decide +kernel
theorem dX6_strain_3 : decode cX6_strain 3 = .ok (.invokevirtual 60, 3) := by decide +kernel
theorem dX6_strain_6 : decode cX6_strain 6 = .ok (.invokestatic 64, 3) := by decide +kernel
theorem dX6_strain_9 : decode cX6_strain 9 = .ok (.istore_n 2, 1) := by decide +kernel
theorem dX6_strain_10 : decode cX6_strain 10 = .ok (.iload_n 2, 1) := by decide +kernel
theorem dX6_strain_11 : decode cX6_strain 11 = .ok (.ifCond .ne 7, 3) := by decide +kernel
theorem dX6_strain_14 : decode cX6_strain 14 = .ok (.iconst 0, 1) := by decide +kernel
theorem dX6_strain_15 : decode cX6_strain 15 = .ok (.goto 18, 3) := by decide +kernel
theorem dX6_strain_18 : decode cX6_strain 18 = .ok (.aload_n 0, 1) := by decide +kernel
theorem dX6_strain_19 : decode cX6_strain 19 = .ok (.iload_n 1, 1) := by decide +kernel
theorem dX6_strain_20 : decode cX6_strain 20 = .ok (.iconst 0, 1) := by decide +kernel
theorem dX6_strain_21 : decode cX6_strain 21 = .ok (.invokevirtual 57, 3) := by decide +kernel
theorem dX6_strain_24 : decode cX6_strain 24 = .ok (.iconst 3, 1) := by decide +kernel
theorem dX6_strain_25 : decode cX6_strain 25 = .ok (.aload_n 0, 1) := by decide +kernel
theorem dX6_strain_26 : decode cX6_strain 26 = .ok (.invokevirtual 68, 3) := by decide +kernel
theorem dX6_strain_29 : decode cX6_strain 29 = .ok (.imul, 1) := by decide +kernel
theorem dX6_strain_30 : decode cX6_strain 30 = .ok (.iadd, 1) := by decide +kernel
theorem dX6_strain_31 : decode cX6_strain 31 = .ok (.iload_n 2, 1) := by decide +kernel
theorem dX6_strain_32 : decode cX6_strain 32 = .ok (.idiv, 1) := by decide +kernel
theorem dX6_strain_33 : decode cX6_strain 33 = .ok (.ireturn, 1) := by decide +kernel
theorem dX6_holding_0 : decode cX6_holding 0 = .ok (.aload_n 0, 1) := by decide +kernel
theorem dX6_holding_1 : decode cX6_holding 1 = .ok (.iload_n 1, 1) := by decide +kernel
theorem dX6_holding_2 : decode cX6_holding 2 = .ok (.iconst 3, 1) := by decide +kernel
theorem dX6_holding_3 : decode cX6_holding 3 = .ok (.invokevirtual 53, 3) := by decide +kernel
theorem dX6_holding_6 : decode cX6_holding 6 = .ok (.ifCond .ne 5, 3) := by decide +kernel
theorem dX6_holding_9 : decode cX6_holding 9 = .ok (.iconst 0, 1) := by decide +kernel
theorem dX6_holding_10 : decode cX6_holding 10 = .ok (.ireturn, 1) := by decide +kernel
theorem dX6_holding_11 : decode cX6_holding 11 = .ok (.aload_n 0, 1) := by decide +kernel
theorem dX6_holding_12 : decode cX6_holding 12 = .ok (.iload_n 1, 1) := by decide +kernel
theorem dX6_holding_13 : decode cX6_holding 13 = .ok (.iconst 2, 1) := by decide +kernel
theorem dX6_holding_14 : decode cX6_holding 14 = .ok (.invokevirtual 53, 3) := by decide +kernel
theorem dX6_holding_17 : decode cX6_holding 17 = .ok (.istore_n 2, 1) := by decide +kernel
theorem dX6_holding_18 : decode cX6_holding 18 = .ok (.iload_n 2, 1) := by decide +kernel
theorem dX6_holding_19 : decode cX6_holding 19 = .ok (.bipush 60, 2) := by decide +kernel
theorem dX6_holding_21 : decode cX6_holding 21 = .ok (.if_icmp .lt 9, 3) := by decide +kernel
theorem dX6_holding_24 : decode cX6_holding 24 = .ok (.iconst 3, 1) := by decide +kernel
theorem dX6_holding_25 : decode cX6_holding 25 = .ok (.iload_n 2, 1) := by decide +kernel
theorem dX6_holding_26 : decode cX6_holding 26 = .ok (.imul, 1) := by decide +kernel
theorem dX6_holding_27 : decode cX6_holding 27 = .ok (.goto 6, 3) := by decide +kernel
theorem dX6_holding_30 : decode cX6_holding 30 = .ok (.iconst 2, 1) := by decide +kernel
theorem dX6_holding_31 : decode cX6_holding 31 = .ok (.iload_n 2, 1) := by decide +kernel
theorem dX6_holding_32 : decode cX6_holding 32 = .ok (.imul, 1) := by decide +kernel
theorem dX6_holding_33 : decode cX6_holding 33 = .ok (.istore_n 3, 1) := by decide +kernel
theorem dX6_holding_34 : decode cX6_holding 34 = .ok (.iconst 2, 1) := by decide +kernel
theorem dX6_holding_35 : decode cX6_holding 35 = .ok (.iload_n 2, 1) := by decide +kernel
theorem dX6_holding_36 : decode cX6_holding 36 = .ok (.imul, 1) := by decide +kernel
theorem dX6_holding_37 : decode cX6_holding 37 = .ok (.aload_n 0, 1) := by decide +kernel
theorem dX6_holding_38 : decode cX6_holding 38 = .ok (.invokevirtual 68, 3) := by decide +kernel
theorem dX6_holding_41 : decode cX6_holding 41 = .ok (.isub, 1) := by decide +kernel
theorem dX6_holding_42 : decode cX6_holding 42 = .ok (.iconst 0, 1) := by decide +kernel
theorem dX6_holding_43 : decode cX6_holding 43 = .ok (.iconst 2, 1) := by decide +kernel
theorem dX6_holding_44 : decode cX6_holding 44 = .ok (.iload_n 2, 1) := by decide +kernel
theorem dX6_holding_45 : decode cX6_holding 45 = .ok (.imul, 1) := by decide +kernel
theorem dX6_holding_46 : decode cX6_holding 46 = .ok (.invokestatic 72, 3) := by decide +kernel
theorem dX6_holding_49 : decode cX6_holding 49 = .ok (.istore 4, 2) := by decide +kernel
theorem dX6_holding_51 : decode cX6_holding 51 = .ok (.aload_n 0, 1) := by decide +kernel
theorem dX6_holding_52 : decode cX6_holding 52 = .ok (.iload_n 1, 1) := by decide +kernel
theorem dX6_holding_53 : decode cX6_holding 53 = .ok (.iconst 0, 1) := by decide +kernel
theorem dX6_holding_54 : decode cX6_holding 54 = .ok (.invokevirtual 53, 3) := by decide +kernel
theorem dX6_holding_57 : decode cX6_holding 57 = .ok (.tableswitch 82 1 5 #[35, 59, 77, 37, 62], 35) := by decide +kernel
theorem dX6_holding_92 : decode cX6_holding 92 = .ok (.iload_n 3, 1) := by decide +kernel
theorem dX6_holding_93 : decode cX6_holding 93 = .ok (.ireturn, 1) := by decide +kernel
theorem dX6_holding_94 : decode cX6_holding 94 = .ok (.iload_n 3, 1) := by decide +kernel
theorem dX6_holding_95 : decode cX6_holding 95 = .ok (.bipush 10, 2) := by decide +kernel
theorem dX6_holding_97 : decode cX6_holding 97 = .ok (.aload_n 0, 1) := by decide +kernel
theorem dX6_holding_98 : decode cX6_holding 98 = .ok (.aload_n 0, 1) := by decide +kernel
theorem dX6_holding_99 : decode cX6_holding 99 = .ok (.iload_n 1, 1) := by decide +kernel
theorem dX6_holding_100 : decode cX6_holding 100 = .ok (.iconst 1, 1) := by decide +kernel
theorem dX6_holding_101 : decode cX6_holding 101 = .ok (.invokevirtual 53, 3) := by decide +kernel
theorem dX6_holding_104 : decode cX6_holding 104 = .ok (.iconst 1, 1) := by decide +kernel
theorem dX6_holding_105 : decode cX6_holding 105 = .ok (.invokevirtual 60, 3) := by decide +kernel
theorem dX6_holding_108 : decode cX6_holding 108 = .ok (.invokestatic 64, 3) := by decide +kernel
theorem dX6_holding_111 : decode cX6_holding 111 = .ok (.iconst 1, 1) := by decide +kernel
theorem dX6_holding_112 : decode cX6_holding 112 = .ok (.isub, 1) := by decide +kernel
theorem dX6_holding_113 : decode cX6_holding 113 = .ok (.imul, 1) := by decide +kernel
theorem dX6_holding_114 : decode cX6_holding 114 = .ok (.iadd, 1) := by decide +kernel
theorem dX6_holding_115 : decode cX6_holding 115 = .ok (.ireturn, 1) := by decide +kernel
theorem dX6_holding_116 : decode cX6_holding 116 = .ok (.iload 4, 2) := by decide +kernel
theorem dX6_holding_118 : decode cX6_holding 118 = .ok (.ireturn, 1) := by decide +kernel
theorem dX6_holding_119 : decode cX6_holding 119 = .ok (.iload 4, 2) := by decide +kernel
theorem dX6_holding_121 : decode cX6_holding 121 = .ok (.bipush 60, 2) := by decide +kernel
theorem dX6_holding_123 : decode cX6_holding 123 = .ok (.if_icmp .ge 8, 3) := by decide +kernel
theorem dX6_holding_126 : decode cX6_holding 126 = .ok (.bipush 60, 2) := by decide +kernel
theorem dX6_holding_128 : decode cX6_holding 128 = .ok (.goto 5, 3) := by decide +kernel
theorem dX6_holding_131 : decode cX6_holding 131 = .ok (.iload 4, 2) := by decide +kernel
theorem dX6_holding_133 : decode cX6_holding 133 = .ok (.ireturn, 1) := by decide +kernel
theorem dX6_holding_134 : decode cX6_holding 134 = .ok (.bipush 99, 2) := by decide +kernel
theorem dX6_holding_136 : decode cX6_holding 136 = .ok (.iload_n 2, 1) := by decide +kernel
theorem dX6_holding_137 : decode cX6_holding 137 = .ok (.isub, 1) := by decide +kernel
theorem dX6_holding_138 : decode cX6_holding 138 = .ok (.ireturn, 1) := by decide +kernel
theorem dX6_holding_139 : decode cX6_holding 139 = .ok (.iconst 2, 1) := by decide +kernel
theorem dX6_holding_140 : decode cX6_holding 140 = .ok (.iload_n 2, 1) := by decide +kernel
theorem dX6_holding_141 : decode cX6_holding 141 = .ok (.imul, 1) := by decide +kernel
theorem dX6_holding_142 : decode cX6_holding 142 = .ok (.ireturn, 1) := by decide +kernel
theorem dX6_settling_0 : decode cX6_settling 0 = .ok (.aload_n 0, 1) := by decide +kernel
theorem dX6_settling_1 : decode cX6_settling 1 = .ok (.iload_n 1, 1) := by decide +kernel
theorem dX6_settling_2 : decode cX6_settling 2 = .ok (.iconst 2, 1) := by decide +kernel
theorem dX6_settling_3 : decode cX6_settling 3 = .ok (.invokevirtual 53, 3) := by decide +kernel
theorem dX6_settling_6 : decode cX6_settling 6 = .ok (.bipush 60, 2) := by decide +kernel
theorem dX6_settling_8 : decode cX6_settling 8 = .ok (.if_icmp .lt 7, 3) := by decide +kernel
theorem dX6_settling_11 : decode cX6_settling 11 = .ok (.iconst 0, 1) := by decide +kernel
theorem dX6_settling_12 : decode cX6_settling 12 = .ok (.goto 4, 3) := by decide +kernel
theorem dX6_settling_15 : decode cX6_settling 15 = .ok (.iconst 2, 1) := by decide +kernel
theorem dX6_settling_16 : decode cX6_settling 16 = .ok (.istore_n 2, 1) := by decide +kernel
theorem dX6_settling_17 : decode cX6_settling 17 = .ok (.iconst 2, 1) := by decide +kernel
theorem dX6_settling_18 : decode cX6_settling 18 = .ok (.aload_n 0, 1) := by decide +kernel
theorem dX6_settling_19 : decode cX6_settling 19 = .ok (.invokevirtual 68, 3) := by decide +kernel
theorem dX6_settling_22 : decode cX6_settling 22 = .ok (.bipush 10, 2) := by decide +kernel
theorem dX6_settling_24 : decode cX6_settling 24 = .ok (.idiv, 1) := by decide +kernel
theorem dX6_settling_25 : decode cX6_settling 25 = .ok (.iadd, 1) := by decide +kernel
theorem dX6_settling_26 : decode cX6_settling 26 = .ok (.istore_n 3, 1) := by decide +kernel
theorem dX6_settling_27 : decode cX6_settling 27 = .ok (.aload_n 0, 1) := by decide +kernel
theorem dX6_settling_28 : decode cX6_settling 28 = .ok (.iload_n 1, 1) := by decide +kernel
theorem dX6_settling_29 : decode cX6_settling 29 = .ok (.iconst 0, 1) := by decide +kernel
theorem dX6_settling_30 : decode cX6_settling 30 = .ok (.invokevirtual 53, 3) := by decide +kernel
theorem dX6_settling_33 : decode cX6_settling 33 = .ok (.tableswitch 70 1 5 #[35, 49, 68, 37, 51], 35) := by decide +kernel
theorem dX6_settling_68 : decode cX6_settling 68 = .ok (.iload_n 2, 1) := by decide +kernel
theorem dX6_settling_69 : decode cX6_settling 69 = .ok (.ireturn, 1) := by decide +kernel
theorem dX6_settling_70 : decode cX6_settling 70 = .ok (.iload_n 2, 1) := by decide +kernel
theorem dX6_settling_71 : decode cX6_settling 71 = .ok (.ifCond .ne 7, 3) := by decide +kernel
theorem dX6_settling_74 : decode cX6_settling 74 = .ok (.iconst 0, 1) := by decide +kernel
theorem dX6_settling_75 : decode cX6_settling 75 = .ok (.goto 6, 3) := by decide +kernel
theorem dX6_settling_78 : decode cX6_settling 78 = .ok (.iload_n 2, 1) := by decide +kernel
theorem dX6_settling_79 : decode cX6_settling 79 = .ok (.iconst 1, 1) := by decide +kernel
theorem dX6_settling_80 : decode cX6_settling 80 = .ok (.isub, 1) := by decide +kernel
theorem dX6_settling_81 : decode cX6_settling 81 = .ok (.ireturn, 1) := by decide +kernel
theorem dX6_settling_82 : decode cX6_settling 82 = .ok (.iload_n 3, 1) := by decide +kernel
theorem dX6_settling_83 : decode cX6_settling 83 = .ok (.ireturn, 1) := by decide +kernel
theorem dX6_settling_84 : decode cX6_settling 84 = .ok (.aload_n 0, 1) := by decide +kernel
theorem dX6_settling_85 : decode cX6_settling 85 = .ok (.iload_n 1, 1) := by decide +kernel
theorem dX6_settling_86 : decode cX6_settling 86 = .ok (.iconst 4, 1) := by decide +kernel
theorem dX6_settling_87 : decode cX6_settling 87 = .ok (.invokevirtual 53, 3) := by decide +kernel
theorem dX6_settling_90 : decode cX6_settling 90 = .ok (.bipush 6, 2) := by decide +kernel
theorem dX6_settling_92 : decode cX6_settling 92 = .ok (.if_icmp .ge 7, 3) := by decide +kernel
theorem dX6_settling_95 : decode cX6_settling 95 = .ok (.iconst 0, 1) := by decide +kernel
theorem dX6_settling_96 : decode cX6_settling 96 = .ok (.goto 4, 3) := by decide +kernel
theorem dX6_settling_99 : decode cX6_settling 99 = .ok (.iload_n 3, 1) := by decide +kernel
theorem dX6_settling_100 : decode cX6_settling 100 = .ok (.ireturn, 1) := by decide +kernel
theorem dX6_settling_101 : decode cX6_settling 101 = .ok (.iconst (-1), 1) := by decide +kernel
theorem dX6_settling_102 : decode cX6_settling 102 = .ok (.ireturn, 1) := by decide +kernel
theorem dX6_settling_103 : decode cX6_settling 103 = .ok (.iconst 2, 1) := by decide +kernel
theorem dX6_settling_104 : decode cX6_settling 104 = .ok (.ireturn, 1) := by decide +kernel
theorem dX6_teasing_0 : decode cX6_teasing 0 = .ok (.aload_n 0, 1) := by decide +kernel
theorem dX6_teasing_1 : decode cX6_teasing 1 = .ok (.iload_n 1, 1) := by decide +kernel
theorem dX6_teasing_2 : decode cX6_teasing 2 = .ok (.iconst 0, 1) := by decide +kernel
theorem dX6_teasing_3 : decode cX6_teasing 3 = .ok (.invokevirtual 53, 3) := by decide +kernel
theorem dX6_teasing_6 : decode cX6_teasing 6 = .ok (.tableswitch 61 1 5 #[34, 37, 58, 34, 40], 34) := by decide +kernel
theorem dX6_teasing_40 : decode cX6_teasing 40 = .ok (.bipush 30, 2) := by decide +kernel
theorem dX6_teasing_42 : decode cX6_teasing 42 = .ok (.ireturn, 1) := by decide +kernel
theorem dX6_teasing_43 : decode cX6_teasing 43 = .ok (.bipush 10, 2) := by decide +kernel
theorem dX6_teasing_45 : decode cX6_teasing 45 = .ok (.ireturn, 1) := by decide +kernel
theorem dX6_teasing_46 : decode cX6_teasing 46 = .ok (.aload_n 0, 1) := by decide +kernel
theorem dX6_teasing_47 : decode cX6_teasing 47 = .ok (.iload_n 1, 1) := by decide +kernel
theorem dX6_teasing_48 : decode cX6_teasing 48 = .ok (.iconst 2, 1) := by decide +kernel
theorem dX6_teasing_49 : decode cX6_teasing 49 = .ok (.invokevirtual 53, 3) := by decide +kernel
theorem dX6_teasing_52 : decode cX6_teasing 52 = .ok (.bipush 90, 2) := by decide +kernel
theorem dX6_teasing_54 : decode cX6_teasing 54 = .ok (.if_icmp .lt 7, 3) := by decide +kernel
theorem dX6_teasing_57 : decode cX6_teasing 57 = .ok (.iconst 0, 1) := by decide +kernel
theorem dX6_teasing_58 : decode cX6_teasing 58 = .ok (.goto 5, 3) := by decide +kernel
theorem dX6_teasing_61 : decode cX6_teasing 61 = .ok (.bipush 10, 2) := by decide +kernel
theorem dX6_teasing_63 : decode cX6_teasing 63 = .ok (.ireturn, 1) := by decide +kernel
theorem dX6_teasing_64 : decode cX6_teasing 64 = .ok (.bipush (-20), 2) := by decide +kernel
theorem dX6_teasing_66 : decode cX6_teasing 66 = .ok (.ireturn, 1) := by decide +kernel
theorem dX6_teasing_67 : decode cX6_teasing 67 = .ok (.bipush 15, 2) := by decide +kernel
theorem dX6_teasing_69 : decode cX6_teasing 69 = .ok (.ireturn, 1) := by decide +kernel
theorem dX6_isGiving_0 : decode cX6_isGiving 0 = .ok (.iload_n 2, 1) := by decide +kernel
theorem dX6_isGiving_1 : decode cX6_isGiving 1 = .ok (.aload_n 0, 1) := by decide +kernel
theorem dX6_isGiving_2 : decode cX6_isGiving 2 = .ok (.iload_n 1, 1) := by decide +kernel
theorem dX6_isGiving_3 : decode cX6_isGiving 3 = .ok (.invokevirtual 76, 3) := by decide +kernel
theorem dX6_isGiving_6 : decode cX6_isGiving 6 = .ok (.if_icmp .le 7, 3) := by decide +kernel
theorem dX6_isGiving_9 : decode cX6_isGiving 9 = .ok (.iconst 1, 1) := by decide +kernel
theorem dX6_isGiving_10 : decode cX6_isGiving 10 = .ok (.goto 4, 3) := by decide +kernel
theorem dX6_isGiving_13 : decode cX6_isGiving 13 = .ok (.iconst 0, 1) := by decide +kernel
theorem dX6_isGiving_14 : decode cX6_isGiving 14 = .ok (.istore_n 3, 1) := by decide +kernel
theorem dX6_isGiving_15 : decode cX6_isGiving 15 = .ok (.aload_n 0, 1) := by decide +kernel
theorem dX6_isGiving_16 : decode cX6_isGiving 16 = .ok (.iload_n 1, 1) := by decide +kernel
theorem dX6_isGiving_17 : decode cX6_isGiving 17 = .ok (.iconst 0, 1) := by decide +kernel
theorem dX6_isGiving_18 : decode cX6_isGiving 18 = .ok (.invokevirtual 53, 3) := by decide +kernel
theorem dX6_isGiving_21 : decode cX6_isGiving 21 = .ok (.tableswitch 97 1 5 #[35, 97, 76, 35, 56], 35) := by decide +kernel
theorem dX6_isGiving_56 : decode cX6_isGiving 56 = .ok (.iload_n 3, 1) := by decide +kernel
theorem dX6_isGiving_57 : decode cX6_isGiving 57 = .ok (.ifCond .eq 18, 3) := by decide +kernel
theorem dX6_isGiving_60 : decode cX6_isGiving 60 = .ok (.aload_n 0, 1) := by decide +kernel
theorem dX6_isGiving_61 : decode cX6_isGiving 61 = .ok (.iload_n 1, 1) := by decide +kernel
theorem dX6_isGiving_62 : decode cX6_isGiving 62 = .ok (.iconst 2, 1) := by decide +kernel
theorem dX6_isGiving_63 : decode cX6_isGiving 63 = .ok (.invokevirtual 53, 3) := by decide +kernel
theorem dX6_isGiving_66 : decode cX6_isGiving 66 = .ok (.bipush 90, 2) := by decide +kernel
theorem dX6_isGiving_68 : decode cX6_isGiving 68 = .ok (.if_icmp .ge 7, 3) := by decide +kernel
theorem dX6_isGiving_71 : decode cX6_isGiving 71 = .ok (.iconst 1, 1) := by decide +kernel
theorem dX6_isGiving_72 : decode cX6_isGiving 72 = .ok (.goto 4, 3) := by decide +kernel
theorem dX6_isGiving_75 : decode cX6_isGiving 75 = .ok (.iconst 0, 1) := by decide +kernel
theorem dX6_isGiving_76 : decode cX6_isGiving 76 = .ok (.ireturn, 1) := by decide +kernel
theorem dX6_isGiving_77 : decode cX6_isGiving 77 = .ok (.iload_n 3, 1) := by decide +kernel
theorem dX6_isGiving_78 : decode cX6_isGiving 78 = .ok (.ifCond .eq 17, 3) := by decide +kernel
theorem dX6_isGiving_81 : decode cX6_isGiving 81 = .ok (.aload_n 0, 1) := by decide +kernel
theorem dX6_isGiving_82 : decode cX6_isGiving 82 = .ok (.iload_n 1, 1) := by decide +kernel
theorem dX6_isGiving_83 : decode cX6_isGiving 83 = .ok (.iconst 4, 1) := by decide +kernel
theorem dX6_isGiving_84 : decode cX6_isGiving 84 = .ok (.invokevirtual 53, 3) := by decide +kernel
theorem dX6_isGiving_87 : decode cX6_isGiving 87 = .ok (.iconst 3, 1) := by decide +kernel
theorem dX6_isGiving_88 : decode cX6_isGiving 88 = .ok (.if_icmp .lt 7, 3) := by decide +kernel
theorem dX6_isGiving_91 : decode cX6_isGiving 91 = .ok (.iconst 1, 1) := by decide +kernel
theorem dX6_isGiving_92 : decode cX6_isGiving 92 = .ok (.goto 4, 3) := by decide +kernel
theorem dX6_isGiving_95 : decode cX6_isGiving 95 = .ok (.iconst 0, 1) := by decide +kernel
theorem dX6_isGiving_96 : decode cX6_isGiving 96 = .ok (.ireturn, 1) := by decide +kernel
theorem dX6_isGiving_97 : decode cX6_isGiving 97 = .ok (.iload_n 3, 1) := by decide +kernel
theorem dX6_isGiving_98 : decode cX6_isGiving 98 = .ok (.ifCond .ne 14, 3) := by decide +kernel
theorem dX6_isGiving_101 : decode cX6_isGiving 101 = .ok (.aload_n 0, 1) := by decide +kernel
theorem dX6_isGiving_102 : decode cX6_isGiving 102 = .ok (.iload_n 1, 1) := by decide +kernel
theorem dX6_isGiving_103 : decode cX6_isGiving 103 = .ok (.iconst 2, 1) := by decide +kernel
theorem dX6_isGiving_104 : decode cX6_isGiving 104 = .ok (.invokevirtual 53, 3) := by decide +kernel
theorem dX6_isGiving_107 : decode cX6_isGiving 107 = .ok (.bipush 99, 2) := by decide +kernel
theorem dX6_isGiving_109 : decode cX6_isGiving 109 = .ok (.if_icmp .ne 7, 3) := by decide +kernel
theorem dX6_isGiving_112 : decode cX6_isGiving 112 = .ok (.iconst 1, 1) := by decide +kernel
theorem dX6_isGiving_113 : decode cX6_isGiving 113 = .ok (.goto 4, 3) := by decide +kernel
theorem dX6_isGiving_116 : decode cX6_isGiving 116 = .ok (.iconst 0, 1) := by decide +kernel
theorem dX6_isGiving_117 : decode cX6_isGiving 117 = .ok (.ireturn, 1) := by decide +kernel
theorem dX6_isGiving_118 : decode cX6_isGiving 118 = .ok (.iload_n 3, 1) := by decide +kernel
theorem dX6_isGiving_119 : decode cX6_isGiving 119 = .ok (.ireturn, 1) := by decide +kernel
theorem dX6_wind_0 : decode cX6_wind 0 = .ok (.iload_n 1, 1) := by decide +kernel
theorem dX6_wind_1 : decode cX6_wind 1 = .ok (.iconst 0, 1) := by decide +kernel
theorem dX6_wind_2 : decode cX6_wind 2 = .ok (.bipush 11, 2) := by decide +kernel
theorem dX6_wind_4 : decode cX6_wind 4 = .ok (.invokestatic 49, 3) := by decide +kernel
theorem dX6_wind_7 : decode cX6_wind 7 = .ok (.ifCond .eq 24, 3) := by decide +kernel
theorem dX6_wind_10 : decode cX6_wind 10 = .ok (.iload_n 2, 1) := by decide +kernel
theorem dX6_wind_11 : decode cX6_wind 11 = .ok (.iconst 0, 1) := by decide +kernel
theorem dX6_wind_12 : decode cX6_wind 12 = .ok (.bipush 99, 2) := by decide +kernel
theorem dX6_wind_14 : decode cX6_wind 14 = .ok (.invokestatic 49, 3) := by decide +kernel
theorem dX6_wind_17 : decode cX6_wind 17 = .ok (.ifCond .eq 14, 3) := by decide +kernel
theorem dX6_wind_20 : decode cX6_wind 20 = .ok (.aload_n 0, 1) := by decide +kernel
theorem dX6_wind_21 : decode cX6_wind 21 = .ok (.iconst 2, 1) := by decide +kernel
theorem dX6_wind_22 : decode cX6_wind 22 = .ok (.iload_n 1, 1) := by decide +kernel
theorem dX6_wind_23 : decode cX6_wind 23 = .ok (.iadd, 1) := by decide +kernel
theorem dX6_wind_24 : decode cX6_wind 24 = .ok (.iload_n 2, 1) := by decide +kernel
theorem dX6_wind_25 : decode cX6_wind 25 = .ok (.invokevirtual 79, 3) := by decide +kernel
theorem dX6_wind_28 : decode cX6_wind 28 = .ok (.goto 9, 3) := by decide +kernel
theorem dX6_wind_31 : decode cX6_wind 31 = .ok (.aload_n 0, 1) := by decide +kernel
theorem dX6_wind_32 : decode cX6_wind 32 = .ok (.ldc 48, 2) := by decide +kernel
theorem dX6_wind_34 : decode cX6_wind 34 = .ok (.invokevirtual 82, 3) := by decide +kernel
theorem dX6_wind_37 : decode cX6_wind 37 = .ok (.ireturn, 1) := by decide +kernel
theorem dX6_weight_0 : decode cX6_weight 0 = .ok (.iload_n 1, 1) := by decide +kernel
theorem dX6_weight_1 : decode cX6_weight 1 = .ok (.invokestatic 85, 3) := by decide +kernel
theorem dX6_weight_4 : decode cX6_weight 4 = .ok (.ifCond .eq 28, 3) := by decide +kernel
theorem dX6_weight_7 : decode cX6_weight 7 = .ok (.iload_n 2, 1) := by decide +kernel
theorem dX6_weight_8 : decode cX6_weight 8 = .ok (.iconst 0, 1) := by decide +kernel
theorem dX6_weight_9 : decode cX6_weight 9 = .ok (.sipush 999, 3) := by decide +kernel
theorem dX6_weight_12 : decode cX6_weight 12 = .ok (.invokestatic 49, 3) := by decide +kernel
theorem dX6_weight_15 : decode cX6_weight 15 = .ok (.ifCond .eq 17, 3) := by decide +kernel
theorem dX6_weight_18 : decode cX6_weight 18 = .ok (.aload_n 0, 1) := by decide +kernel
theorem dX6_weight_19 : decode cX6_weight 19 = .ok (.bipush 14, 2) := by decide +kernel
theorem dX6_weight_21 : decode cX6_weight 21 = .ok (.iconst 2, 1) := by decide +kernel
theorem dX6_weight_22 : decode cX6_weight 22 = .ok (.iload_n 1, 1) := by decide +kernel
theorem dX6_weight_23 : decode cX6_weight 23 = .ok (.imul, 1) := by decide +kernel
theorem dX6_weight_24 : decode cX6_weight 24 = .ok (.iadd, 1) := by decide +kernel
theorem dX6_weight_25 : decode cX6_weight 25 = .ok (.iload_n 2, 1) := by decide +kernel
theorem dX6_weight_26 : decode cX6_weight 26 = .ok (.invokevirtual 79, 3) := by decide +kernel
theorem dX6_weight_29 : decode cX6_weight 29 = .ok (.goto 9, 3) := by decide +kernel
theorem dX6_weight_32 : decode cX6_weight 32 = .ok (.aload_n 0, 1) := by decide +kernel
theorem dX6_weight_33 : decode cX6_weight 33 = .ok (.ldc 48, 2) := by decide +kernel
theorem dX6_weight_35 : decode cX6_weight 35 = .ok (.invokevirtual 82, 3) := by decide +kernel
theorem dX6_weight_38 : decode cX6_weight 38 = .ok (.ireturn, 1) := by decide +kernel
theorem dX6_raise_0 : decode cX6_raise 0 = .ok (.iload_n 1, 1) := by decide +kernel
theorem dX6_raise_1 : decode cX6_raise 1 = .ok (.invokestatic 85, 3) := by decide +kernel
theorem dX6_raise_4 : decode cX6_raise 4 = .ok (.ifCond .eq 21, 3) := by decide +kernel
theorem dX6_raise_7 : decode cX6_raise 7 = .ok (.iconst 1, 1) := by decide +kernel
theorem dX6_raise_8 : decode cX6_raise 8 = .ok (.aload_n 0, 1) := by decide +kernel
theorem dX6_raise_9 : decode cX6_raise 9 = .ok (.bipush 14, 2) := by decide +kernel
theorem dX6_raise_11 : decode cX6_raise 11 = .ok (.iconst 2, 1) := by decide +kernel
theorem dX6_raise_12 : decode cX6_raise 12 = .ok (.iload_n 1, 1) := by decide +kernel
theorem dX6_raise_13 : decode cX6_raise 13 = .ok (.imul, 1) := by decide +kernel
theorem dX6_raise_14 : decode cX6_raise 14 = .ok (.iadd, 1) := by decide +kernel
theorem dX6_raise_15 : decode cX6_raise 15 = .ok (.iconst 1, 1) := by decide +kernel
theorem dX6_raise_16 : decode cX6_raise 16 = .ok (.iadd, 1) := by decide +kernel
theorem dX6_raise_17 : decode cX6_raise 17 = .ok (.iconst 1, 1) := by decide +kernel
theorem dX6_raise_18 : decode cX6_raise 18 = .ok (.invokevirtual 79, 3) := by decide +kernel
theorem dX6_raise_21 : decode cX6_raise 21 = .ok (.isub, 1) := by decide +kernel
theorem dX6_raise_22 : decode cX6_raise 22 = .ok (.goto 9, 3) := by decide +kernel
theorem dX6_raise_25 : decode cX6_raise 25 = .ok (.aload_n 0, 1) := by decide +kernel
theorem dX6_raise_26 : decode cX6_raise 26 = .ok (.ldc 48, 2) := by decide +kernel
theorem dX6_raise_28 : decode cX6_raise 28 = .ok (.invokevirtual 82, 3) := by decide +kernel
theorem dX6_raise_31 : decode cX6_raise 31 = .ok (.ireturn, 1) := by decide +kernel
theorem dX6_heldOf_0 : decode cX6_heldOf 0 = .ok (.iconst 0, 1) := by decide +kernel
theorem dX6_heldOf_1 : decode cX6_heldOf 1 = .ok (.istore_n 2, 1) := by decide +kernel
theorem dX6_heldOf_2 : decode cX6_heldOf 2 = .ok (.iconst 0, 1) := by decide +kernel
theorem dX6_heldOf_3 : decode cX6_heldOf 3 = .ok (.istore_n 3, 1) := by decide +kernel
theorem dX6_heldOf_4 : decode cX6_heldOf 4 = .ok (.iload_n 3, 1) := by decide +kernel
theorem dX6_heldOf_5 : decode cX6_heldOf 5 = .ok (.aload_n 0, 1) := by decide +kernel
theorem dX6_heldOf_6 : decode cX6_heldOf 6 = .ok (.getfield 7, 3) := by decide +kernel
theorem dX6_heldOf_9 : decode cX6_heldOf 9 = .ok (.iconst 1, 1) := by decide +kernel
theorem dX6_heldOf_10 : decode cX6_heldOf 10 = .ok (.iaload, 1) := by decide +kernel
theorem dX6_heldOf_11 : decode cX6_heldOf 11 = .ok (.if_icmp .ge 31, 3) := by decide +kernel
theorem dX6_heldOf_14 : decode cX6_heldOf 14 = .ok (.iload_n 2, 1) := by decide +kernel
theorem dX6_heldOf_15 : decode cX6_heldOf 15 = .ok (.aload_n 0, 1) := by decide +kernel
theorem dX6_heldOf_16 : decode cX6_heldOf 16 = .ok (.iload_n 3, 1) := by decide +kernel
theorem dX6_heldOf_17 : decode cX6_heldOf 17 = .ok (.iconst 1, 1) := by decide +kernel
theorem dX6_heldOf_18 : decode cX6_heldOf 18 = .ok (.invokevirtual 53, 3) := by decide +kernel
theorem dX6_heldOf_21 : decode cX6_heldOf 21 = .ok (.iload_n 1, 1) := by decide +kernel
theorem dX6_heldOf_22 : decode cX6_heldOf 22 = .ok (.if_icmp .ne 11, 3) := by decide +kernel
theorem dX6_heldOf_25 : decode cX6_heldOf 25 = .ok (.aload_n 0, 1) := by decide +kernel
theorem dX6_heldOf_26 : decode cX6_heldOf 26 = .ok (.iload_n 3, 1) := by decide +kernel
theorem dX6_heldOf_27 : decode cX6_heldOf 27 = .ok (.invokevirtual 76, 3) := by decide +kernel
theorem dX6_heldOf_30 : decode cX6_heldOf 30 = .ok (.goto 4, 3) := by decide +kernel
theorem dX6_heldOf_33 : decode cX6_heldOf 33 = .ok (.iconst 0, 1) := by decide +kernel
theorem dX6_heldOf_34 : decode cX6_heldOf 34 = .ok (.iadd, 1) := by decide +kernel
theorem dX6_heldOf_35 : decode cX6_heldOf 35 = .ok (.istore_n 2, 1) := by decide +kernel
theorem dX6_heldOf_36 : decode cX6_heldOf 36 = .ok (.iinc 3 1, 3) := by decide +kernel
theorem dX6_heldOf_39 : decode cX6_heldOf 39 = .ok (.goto (-35), 3) := by decide +kernel
theorem dX6_heldOf_42 : decode cX6_heldOf 42 = .ok (.iload_n 2, 1) := by decide +kernel
theorem dX6_heldOf_43 : decode cX6_heldOf 43 = .ok (.ireturn, 1) := by decide +kernel
theorem dX6_mastOf_0 : decode cX6_mastOf 0 = .ok (.iload_n 1, 1) := by decide +kernel
theorem dX6_mastOf_1 : decode cX6_mastOf 1 = .ok (.invokestatic 85, 3) := by decide +kernel
theorem dX6_mastOf_4 : decode cX6_mastOf 4 = .ok (.ifCond .ne 10, 3) := by decide +kernel
theorem dX6_mastOf_7 : decode cX6_mastOf 7 = .ok (.aload_n 0, 1) := by decide +kernel
theorem dX6_mastOf_8 : decode cX6_mastOf 8 = .ok (.ldc 48, 2) := by decide +kernel
theorem dX6_mastOf_10 : decode cX6_mastOf 10 = .ok (.invokevirtual 82, 3) := by decide +kernel
theorem dX6_mastOf_13 : decode cX6_mastOf 13 = .ok (.ireturn, 1) := by decide +kernel
theorem dX6_mastOf_14 : decode cX6_mastOf 14 = .ok (.iload_n 2, 1) := by decide +kernel
theorem dX6_mastOf_15 : decode cX6_mastOf 15 = .ok (.tableswitch 70 0 5 #[37, 37, 44, 51, 58, 64], 37) := by decide +kernel
theorem dX6_mastOf_52 : decode cX6_mastOf 52 = .ok (.aload_n 0, 1) := by decide +kernel
theorem dX6_mastOf_53 : decode cX6_mastOf 53 = .ok (.iload_n 1, 1) := by decide +kernel
theorem dX6_mastOf_54 : decode cX6_mastOf 54 = .ok (.iload_n 2, 1) := by decide +kernel
theorem dX6_mastOf_55 : decode cX6_mastOf 55 = .ok (.invokevirtual 57, 3) := by decide +kernel
theorem dX6_mastOf_58 : decode cX6_mastOf 58 = .ok (.ireturn, 1) := by decide +kernel
theorem dX6_mastOf_59 : decode cX6_mastOf 59 = .ok (.aload_n 0, 1) := by decide +kernel
theorem dX6_mastOf_60 : decode cX6_mastOf 60 = .ok (.iload_n 1, 1) := by decide +kernel
theorem dX6_mastOf_61 : decode cX6_mastOf 61 = .ok (.iconst 0, 1) := by decide +kernel
theorem dX6_mastOf_62 : decode cX6_mastOf 62 = .ok (.invokevirtual 60, 3) := by decide +kernel
theorem dX6_mastOf_65 : decode cX6_mastOf 65 = .ok (.ireturn, 1) := by decide +kernel
theorem dX6_mastOf_66 : decode cX6_mastOf 66 = .ok (.aload_n 0, 1) := by decide +kernel
theorem dX6_mastOf_67 : decode cX6_mastOf 67 = .ok (.iload_n 1, 1) := by decide +kernel
theorem dX6_mastOf_68 : decode cX6_mastOf 68 = .ok (.iconst 1, 1) := by decide +kernel
theorem dX6_mastOf_69 : decode cX6_mastOf 69 = .ok (.invokevirtual 60, 3) := by decide +kernel
theorem dX6_mastOf_72 : decode cX6_mastOf 72 = .ok (.ireturn, 1) := by decide +kernel
theorem dX6_mastOf_73 : decode cX6_mastOf 73 = .ok (.aload_n 0, 1) := by decide +kernel
theorem dX6_mastOf_74 : decode cX6_mastOf 74 = .ok (.iload_n 1, 1) := by decide +kernel
theorem dX6_mastOf_75 : decode cX6_mastOf 75 = .ok (.invokevirtual 89, 3) := by decide +kernel
theorem dX6_mastOf_78 : decode cX6_mastOf 78 = .ok (.ireturn, 1) := by decide +kernel
theorem dX6_mastOf_79 : decode cX6_mastOf 79 = .ok (.aload_n 0, 1) := by decide +kernel
theorem dX6_mastOf_80 : decode cX6_mastOf 80 = .ok (.iload_n 1, 1) := by decide +kernel
theorem dX6_mastOf_81 : decode cX6_mastOf 81 = .ok (.invokevirtual 92, 3) := by decide +kernel
theorem dX6_mastOf_84 : decode cX6_mastOf 84 = .ok (.ireturn, 1) := by decide +kernel
theorem dX6_mastOf_85 : decode cX6_mastOf 85 = .ok (.aload_n 0, 1) := by decide +kernel
theorem dX6_mastOf_86 : decode cX6_mastOf 86 = .ok (.ldc 48, 2) := by decide +kernel
theorem dX6_mastOf_88 : decode cX6_mastOf 88 = .ok (.invokevirtual 82, 3) := by decide +kernel
theorem dX6_mastOf_91 : decode cX6_mastOf 91 = .ok (.ireturn, 1) := by decide +kernel
theorem dX6_sumOf_0 : decode cX6_sumOf 0 = .ok (.iconst 0, 1) := by decide +kernel
theorem dX6_sumOf_1 : decode cX6_sumOf 1 = .ok (.istore_n 2, 1) := by decide +kernel
theorem dX6_sumOf_2 : decode cX6_sumOf 2 = .ok (.iconst 0, 1) := by decide +kernel
theorem dX6_sumOf_3 : decode cX6_sumOf 3 = .ok (.istore_n 3, 1) := by decide +kernel
theorem dX6_sumOf_4 : decode cX6_sumOf 4 = .ok (.iload_n 3, 1) := by decide +kernel
theorem dX6_sumOf_5 : decode cX6_sumOf 5 = .ok (.aload_n 0, 1) := by decide +kernel
theorem dX6_sumOf_6 : decode cX6_sumOf 6 = .ok (.getfield 7, 3) := by decide +kernel
theorem dX6_sumOf_9 : decode cX6_sumOf 9 = .ok (.iconst 1, 1) := by decide +kernel
theorem dX6_sumOf_10 : decode cX6_sumOf 10 = .ok (.iaload, 1) := by decide +kernel
theorem dX6_sumOf_11 : decode cX6_sumOf 11 = .ok (.if_icmp .ge 18, 3) := by decide +kernel
theorem dX6_sumOf_14 : decode cX6_sumOf 14 = .ok (.iload_n 2, 1) := by decide +kernel
theorem dX6_sumOf_15 : decode cX6_sumOf 15 = .ok (.aload_n 0, 1) := by decide +kernel
theorem dX6_sumOf_16 : decode cX6_sumOf 16 = .ok (.iload_n 3, 1) := by decide +kernel
theorem dX6_sumOf_17 : decode cX6_sumOf 17 = .ok (.iload_n 1, 1) := by decide +kernel
theorem dX6_sumOf_18 : decode cX6_sumOf 18 = .ok (.invokevirtual 53, 3) := by decide +kernel
theorem dX6_sumOf_21 : decode cX6_sumOf 21 = .ok (.iadd, 1) := by decide +kernel
theorem dX6_sumOf_22 : decode cX6_sumOf 22 = .ok (.istore_n 2, 1) := by decide +kernel
theorem dX6_sumOf_23 : decode cX6_sumOf 23 = .ok (.iinc 3 1, 3) := by decide +kernel
theorem dX6_sumOf_26 : decode cX6_sumOf 26 = .ok (.goto (-22), 3) := by decide +kernel
theorem dX6_sumOf_29 : decode cX6_sumOf 29 = .ok (.iload_n 2, 1) := by decide +kernel
theorem dX6_sumOf_30 : decode cX6_sumOf 30 = .ok (.ireturn, 1) := by decide +kernel
theorem dX6_now_0 : decode cX6_now 0 = .ok (.iload_n 1, 1) := by decide +kernel
theorem dX6_now_1 : decode cX6_now 1 = .ok (.tableswitch 77 0 5 #[39, 46, 56, 61, 66, 71], 39) := by decide +kernel
theorem dX6_now_40 : decode cX6_now 40 = .ok (.aload_n 0, 1) := by decide +kernel
theorem dX6_now_41 : decode cX6_now 41 = .ok (.getfield 7, 3) := by decide +kernel
theorem dX6_now_44 : decode cX6_now 44 = .ok (.iconst 0, 1) := by decide +kernel
theorem dX6_now_45 : decode cX6_now 45 = .ok (.iaload, 1) := by decide +kernel
theorem dX6_now_46 : decode cX6_now 46 = .ok (.ireturn, 1) := by decide +kernel
theorem dX6_now_47 : decode cX6_now 47 = .ok (.aload_n 0, 1) := by decide +kernel
theorem dX6_now_48 : decode cX6_now 48 = .ok (.getfield 7, 3) := by decide +kernel
theorem dX6_now_51 : decode cX6_now 51 = .ok (.iconst 0, 1) := by decide +kernel
theorem dX6_now_52 : decode cX6_now 52 = .ok (.iaload, 1) := by decide +kernel
theorem dX6_now_53 : decode cX6_now 53 = .ok (.bipush 12, 2) := by decide +kernel
theorem dX6_now_55 : decode cX6_now 55 = .ok (.irem, 1) := by decide +kernel
theorem dX6_now_56 : decode cX6_now 56 = .ok (.ireturn, 1) := by decide +kernel
theorem dX6_now_57 : decode cX6_now 57 = .ok (.aload_n 0, 1) := by decide +kernel
theorem dX6_now_58 : decode cX6_now 58 = .ok (.invokevirtual 68, 3) := by decide +kernel
theorem dX6_now_61 : decode cX6_now 61 = .ok (.ireturn, 1) := by decide +kernel
theorem dX6_now_62 : decode cX6_now 62 = .ok (.aload_n 0, 1) := by decide +kernel
theorem dX6_now_63 : decode cX6_now 63 = .ok (.invokevirtual 95, 3) := by decide +kernel
theorem dX6_now_66 : decode cX6_now 66 = .ok (.ireturn, 1) := by decide +kernel
theorem dX6_now_67 : decode cX6_now 67 = .ok (.aload_n 0, 1) := by decide +kernel
theorem dX6_now_68 : decode cX6_now 68 = .ok (.invokevirtual 98, 3) := by decide +kernel
theorem dX6_now_71 : decode cX6_now 71 = .ok (.ireturn, 1) := by decide +kernel
theorem dX6_now_72 : decode cX6_now 72 = .ok (.aload_n 0, 1) := by decide +kernel
theorem dX6_now_73 : decode cX6_now 73 = .ok (.iconst 2, 1) := by decide +kernel
theorem dX6_now_74 : decode cX6_now 74 = .ok (.invokevirtual 101, 3) := by decide +kernel
theorem dX6_now_77 : decode cX6_now 77 = .ok (.ireturn, 1) := by decide +kernel
theorem dX6_now_78 : decode cX6_now 78 = .ok (.aload_n 0, 1) := by decide +kernel
theorem dX6_now_79 : decode cX6_now 79 = .ok (.ldc 48, 2) := by decide +kernel
theorem dX6_now_81 : decode cX6_now 81 = .ok (.invokevirtual 82, 3) := by decide +kernel
theorem dX6_now_84 : decode cX6_now 84 = .ok (.ireturn, 1) := by decide +kernel
theorem dX6_adds_0 : decode cX6_adds 0 = .ok (.aload_n 0, 1) := by decide +kernel
theorem dX6_adds_1 : decode cX6_adds 1 = .ok (.getfield 7, 3) := by decide +kernel
theorem dX6_adds_4 : decode cX6_adds 4 = .ok (.iconst 1, 1) := by decide +kernel
theorem dX6_adds_5 : decode cX6_adds 5 = .ok (.iaload, 1) := by decide +kernel
theorem dX6_adds_6 : decode cX6_adds 6 = .ok (.istore 5, 2) := by decide +kernel
theorem dX6_adds_8 : decode cX6_adds 8 = .ok (.aload_n 0, 1) := by decide +kernel
theorem dX6_adds_9 : decode cX6_adds 9 = .ok (.iload 5, 2) := by decide +kernel
theorem dX6_adds_11 : decode cX6_adds 11 = .ok (.iconst 0, 1) := by decide +kernel
theorem dX6_adds_12 : decode cX6_adds 12 = .ok (.iload_n 1, 1) := by decide +kernel
theorem dX6_adds_13 : decode cX6_adds 13 = .ok (.invokevirtual 104, 3) := by decide +kernel
theorem dX6_adds_16 : decode cX6_adds 16 = .ok (.aload_n 0, 1) := by decide +kernel
theorem dX6_adds_17 : decode cX6_adds 17 = .ok (.iload 5, 2) := by decide +kernel
theorem dX6_adds_19 : decode cX6_adds 19 = .ok (.iconst 1, 1) := by decide +kernel
theorem dX6_adds_20 : decode cX6_adds 20 = .ok (.iload_n 2, 1) := by decide +kernel
theorem dX6_adds_21 : decode cX6_adds 21 = .ok (.invokevirtual 104, 3) := by decide +kernel
theorem dX6_adds_24 : decode cX6_adds 24 = .ok (.aload_n 0, 1) := by decide +kernel
theorem dX6_adds_25 : decode cX6_adds 25 = .ok (.iload 5, 2) := by decide +kernel
theorem dX6_adds_27 : decode cX6_adds 27 = .ok (.iconst 2, 1) := by decide +kernel
theorem dX6_adds_28 : decode cX6_adds 28 = .ok (.iload_n 3, 1) := by decide +kernel
theorem dX6_adds_29 : decode cX6_adds 29 = .ok (.invokevirtual 104, 3) := by decide +kernel
theorem dX6_adds_32 : decode cX6_adds 32 = .ok (.aload_n 0, 1) := by decide +kernel
theorem dX6_adds_33 : decode cX6_adds 33 = .ok (.iload 5, 2) := by decide +kernel
theorem dX6_adds_35 : decode cX6_adds 35 = .ok (.iconst 3, 1) := by decide +kernel
theorem dX6_adds_36 : decode cX6_adds 36 = .ok (.iload 4, 2) := by decide +kernel
theorem dX6_adds_38 : decode cX6_adds 38 = .ok (.invokevirtual 104, 3) := by decide +kernel
theorem dX6_adds_41 : decode cX6_adds 41 = .ok (.aload_n 0, 1) := by decide +kernel
theorem dX6_adds_42 : decode cX6_adds 42 = .ok (.iload 5, 2) := by decide +kernel
theorem dX6_adds_44 : decode cX6_adds 44 = .ok (.iconst 4, 1) := by decide +kernel
theorem dX6_adds_45 : decode cX6_adds 45 = .ok (.iconst 0, 1) := by decide +kernel
theorem dX6_adds_46 : decode cX6_adds 46 = .ok (.invokevirtual 104, 3) := by decide +kernel
theorem dX6_adds_49 : decode cX6_adds 49 = .ok (.aload_n 0, 1) := by decide +kernel
theorem dX6_adds_50 : decode cX6_adds 50 = .ok (.getfield 7, 3) := by decide +kernel
theorem dX6_adds_53 : decode cX6_adds 53 = .ok (.iconst 1, 1) := by decide +kernel
theorem dX6_adds_54 : decode cX6_adds 54 = .ok (.dup2, 1) := by decide +kernel
theorem dX6_adds_55 : decode cX6_adds 55 = .ok (.iaload, 1) := by decide +kernel
theorem dX6_adds_56 : decode cX6_adds 56 = .ok (.iconst 1, 1) := by decide +kernel
theorem dX6_adds_57 : decode cX6_adds 57 = .ok (.iadd, 1) := by decide +kernel
theorem dX6_adds_58 : decode cX6_adds 58 = .ok (.iastore, 1) := by decide +kernel
theorem dX6_adds_59 : decode cX6_adds 59 = .ok (.return_, 1) := by decide +kernel
theorem dX6_knot_0 : decode cX6_knot 0 = .ok (.iload_n 1, 1) := by decide +kernel
theorem dX6_knot_1 : decode cX6_knot 1 = .ok (.invokestatic 107, 3) := by decide +kernel
theorem dX6_knot_4 : decode cX6_knot 4 = .ok (.ifCond .eq 10, 3) := by decide +kernel
theorem dX6_knot_7 : decode cX6_knot 7 = .ok (.iload_n 2, 1) := by decide +kernel
theorem dX6_knot_8 : decode cX6_knot 8 = .ok (.invokestatic 85, 3) := by decide +kernel
theorem dX6_knot_11 : decode cX6_knot 11 = .ok (.ifCond .ne 10, 3) := by decide +kernel
theorem dX6_knot_14 : decode cX6_knot 14 = .ok (.aload_n 0, 1) := by decide +kernel
theorem dX6_knot_15 : decode cX6_knot 15 = .ok (.ldc 48, 2) := by decide +kernel
theorem dX6_knot_17 : decode cX6_knot 17 = .ok (.invokevirtual 82, 3) := by decide +kernel
theorem dX6_knot_20 : decode cX6_knot 20 = .ok (.ireturn, 1) := by decide +kernel
theorem dX6_knot_21 : decode cX6_knot 21 = .ok (.aload_n 0, 1) := by decide +kernel
theorem dX6_knot_22 : decode cX6_knot 22 = .ok (.getfield 7, 3) := by decide +kernel
theorem dX6_knot_25 : decode cX6_knot 25 = .ok (.iconst 1, 1) := by decide +kernel
theorem dX6_knot_26 : decode cX6_knot 26 = .ok (.iaload, 1) := by decide +kernel
theorem dX6_knot_27 : decode cX6_knot 27 = .ok (.bipush 10, 2) := by decide +kernel
theorem dX6_knot_29 : decode cX6_knot 29 = .ok (.if_icmp .ne 10, 3) := by decide +kernel
theorem dX6_knot_32 : decode cX6_knot 32 = .ok (.aload_n 0, 1) := by decide +kernel
theorem dX6_knot_33 : decode cX6_knot 33 = .ok (.ldc 110, 2) := by decide +kernel
theorem dX6_knot_35 : decode cX6_knot 35 = .ok (.invokevirtual 82, 3) := by decide +kernel
theorem dX6_knot_38 : decode cX6_knot 38 = .ok (.ireturn, 1) := by decide +kernel
theorem dX6_knot_39 : decode cX6_knot 39 = .ok (.aload_n 0, 1) := by decide +kernel
theorem dX6_knot_40 : decode cX6_knot 40 = .ok (.iload_n 1, 1) := by decide +kernel
theorem dX6_knot_41 : decode cX6_knot 41 = .ok (.iload_n 2, 1) := by decide +kernel
theorem dX6_knot_42 : decode cX6_knot 42 = .ok (.bipush 50, 2) := by decide +kernel
theorem dX6_knot_44 : decode cX6_knot 44 = .ok (.iconst 1, 1) := by decide +kernel
theorem dX6_knot_45 : decode cX6_knot 45 = .ok (.invokevirtual 111, 3) := by decide +kernel
theorem dX6_knot_48 : decode cX6_knot 48 = .ok (.aload_n 0, 1) := by decide +kernel
theorem dX6_knot_49 : decode cX6_knot 49 = .ok (.getfield 7, 3) := by decide +kernel
theorem dX6_knot_52 : decode cX6_knot 52 = .ok (.iconst 1, 1) := by decide +kernel
theorem dX6_knot_53 : decode cX6_knot 53 = .ok (.iaload, 1) := by decide +kernel
theorem dX6_knot_54 : decode cX6_knot 54 = .ok (.iconst 1, 1) := by decide +kernel
theorem dX6_knot_55 : decode cX6_knot 55 = .ok (.isub, 1) := by decide +kernel
theorem dX6_knot_56 : decode cX6_knot 56 = .ok (.ireturn, 1) := by decide +kernel
theorem dX6_of_0 : decode cX6_of 0 = .ok (.aload_n 0, 1) := by decide +kernel
theorem dX6_of_1 : decode cX6_of 1 = .ok (.iload_n 1, 1) := by decide +kernel
theorem dX6_of_2 : decode cX6_of 2 = .ok (.invokevirtual 115, 3) := by decide +kernel
theorem dX6_of_5 : decode cX6_of 5 = .ok (.ifCond .eq 13, 3) := by decide +kernel
theorem dX6_of_8 : decode cX6_of 8 = .ok (.iload_n 2, 1) := by decide +kernel
theorem dX6_of_9 : decode cX6_of 9 = .ok (.iconst 0, 1) := by decide +kernel
theorem dX6_of_10 : decode cX6_of 10 = .ok (.bipush 8, 2) := by decide +kernel
theorem dX6_of_12 : decode cX6_of 12 = .ok (.invokestatic 49, 3) := by decide +kernel
theorem dX6_of_15 : decode cX6_of 15 = .ok (.ifCond .ne 10, 3) := by decide +kernel
theorem dX6_of_18 : decode cX6_of 18 = .ok (.aload_n 0, 1) := by decide +kernel
theorem dX6_of_19 : decode cX6_of 19 = .ok (.ldc 48, 2) := by decide +kernel
theorem dX6_of_21 : decode cX6_of 21 = .ok (.invokevirtual 82, 3) := by decide +kernel
theorem dX6_of_24 : decode cX6_of 24 = .ok (.ireturn, 1) := by decide +kernel
theorem dX6_of_25 : decode cX6_of 25 = .ok (.iload_n 2, 1) := by decide +kernel
theorem dX6_of_26 : decode cX6_of 26 = .ok (.tableswitch 88 5 8 #[30, 36, 45, 54], 30) := by decide +kernel
theorem dX6_of_56 : decode cX6_of 56 = .ok (.aload_n 0, 1) := by decide +kernel
theorem dX6_of_57 : decode cX6_of 57 = .ok (.iload_n 1, 1) := by decide +kernel
theorem dX6_of_58 : decode cX6_of 58 = .ok (.invokevirtual 76, 3) := by decide +kernel
theorem dX6_of_61 : decode cX6_of 61 = .ok (.ireturn, 1) := by decide +kernel
theorem dX6_of_62 : decode cX6_of 62 = .ok (.bipush 100, 2) := by decide +kernel
theorem dX6_of_64 : decode cX6_of 64 = .ok (.aload_n 0, 1) := by decide +kernel
theorem dX6_of_65 : decode cX6_of 65 = .ok (.iload_n 1, 1) := by decide +kernel
theorem dX6_of_66 : decode cX6_of 66 = .ok (.invokevirtual 118, 3) := by decide +kernel
theorem dX6_of_69 : decode cX6_of 69 = .ok (.iadd, 1) := by decide +kernel
theorem dX6_of_70 : decode cX6_of 70 = .ok (.ireturn, 1) := by decide +kernel
theorem dX6_of_71 : decode cX6_of 71 = .ok (.bipush 100, 2) := by decide +kernel
theorem dX6_of_73 : decode cX6_of 73 = .ok (.aload_n 0, 1) := by decide +kernel
theorem dX6_of_74 : decode cX6_of 74 = .ok (.iload_n 1, 1) := by decide +kernel
theorem dX6_of_75 : decode cX6_of 75 = .ok (.invokevirtual 121, 3) := by decide +kernel
theorem dX6_of_78 : decode cX6_of 78 = .ok (.iadd, 1) := by decide +kernel
theorem dX6_of_79 : decode cX6_of 79 = .ok (.ireturn, 1) := by decide +kernel
theorem dX6_of_80 : decode cX6_of 80 = .ok (.aload_n 0, 1) := by decide +kernel
theorem dX6_of_81 : decode cX6_of 81 = .ok (.iload_n 1, 1) := by decide +kernel
theorem dX6_of_82 : decode cX6_of 82 = .ok (.iconst 3, 1) := by decide +kernel
theorem dX6_of_83 : decode cX6_of 83 = .ok (.invokevirtual 53, 3) := by decide +kernel
theorem dX6_of_86 : decode cX6_of 86 = .ok (.iconst 1, 1) := by decide +kernel
theorem dX6_of_87 : decode cX6_of 87 = .ok (.if_icmp .ne 25, 3) := by decide +kernel
theorem dX6_of_90 : decode cX6_of 90 = .ok (.aload_n 0, 1) := by decide +kernel
theorem dX6_of_91 : decode cX6_of 91 = .ok (.iload_n 1, 1) := by decide +kernel
theorem dX6_of_92 : decode cX6_of 92 = .ok (.aload_n 0, 1) := by decide +kernel
theorem dX6_of_93 : decode cX6_of 93 = .ok (.aload_n 0, 1) := by decide +kernel
theorem dX6_of_94 : decode cX6_of 94 = .ok (.iload_n 1, 1) := by decide +kernel
theorem dX6_of_95 : decode cX6_of 95 = .ok (.iconst 1, 1) := by decide +kernel
theorem dX6_of_96 : decode cX6_of 96 = .ok (.invokevirtual 53, 3) := by decide +kernel
theorem dX6_of_99 : decode cX6_of 99 = .ok (.invokevirtual 89, 3) := by decide +kernel
theorem dX6_of_102 : decode cX6_of 102 = .ok (.invokevirtual 124, 3) := by decide +kernel
theorem dX6_of_105 : decode cX6_of 105 = .ok (.ifCond .eq 7, 3) := by decide +kernel
theorem dX6_of_108 : decode cX6_of 108 = .ok (.iconst 1, 1) := by decide +kernel
theorem dX6_of_109 : decode cX6_of 109 = .ok (.goto 4, 3) := by decide +kernel
theorem dX6_of_112 : decode cX6_of 112 = .ok (.iconst 0, 1) := by decide +kernel
theorem dX6_of_113 : decode cX6_of 113 = .ok (.ireturn, 1) := by decide +kernel
theorem dX6_of_114 : decode cX6_of 114 = .ok (.aload_n 0, 1) := by decide +kernel
theorem dX6_of_115 : decode cX6_of 115 = .ok (.iload_n 1, 1) := by decide +kernel
theorem dX6_of_116 : decode cX6_of 116 = .ok (.iload_n 2, 1) := by decide +kernel
theorem dX6_of_117 : decode cX6_of 117 = .ok (.invokevirtual 53, 3) := by decide +kernel
theorem dX6_of_120 : decode cX6_of 120 = .ok (.ireturn, 1) := by decide +kernel
theorem dX6_isPart_0 : decode cX6_isPart 0 = .ok (.iload_n 0, 1) := by decide +kernel
theorem dX6_isPart_1 : decode cX6_isPart 1 = .ok (.lookupswitch 40 #[(1, 27), (2, 32)], 27) := by decide +kernel
theorem dX6_isPart_28 : decode cX6_isPart 28 = .ok (.iload_n 1, 1) := by decide +kernel
theorem dX6_isPart_29 : decode cX6_isPart 29 = .ok (.invokestatic 85, 3) := by decide +kernel
theorem dX6_isPart_32 : decode cX6_isPart 32 = .ok (.ireturn, 1) := by decide +kernel
theorem dX6_isPart_33 : decode cX6_isPart 33 = .ok (.iload_n 1, 1) := by decide +kernel
theorem dX6_isPart_34 : decode cX6_isPart 34 = .ok (.iconst 0, 1) := by decide +kernel
theorem dX6_isPart_35 : decode cX6_isPart 35 = .ok (.bipush 99, 2) := by decide +kernel
theorem dX6_isPart_37 : decode cX6_isPart 37 = .ok (.invokestatic 49, 3) := by decide +kernel
theorem dX6_isPart_40 : decode cX6_isPart 40 = .ok (.ireturn, 1) := by decide +kernel
theorem dX6_isPart_41 : decode cX6_isPart 41 = .ok (.iload_n 0, 1) := by decide +kernel
theorem dX6_isPart_42 : decode cX6_isPart 42 = .ok (.iconst 4, 1) := by decide +kernel
theorem dX6_isPart_43 : decode cX6_isPart 43 = .ok (.if_icmp .ne 18, 3) := by decide +kernel
theorem dX6_isPart_46 : decode cX6_isPart 46 = .ok (.iload_n 1, 1) := by decide +kernel
theorem dX6_isPart_47 : decode cX6_isPart 47 = .ok (.iconst 0, 1) := by decide +kernel
theorem dX6_isPart_48 : decode cX6_isPart 48 = .ok (.sipush 9999, 3) := by decide +kernel
theorem dX6_isPart_51 : decode cX6_isPart 51 = .ok (.invokestatic 49, 3) := by decide +kernel
theorem dX6_isPart_54 : decode cX6_isPart 54 = .ok (.ifCond .eq 7, 3) := by decide +kernel
theorem dX6_isPart_57 : decode cX6_isPart 57 = .ok (.iconst 1, 1) := by decide +kernel
theorem dX6_isPart_58 : decode cX6_isPart 58 = .ok (.goto 4, 3) := by decide +kernel
theorem dX6_isPart_61 : decode cX6_isPart 61 = .ok (.iconst 0, 1) := by decide +kernel
theorem dX6_isPart_62 : decode cX6_isPart 62 = .ok (.ireturn, 1) := by decide +kernel
theorem dX6_set_0 : decode cX6_set 0 = .ok (.aload_n 0, 1) := by decide +kernel
theorem dX6_set_1 : decode cX6_set 1 = .ok (.iload_n 1, 1) := by decide +kernel
theorem dX6_set_2 : decode cX6_set 2 = .ok (.invokevirtual 115, 3) := by decide +kernel
theorem dX6_set_5 : decode cX6_set 5 = .ok (.ifCond .eq 27, 3) := by decide +kernel
theorem dX6_set_8 : decode cX6_set 8 = .ok (.iload_n 2, 1) := by decide +kernel
theorem dX6_set_9 : decode cX6_set 9 = .ok (.iload_n 3, 1) := by decide +kernel
theorem dX6_set_10 : decode cX6_set 10 = .ok (.invokestatic 128, 3) := by decide +kernel
theorem dX6_set_13 : decode cX6_set 13 = .ok (.ifCond .eq 19, 3) := by decide +kernel
theorem dX6_set_16 : decode cX6_set 16 = .ok (.aload_n 0, 1) := by decide +kernel
theorem dX6_set_17 : decode cX6_set 17 = .ok (.bipush 22, 2) := by decide +kernel
theorem dX6_set_19 : decode cX6_set 19 = .ok (.iconst 5, 1) := by decide +kernel
theorem dX6_set_20 : decode cX6_set 20 = .ok (.iload_n 1, 1) := by decide +kernel
theorem dX6_set_21 : decode cX6_set 21 = .ok (.imul, 1) := by decide +kernel
theorem dX6_set_22 : decode cX6_set 22 = .ok (.iadd, 1) := by decide +kernel
theorem dX6_set_23 : decode cX6_set 23 = .ok (.iload_n 2, 1) := by decide +kernel
theorem dX6_set_24 : decode cX6_set 24 = .ok (.iadd, 1) := by decide +kernel
theorem dX6_set_25 : decode cX6_set 25 = .ok (.iload_n 3, 1) := by decide +kernel
theorem dX6_set_26 : decode cX6_set 26 = .ok (.invokevirtual 79, 3) := by decide +kernel
theorem dX6_set_29 : decode cX6_set 29 = .ok (.goto 9, 3) := by decide +kernel
theorem dX6_set_32 : decode cX6_set 32 = .ok (.aload_n 0, 1) := by decide +kernel
theorem dX6_set_33 : decode cX6_set 33 = .ok (.ldc 48, 2) := by decide +kernel
theorem dX6_set_35 : decode cX6_set 35 = .ok (.invokevirtual 82, 3) := by decide +kernel
theorem dX6_set_38 : decode cX6_set 38 = .ok (.ireturn, 1) := by decide +kernel
theorem dX6_turn_0 : decode cX6_turn 0 = .ok (.aload_n 0, 1) := by decide +kernel
theorem dX6_turn_1 : decode cX6_turn 1 = .ok (.iload_n 1, 1) := by decide +kernel
theorem dX6_turn_2 : decode cX6_turn 2 = .ok (.invokevirtual 115, 3) := by decide +kernel
theorem dX6_turn_5 : decode cX6_turn 5 = .ok (.ifCond .eq 24, 3) := by decide +kernel
theorem dX6_turn_8 : decode cX6_turn 8 = .ok (.iload_n 2, 1) := by decide +kernel
theorem dX6_turn_9 : decode cX6_turn 9 = .ok (.invokestatic 107, 3) := by decide +kernel
theorem dX6_turn_12 : decode cX6_turn 12 = .ok (.ifCond .eq 17, 3) := by decide +kernel
theorem dX6_turn_15 : decode cX6_turn 15 = .ok (.aload_n 0, 1) := by decide +kernel
theorem dX6_turn_16 : decode cX6_turn 16 = .ok (.bipush 22, 2) := by decide +kernel
theorem dX6_turn_18 : decode cX6_turn 18 = .ok (.iconst 5, 1) := by decide +kernel
theorem dX6_turn_19 : decode cX6_turn 19 = .ok (.iload_n 1, 1) := by decide +kernel
theorem dX6_turn_20 : decode cX6_turn 20 = .ok (.imul, 1) := by decide +kernel
theorem dX6_turn_21 : decode cX6_turn 21 = .ok (.iadd, 1) := by decide +kernel
theorem dX6_turn_22 : decode cX6_turn 22 = .ok (.iload_n 2, 1) := by decide +kernel
theorem dX6_turn_23 : decode cX6_turn 23 = .ok (.invokevirtual 79, 3) := by decide +kernel
theorem dX6_turn_26 : decode cX6_turn 26 = .ok (.goto 9, 3) := by decide +kernel
theorem dX6_turn_29 : decode cX6_turn 29 = .ok (.aload_n 0, 1) := by decide +kernel
theorem dX6_turn_30 : decode cX6_turn 30 = .ok (.ldc 48, 2) := by decide +kernel
theorem dX6_turn_32 : decode cX6_turn 32 = .ok (.invokevirtual 82, 3) := by decide +kernel
theorem dX6_turn_35 : decode cX6_turn 35 = .ok (.ireturn, 1) := by decide +kernel
theorem dX6_as_0 : decode cX6_as 0 = .ok (.aload_n 0, 1) := by decide +kernel
theorem dX6_as_1 : decode cX6_as 1 = .ok (.iload_n 1, 1) := by decide +kernel
theorem dX6_as_2 : decode cX6_as 2 = .ok (.invokevirtual 115, 3) := by decide +kernel
theorem dX6_as_5 : decode cX6_as 5 = .ok (.ifCond .eq 10, 3) := by decide +kernel
theorem dX6_as_8 : decode cX6_as 8 = .ok (.iload_n 2, 1) := by decide +kernel
theorem dX6_as_9 : decode cX6_as 9 = .ok (.invokestatic 107, 3) := by decide +kernel
theorem dX6_as_12 : decode cX6_as 12 = .ok (.ifCond .ne 10, 3) := by decide +kernel
theorem dX6_as_15 : decode cX6_as 15 = .ok (.aload_n 0, 1) := by decide +kernel
theorem dX6_as_16 : decode cX6_as 16 = .ok (.ldc 48, 2) := by decide +kernel
theorem dX6_as_18 : decode cX6_as 18 = .ok (.invokevirtual 82, 3) := by decide +kernel
theorem dX6_as_21 : decode cX6_as 21 = .ok (.ireturn, 1) := by decide +kernel
theorem dX6_as_22 : decode cX6_as 22 = .ok (.aload_n 0, 1) := by decide +kernel
theorem dX6_as_23 : decode cX6_as 23 = .ok (.iload_n 1, 1) := by decide +kernel
theorem dX6_as_24 : decode cX6_as 24 = .ok (.iconst 0, 1) := by decide +kernel
theorem dX6_as_25 : decode cX6_as 25 = .ok (.invokevirtual 53, 3) := by decide +kernel
theorem dX6_as_28 : decode cX6_as 28 = .ok (.istore_n 3, 1) := by decide +kernel
theorem dX6_as_29 : decode cX6_as 29 = .ok (.iload_n 2, 1) := by decide +kernel
theorem dX6_as_30 : decode cX6_as 30 = .ok (.ifCond .eq 28, 3) := by decide +kernel
theorem dX6_as_33 : decode cX6_as 33 = .ok (.iload_n 2, 1) := by decide +kernel
theorem dX6_as_34 : decode cX6_as 34 = .ok (.iload_n 3, 1) := by decide +kernel
theorem dX6_as_35 : decode cX6_as 35 = .ok (.if_icmp .eq 23, 3) := by decide +kernel
theorem dX6_as_38 : decode cX6_as 38 = .ok (.iload_n 2, 1) := by decide +kernel
theorem dX6_as_39 : decode cX6_as 39 = .ok (.iconst 1, 1) := by decide +kernel
theorem dX6_as_40 : decode cX6_as 40 = .ok (.if_icmp .ne 8, 3) := by decide +kernel
theorem dX6_as_43 : decode cX6_as 43 = .ok (.iload_n 3, 1) := by decide +kernel
theorem dX6_as_44 : decode cX6_as 44 = .ok (.iconst 4, 1) := by decide +kernel
theorem dX6_as_45 : decode cX6_as 45 = .ok (.if_icmp .eq 13, 3) := by decide +kernel
theorem dX6_as_48 : decode cX6_as 48 = .ok (.iload_n 2, 1) := by decide +kernel
theorem dX6_as_49 : decode cX6_as 49 = .ok (.iconst 2, 1) := by decide +kernel
theorem dX6_as_50 : decode cX6_as 50 = .ok (.if_icmp .ne 12, 3) := by decide +kernel
theorem dX6_as_53 : decode cX6_as 53 = .ok (.iload_n 3, 1) := by decide +kernel
theorem dX6_as_54 : decode cX6_as 54 = .ok (.iconst 5, 1) := by decide +kernel
theorem dX6_as_55 : decode cX6_as 55 = .ok (.if_icmp .ne 7, 3) := by decide +kernel
theorem dX6_as_58 : decode cX6_as 58 = .ok (.iconst 1, 1) := by decide +kernel
theorem dX6_as_59 : decode cX6_as 59 = .ok (.goto 4, 3) := by decide +kernel
theorem dX6_as_62 : decode cX6_as 62 = .ok (.iconst 0, 1) := by decide +kernel
theorem dX6_as_63 : decode cX6_as 63 = .ok (.istore 4, 2) := by decide +kernel
theorem dX6_as_65 : decode cX6_as 65 = .ok (.iload 4, 2) := by decide +kernel
theorem dX6_as_67 : decode cX6_as 67 = .ok (.ifCond .eq 12, 3) := by decide +kernel
theorem dX6_as_70 : decode cX6_as 70 = .ok (.aload_n 0, 1) := by decide +kernel
theorem dX6_as_71 : decode cX6_as 71 = .ok (.iload_n 1, 1) := by decide +kernel
theorem dX6_as_72 : decode cX6_as 72 = .ok (.iconst 2, 1) := by decide +kernel
theorem dX6_as_73 : decode cX6_as 73 = .ok (.invokevirtual 53, 3) := by decide +kernel
theorem dX6_as_76 : decode cX6_as 76 = .ok (.goto 9, 3) := by decide +kernel
theorem dX6_as_79 : decode cX6_as 79 = .ok (.aload_n 0, 1) := by decide +kernel
theorem dX6_as_80 : decode cX6_as 80 = .ok (.ldc 131, 2) := by decide +kernel
theorem dX6_as_82 : decode cX6_as 82 = .ok (.invokevirtual 82, 3) := by decide +kernel
theorem dX6_as_85 : decode cX6_as 85 = .ok (.ireturn, 1) := by decide +kernel
theorem dX6_teases_0 : decode cX6_teases 0 = .ok (.aload_n 0, 1) := by decide +kernel
theorem dX6_teases_1 : decode cX6_teases 1 = .ok (.iload_n 1, 1) := by decide +kernel
theorem dX6_teases_2 : decode cX6_teases 2 = .ok (.iconst 2, 1) := by decide +kernel
theorem dX6_teases_3 : decode cX6_teases 3 = .ok (.aload_n 0, 1) := by decide +kernel
theorem dX6_teases_4 : decode cX6_teases 4 = .ok (.iload_n 1, 1) := by decide +kernel
theorem dX6_teases_5 : decode cX6_teases 5 = .ok (.iconst 2, 1) := by decide +kernel
theorem dX6_teases_6 : decode cX6_teases 6 = .ok (.invokevirtual 53, 3) := by decide +kernel
theorem dX6_teases_9 : decode cX6_teases 9 = .ok (.aload_n 0, 1) := by decide +kernel
theorem dX6_teases_10 : decode cX6_teases 10 = .ok (.iload_n 1, 1) := by decide +kernel
theorem dX6_teases_11 : decode cX6_teases 11 = .ok (.invokevirtual 121, 3) := by decide +kernel
theorem dX6_teases_14 : decode cX6_teases 14 = .ok (.iadd, 1) := by decide +kernel
theorem dX6_teases_15 : decode cX6_teases 15 = .ok (.iconst 0, 1) := by decide +kernel
theorem dX6_teases_16 : decode cX6_teases 16 = .ok (.bipush 99, 2) := by decide +kernel
theorem dX6_teases_18 : decode cX6_teases 18 = .ok (.invokestatic 72, 3) := by decide +kernel
theorem dX6_teases_21 : decode cX6_teases 21 = .ok (.invokevirtual 104, 3) := by decide +kernel
theorem dX6_teases_24 : decode cX6_teases 24 = .ok (.return_, 1) := by decide +kernel
theorem dX6_tease_0 : decode cX6_tease 0 = .ok (.aload_n 0, 1) := by decide +kernel
theorem dX6_tease_1 : decode cX6_tease 1 = .ok (.iload_n 1, 1) := by decide +kernel
theorem dX6_tease_2 : decode cX6_tease 2 = .ok (.invokevirtual 115, 3) := by decide +kernel
theorem dX6_tease_5 : decode cX6_tease 5 = .ok (.ifCond .ne 10, 3) := by decide +kernel
theorem dX6_tease_8 : decode cX6_tease 8 = .ok (.aload_n 0, 1) := by decide +kernel
theorem dX6_tease_9 : decode cX6_tease 9 = .ok (.ldc 48, 2) := by decide +kernel
theorem dX6_tease_11 : decode cX6_tease 11 = .ok (.invokevirtual 82, 3) := by decide +kernel
theorem dX6_tease_14 : decode cX6_tease 14 = .ok (.ireturn, 1) := by decide +kernel
theorem dX6_tease_15 : decode cX6_tease 15 = .ok (.aload_n 0, 1) := by decide +kernel
theorem dX6_tease_16 : decode cX6_tease 16 = .ok (.iload_n 1, 1) := by decide +kernel
theorem dX6_tease_17 : decode cX6_tease 17 = .ok (.invokevirtual 132, 3) := by decide +kernel
theorem dX6_tease_20 : decode cX6_tease 20 = .ok (.aload_n 0, 1) := by decide +kernel
theorem dX6_tease_21 : decode cX6_tease 21 = .ok (.iload_n 1, 1) := by decide +kernel
theorem dX6_tease_22 : decode cX6_tease 22 = .ok (.iconst 2, 1) := by decide +kernel
theorem dX6_tease_23 : decode cX6_tease 23 = .ok (.invokevirtual 53, 3) := by decide +kernel
theorem dX6_tease_26 : decode cX6_tease 26 = .ok (.ireturn, 1) := by decide +kernel
theorem dX6_tie_0 : decode cX6_tie 0 = .ok (.aload_n 0, 1) := by decide +kernel
theorem dX6_tie_1 : decode cX6_tie 1 = .ok (.iload_n 1, 1) := by decide +kernel
theorem dX6_tie_2 : decode cX6_tie 2 = .ok (.invokevirtual 115, 3) := by decide +kernel
theorem dX6_tie_5 : decode cX6_tie 5 = .ok (.ifCond .ne 10, 3) := by decide +kernel
theorem dX6_tie_8 : decode cX6_tie 8 = .ok (.aload_n 0, 1) := by decide +kernel
theorem dX6_tie_9 : decode cX6_tie 9 = .ok (.ldc 48, 2) := by decide +kernel
theorem dX6_tie_11 : decode cX6_tie 11 = .ok (.invokevirtual 82, 3) := by decide +kernel
theorem dX6_tie_14 : decode cX6_tie 14 = .ok (.ireturn, 1) := by decide +kernel
theorem dX6_tie_15 : decode cX6_tie 15 = .ok (.aload_n 0, 1) := by decide +kernel
theorem dX6_tie_16 : decode cX6_tie 16 = .ok (.iload_n 1, 1) := by decide +kernel
theorem dX6_tie_17 : decode cX6_tie 17 = .ok (.iconst 3, 1) := by decide +kernel
theorem dX6_tie_18 : decode cX6_tie 18 = .ok (.invokevirtual 53, 3) := by decide +kernel
theorem dX6_tie_21 : decode cX6_tie 21 = .ok (.iconst 1, 1) := by decide +kernel
theorem dX6_tie_22 : decode cX6_tie 22 = .ok (.if_icmp .ne 10, 3) := by decide +kernel
theorem dX6_tie_25 : decode cX6_tie 25 = .ok (.aload_n 0, 1) := by decide +kernel
theorem dX6_tie_26 : decode cX6_tie 26 = .ok (.ldc 136, 2) := by decide +kernel
theorem dX6_tie_28 : decode cX6_tie 28 = .ok (.invokevirtual 82, 3) := by decide +kernel
theorem dX6_tie_31 : decode cX6_tie 31 = .ok (.ireturn, 1) := by decide +kernel
theorem dX6_tie_32 : decode cX6_tie 32 = .ok (.aload_n 0, 1) := by decide +kernel
theorem dX6_tie_33 : decode cX6_tie 33 = .ok (.iload_n 1, 1) := by decide +kernel
theorem dX6_tie_34 : decode cX6_tie 34 = .ok (.iconst 3, 1) := by decide +kernel
theorem dX6_tie_35 : decode cX6_tie 35 = .ok (.iconst 1, 1) := by decide +kernel
theorem dX6_tie_36 : decode cX6_tie 36 = .ok (.invokevirtual 104, 3) := by decide +kernel
theorem dX6_tie_39 : decode cX6_tie 39 = .ok (.aload_n 0, 1) := by decide +kernel
theorem dX6_tie_40 : decode cX6_tie 40 = .ok (.iload_n 1, 1) := by decide +kernel
theorem dX6_tie_41 : decode cX6_tie 41 = .ok (.iconst 4, 1) := by decide +kernel
theorem dX6_tie_42 : decode cX6_tie 42 = .ok (.iconst 0, 1) := by decide +kernel
theorem dX6_tie_43 : decode cX6_tie 43 = .ok (.invokevirtual 104, 3) := by decide +kernel
theorem dX6_tie_46 : decode cX6_tie 46 = .ok (.iconst 1, 1) := by decide +kernel
theorem dX6_tie_47 : decode cX6_tie 47 = .ok (.ireturn, 1) := by decide +kernel
theorem dX6_cast_0 : decode cX6_cast 0 = .ok (.aload_n 0, 1) := by decide +kernel
theorem dX6_cast_1 : decode cX6_cast 1 = .ok (.iload_n 1, 1) := by decide +kernel
theorem dX6_cast_2 : decode cX6_cast 2 = .ok (.invokevirtual 115, 3) := by decide +kernel
theorem dX6_cast_5 : decode cX6_cast 5 = .ok (.ifCond .ne 10, 3) := by decide +kernel
theorem dX6_cast_8 : decode cX6_cast 8 = .ok (.aload_n 0, 1) := by decide +kernel
theorem dX6_cast_9 : decode cX6_cast 9 = .ok (.ldc 48, 2) := by decide +kernel
theorem dX6_cast_11 : decode cX6_cast 11 = .ok (.invokevirtual 82, 3) := by decide +kernel
theorem dX6_cast_14 : decode cX6_cast 14 = .ok (.ireturn, 1) := by decide +kernel
theorem dX6_cast_15 : decode cX6_cast 15 = .ok (.aload_n 0, 1) := by decide +kernel
theorem dX6_cast_16 : decode cX6_cast 16 = .ok (.iload_n 1, 1) := by decide +kernel
theorem dX6_cast_17 : decode cX6_cast 17 = .ok (.iconst 3, 1) := by decide +kernel
theorem dX6_cast_18 : decode cX6_cast 18 = .ok (.invokevirtual 53, 3) := by decide +kernel
theorem dX6_cast_21 : decode cX6_cast 21 = .ok (.ifCond .ne 10, 3) := by decide +kernel
theorem dX6_cast_24 : decode cX6_cast 24 = .ok (.aload_n 0, 1) := by decide +kernel
theorem dX6_cast_25 : decode cX6_cast 25 = .ok (.ldc 136, 2) := by decide +kernel
theorem dX6_cast_27 : decode cX6_cast 27 = .ok (.invokevirtual 82, 3) := by decide +kernel
theorem dX6_cast_30 : decode cX6_cast 30 = .ok (.ireturn, 1) := by decide +kernel
theorem dX6_cast_31 : decode cX6_cast 31 = .ok (.aload_n 0, 1) := by decide +kernel
theorem dX6_cast_32 : decode cX6_cast 32 = .ok (.iload_n 1, 1) := by decide +kernel
theorem dX6_cast_33 : decode cX6_cast 33 = .ok (.iconst 3, 1) := by decide +kernel
theorem dX6_cast_34 : decode cX6_cast 34 = .ok (.iconst 0, 1) := by decide +kernel
theorem dX6_cast_35 : decode cX6_cast 35 = .ok (.invokevirtual 104, 3) := by decide +kernel
theorem dX6_cast_38 : decode cX6_cast 38 = .ok (.aload_n 0, 1) := by decide +kernel
theorem dX6_cast_39 : decode cX6_cast 39 = .ok (.iload_n 1, 1) := by decide +kernel
theorem dX6_cast_40 : decode cX6_cast 40 = .ok (.iconst 4, 1) := by decide +kernel
theorem dX6_cast_41 : decode cX6_cast 41 = .ok (.invokevirtual 53, 3) := by decide +kernel
theorem dX6_cast_44 : decode cX6_cast 44 = .ok (.ireturn, 1) := by decide +kernel
theorem dX6_pulls_0 : decode cX6_pulls 0 = .ok (.aload_n 0, 1) := by decide +kernel
theorem dX6_pulls_1 : decode cX6_pulls 1 = .ok (.iload_n 1, 1) := by decide +kernel
theorem dX6_pulls_2 : decode cX6_pulls 2 = .ok (.invokevirtual 89, 3) := by decide +kernel
theorem dX6_pulls_5 : decode cX6_pulls 5 = .ok (.istore_n 2, 1) := by decide +kernel
theorem dX6_pulls_6 : decode cX6_pulls 6 = .ok (.iconst 0, 1) := by decide +kernel
theorem dX6_pulls_7 : decode cX6_pulls 7 = .ok (.istore_n 3, 1) := by decide +kernel
theorem dX6_pulls_8 : decode cX6_pulls 8 = .ok (.iconst 0, 1) := by decide +kernel
theorem dX6_pulls_9 : decode cX6_pulls 9 = .ok (.istore 4, 2) := by decide +kernel
theorem dX6_pulls_11 : decode cX6_pulls 11 = .ok (.iload 4, 2) := by decide +kernel
theorem dX6_pulls_13 : decode cX6_pulls 13 = .ok (.aload_n 0, 1) := by decide +kernel
theorem dX6_pulls_14 : decode cX6_pulls 14 = .ok (.getfield 7, 3) := by decide +kernel
theorem dX6_pulls_17 : decode cX6_pulls 17 = .ok (.iconst 1, 1) := by decide +kernel
theorem dX6_pulls_18 : decode cX6_pulls 18 = .ok (.iaload, 1) := by decide +kernel
theorem dX6_pulls_19 : decode cX6_pulls 19 = .ok (.if_icmp .ge 52, 3) := by decide +kernel
theorem dX6_pulls_22 : decode cX6_pulls 22 = .ok (.iload_n 3, 1) := by decide +kernel
theorem dX6_pulls_23 : decode cX6_pulls 23 = .ok (.aload_n 0, 1) := by decide +kernel
theorem dX6_pulls_24 : decode cX6_pulls 24 = .ok (.iload 4, 2) := by decide +kernel
theorem dX6_pulls_26 : decode cX6_pulls 26 = .ok (.iconst 1, 1) := by decide +kernel
theorem dX6_pulls_27 : decode cX6_pulls 27 = .ok (.invokevirtual 53, 3) := by decide +kernel
theorem dX6_pulls_30 : decode cX6_pulls 30 = .ok (.iload_n 1, 1) := by decide +kernel
theorem dX6_pulls_31 : decode cX6_pulls 31 = .ok (.if_icmp .ne 31, 3) := by decide +kernel
theorem dX6_pulls_34 : decode cX6_pulls 34 = .ok (.aload_n 0, 1) := by decide +kernel
theorem dX6_pulls_35 : decode cX6_pulls 35 = .ok (.iload 4, 2) := by decide +kernel
theorem dX6_pulls_37 : decode cX6_pulls 37 = .ok (.iconst 3, 1) := by decide +kernel
theorem dX6_pulls_38 : decode cX6_pulls 38 = .ok (.invokevirtual 53, 3) := by decide +kernel
theorem dX6_pulls_41 : decode cX6_pulls 41 = .ok (.iconst 1, 1) := by decide +kernel
theorem dX6_pulls_42 : decode cX6_pulls 42 = .ok (.if_icmp .ne 20, 3) := by decide +kernel
theorem dX6_pulls_45 : decode cX6_pulls 45 = .ok (.aload_n 0, 1) := by decide +kernel
theorem dX6_pulls_46 : decode cX6_pulls 46 = .ok (.iload 4, 2) := by decide +kernel
theorem dX6_pulls_48 : decode cX6_pulls 48 = .ok (.iload_n 2, 1) := by decide +kernel
theorem dX6_pulls_49 : decode cX6_pulls 49 = .ok (.invokevirtual 124, 3) := by decide +kernel
theorem dX6_pulls_52 : decode cX6_pulls 52 = .ok (.ifCond .eq 10, 3) := by decide +kernel
theorem dX6_pulls_55 : decode cX6_pulls 55 = .ok (.iconst 1, 1) := by decide +kernel
theorem dX6_pulls_56 : decode cX6_pulls 56 = .ok (.iload 4, 2) := by decide +kernel
theorem dX6_pulls_58 : decode cX6_pulls 58 = .ok (.ishl, 1) := by decide +kernel
theorem dX6_pulls_59 : decode cX6_pulls 59 = .ok (.goto 4, 3) := by decide +kernel
theorem dX6_pulls_62 : decode cX6_pulls 62 = .ok (.iconst 0, 1) := by decide +kernel
theorem dX6_pulls_63 : decode cX6_pulls 63 = .ok (.ior, 1) := by decide +kernel
theorem dX6_pulls_64 : decode cX6_pulls 64 = .ok (.istore_n 3, 1) := by decide +kernel
theorem dX6_pulls_65 : decode cX6_pulls 65 = .ok (.iinc 4 1, 3) := by decide +kernel
theorem dX6_pulls_68 : decode cX6_pulls 68 = .ok (.goto (-57), 3) := by decide +kernel
theorem dX6_pulls_71 : decode cX6_pulls 71 = .ok (.iconst 0, 1) := by decide +kernel
theorem dX6_pulls_72 : decode cX6_pulls 72 = .ok (.istore 4, 2) := by decide +kernel
theorem dX6_pulls_74 : decode cX6_pulls 74 = .ok (.iload 4, 2) := by decide +kernel
theorem dX6_pulls_76 : decode cX6_pulls 76 = .ok (.aload_n 0, 1) := by decide +kernel
theorem dX6_pulls_77 : decode cX6_pulls 77 = .ok (.getfield 7, 3) := by decide +kernel
theorem dX6_pulls_80 : decode cX6_pulls 80 = .ok (.iconst 1, 1) := by decide +kernel
theorem dX6_pulls_81 : decode cX6_pulls 81 = .ok (.iaload, 1) := by decide +kernel
theorem dX6_pulls_82 : decode cX6_pulls 82 = .ok (.if_icmp .ge 37, 3) := by decide +kernel
theorem dX6_pulls_85 : decode cX6_pulls 85 = .ok (.aload_n 0, 1) := by decide +kernel
theorem dX6_pulls_86 : decode cX6_pulls 86 = .ok (.iload 4, 2) := by decide +kernel
theorem dX6_pulls_88 : decode cX6_pulls 88 = .ok (.iconst 3, 1) := by decide +kernel
theorem dX6_pulls_89 : decode cX6_pulls 89 = .ok (.iload_n 3, 1) := by decide +kernel
theorem dX6_pulls_90 : decode cX6_pulls 90 = .ok (.iload 4, 2) := by decide +kernel
theorem dX6_pulls_92 : decode cX6_pulls 92 = .ok (.ishr, 1) := by decide +kernel
theorem dX6_pulls_93 : decode cX6_pulls 93 = .ok (.iconst 1, 1) := by decide +kernel
theorem dX6_pulls_94 : decode cX6_pulls 94 = .ok (.iand, 1) := by decide +kernel
theorem dX6_pulls_95 : decode cX6_pulls 95 = .ok (.iconst 1, 1) := by decide +kernel
theorem dX6_pulls_96 : decode cX6_pulls 96 = .ok (.if_icmp .ne 7, 3) := by decide +kernel
theorem dX6_pulls_99 : decode cX6_pulls 99 = .ok (.iconst 0, 1) := by decide +kernel
theorem dX6_pulls_100 : decode cX6_pulls 100 = .ok (.goto 10, 3) := by decide +kernel
theorem dX6_pulls_103 : decode cX6_pulls 103 = .ok (.aload_n 0, 1) := by decide +kernel
theorem dX6_pulls_104 : decode cX6_pulls 104 = .ok (.iload 4, 2) := by decide +kernel
theorem dX6_pulls_106 : decode cX6_pulls 106 = .ok (.iconst 3, 1) := by decide +kernel
theorem dX6_pulls_107 : decode cX6_pulls 107 = .ok (.invokevirtual 53, 3) := by decide +kernel
theorem dX6_pulls_110 : decode cX6_pulls 110 = .ok (.invokevirtual 104, 3) := by decide +kernel
theorem dX6_pulls_113 : decode cX6_pulls 113 = .ok (.iinc 4 1, 3) := by decide +kernel
theorem dX6_pulls_116 : decode cX6_pulls 116 = .ok (.goto (-42), 3) := by decide +kernel
theorem dX6_pulls_119 : decode cX6_pulls 119 = .ok (.aload_n 0, 1) := by decide +kernel
theorem dX6_pulls_120 : decode cX6_pulls 120 = .ok (.iload_n 1, 1) := by decide +kernel
theorem dX6_pulls_121 : decode cX6_pulls 121 = .ok (.iconst 1, 1) := by decide +kernel
theorem dX6_pulls_122 : decode cX6_pulls 122 = .ok (.invokevirtual 60, 3) := by decide +kernel
theorem dX6_pulls_125 : decode cX6_pulls 125 = .ok (.ifCond .ne 10, 3) := by decide +kernel
theorem dX6_pulls_128 : decode cX6_pulls 128 = .ok (.aload_n 0, 1) := by decide +kernel
theorem dX6_pulls_129 : decode cX6_pulls 129 = .ok (.iload_n 1, 1) := by decide +kernel
theorem dX6_pulls_130 : decode cX6_pulls 130 = .ok (.iconst 1, 1) := by decide +kernel
theorem dX6_pulls_131 : decode cX6_pulls 131 = .ok (.iconst 0, 1) := by decide +kernel
theorem dX6_pulls_132 : decode cX6_pulls 132 = .ok (.invokevirtual 44, 3) := by decide +kernel
theorem dX6_pulls_135 : decode cX6_pulls 135 = .ok (.return_, 1) := by decide +kernel
theorem dX6_oneHour_0 : decode cX6_oneHour 0 = .ok (.iconst 0, 1) := by decide +kernel
theorem dX6_oneHour_1 : decode cX6_oneHour 1 = .ok (.istore_n 1, 1) := by decide +kernel
theorem dX6_oneHour_2 : decode cX6_oneHour 2 = .ok (.iload_n 1, 1) := by decide +kernel
theorem dX6_oneHour_3 : decode cX6_oneHour 3 = .ok (.iconst 4, 1) := by decide +kernel
theorem dX6_oneHour_4 : decode cX6_oneHour 4 = .ok (.if_icmp .ge 24, 3) := by decide +kernel
theorem dX6_oneHour_7 : decode cX6_oneHour 7 = .ok (.aload_n 0, 1) := by decide +kernel
theorem dX6_oneHour_8 : decode cX6_oneHour 8 = .ok (.iload_n 1, 1) := by decide +kernel
theorem dX6_oneHour_9 : decode cX6_oneHour 9 = .ok (.iconst 1, 1) := by decide +kernel
theorem dX6_oneHour_10 : decode cX6_oneHour 10 = .ok (.invokevirtual 57, 3) := by decide +kernel
theorem dX6_oneHour_13 : decode cX6_oneHour 13 = .ok (.iconst 1, 1) := by decide +kernel
theorem dX6_oneHour_14 : decode cX6_oneHour 14 = .ok (.if_icmp .ne 8, 3) := by decide +kernel
theorem dX6_oneHour_17 : decode cX6_oneHour 17 = .ok (.aload_n 0, 1) := by decide +kernel
theorem dX6_oneHour_18 : decode cX6_oneHour 18 = .ok (.iload_n 1, 1) := by decide +kernel
theorem dX6_oneHour_19 : decode cX6_oneHour 19 = .ok (.invokevirtual 137, 3) := by decide +kernel
theorem dX6_oneHour_22 : decode cX6_oneHour 22 = .ok (.iinc 1 1, 3) := by decide +kernel
theorem dX6_oneHour_25 : decode cX6_oneHour 25 = .ok (.goto (-23), 3) := by decide +kernel
theorem dX6_oneHour_28 : decode cX6_oneHour 28 = .ok (.iconst 0, 1) := by decide +kernel
theorem dX6_oneHour_29 : decode cX6_oneHour 29 = .ok (.istore_n 1, 1) := by decide +kernel
theorem dX6_oneHour_30 : decode cX6_oneHour 30 = .ok (.iload_n 1, 1) := by decide +kernel
theorem dX6_oneHour_31 : decode cX6_oneHour 31 = .ok (.aload_n 0, 1) := by decide +kernel
theorem dX6_oneHour_32 : decode cX6_oneHour 32 = .ok (.getfield 7, 3) := by decide +kernel
theorem dX6_oneHour_35 : decode cX6_oneHour 35 = .ok (.iconst 1, 1) := by decide +kernel
theorem dX6_oneHour_36 : decode cX6_oneHour 36 = .ok (.iaload, 1) := by decide +kernel
theorem dX6_oneHour_37 : decode cX6_oneHour 37 = .ok (.if_icmp .ge 64, 3) := by decide +kernel
theorem dX6_oneHour_40 : decode cX6_oneHour 40 = .ok (.aload_n 0, 1) := by decide +kernel
theorem dX6_oneHour_41 : decode cX6_oneHour 41 = .ok (.iload_n 1, 1) := by decide +kernel
theorem dX6_oneHour_42 : decode cX6_oneHour 42 = .ok (.iconst 3, 1) := by decide +kernel
theorem dX6_oneHour_43 : decode cX6_oneHour 43 = .ok (.invokevirtual 53, 3) := by decide +kernel
theorem dX6_oneHour_46 : decode cX6_oneHour 46 = .ok (.iconst 1, 1) := by decide +kernel
theorem dX6_oneHour_47 : decode cX6_oneHour 47 = .ok (.if_icmp .ne 48, 3) := by decide +kernel
theorem dX6_oneHour_50 : decode cX6_oneHour 50 = .ok (.aload_n 0, 1) := by decide +kernel
theorem dX6_oneHour_51 : decode cX6_oneHour 51 = .ok (.iload_n 1, 1) := by decide +kernel
theorem dX6_oneHour_52 : decode cX6_oneHour 52 = .ok (.iconst 2, 1) := by decide +kernel
theorem dX6_oneHour_53 : decode cX6_oneHour 53 = .ok (.aload_n 0, 1) := by decide +kernel
theorem dX6_oneHour_54 : decode cX6_oneHour 54 = .ok (.iload_n 1, 1) := by decide +kernel
theorem dX6_oneHour_55 : decode cX6_oneHour 55 = .ok (.iconst 2, 1) := by decide +kernel
theorem dX6_oneHour_56 : decode cX6_oneHour 56 = .ok (.invokevirtual 53, 3) := by decide +kernel
theorem dX6_oneHour_59 : decode cX6_oneHour 59 = .ok (.aload_n 0, 1) := by decide +kernel
theorem dX6_oneHour_60 : decode cX6_oneHour 60 = .ok (.iload_n 1, 1) := by decide +kernel
theorem dX6_oneHour_61 : decode cX6_oneHour 61 = .ok (.invokevirtual 118, 3) := by decide +kernel
theorem dX6_oneHour_64 : decode cX6_oneHour 64 = .ok (.isub, 1) := by decide +kernel
theorem dX6_oneHour_65 : decode cX6_oneHour 65 = .ok (.iconst 0, 1) := by decide +kernel
theorem dX6_oneHour_66 : decode cX6_oneHour 66 = .ok (.bipush 99, 2) := by decide +kernel
theorem dX6_oneHour_68 : decode cX6_oneHour 68 = .ok (.invokestatic 72, 3) := by decide +kernel
theorem dX6_oneHour_71 : decode cX6_oneHour 71 = .ok (.invokevirtual 104, 3) := by decide +kernel
theorem dX6_oneHour_74 : decode cX6_oneHour 74 = .ok (.aload_n 0, 1) := by decide +kernel
theorem dX6_oneHour_75 : decode cX6_oneHour 75 = .ok (.iload_n 1, 1) := by decide +kernel
theorem dX6_oneHour_76 : decode cX6_oneHour 76 = .ok (.iconst 4, 1) := by decide +kernel
theorem dX6_oneHour_77 : decode cX6_oneHour 77 = .ok (.aload_n 0, 1) := by decide +kernel
theorem dX6_oneHour_78 : decode cX6_oneHour 78 = .ok (.iload_n 1, 1) := by decide +kernel
theorem dX6_oneHour_79 : decode cX6_oneHour 79 = .ok (.iconst 4, 1) := by decide +kernel
theorem dX6_oneHour_80 : decode cX6_oneHour 80 = .ok (.invokevirtual 53, 3) := by decide +kernel
theorem dX6_oneHour_83 : decode cX6_oneHour 83 = .ok (.iconst 1, 1) := by decide +kernel
theorem dX6_oneHour_84 : decode cX6_oneHour 84 = .ok (.iadd, 1) := by decide +kernel
theorem dX6_oneHour_85 : decode cX6_oneHour 85 = .ok (.iconst 0, 1) := by decide +kernel
theorem dX6_oneHour_86 : decode cX6_oneHour 86 = .ok (.sipush 9999, 3) := by decide +kernel
theorem dX6_oneHour_89 : decode cX6_oneHour 89 = .ok (.invokestatic 72, 3) := by decide +kernel
theorem dX6_oneHour_92 : decode cX6_oneHour 92 = .ok (.invokevirtual 104, 3) := by decide +kernel
theorem dX6_oneHour_95 : decode cX6_oneHour 95 = .ok (.iinc 1 1, 3) := by decide +kernel
theorem dX6_oneHour_98 : decode cX6_oneHour 98 = .ok (.goto (-68), 3) := by decide +kernel
theorem dX6_oneHour_101 : decode cX6_oneHour 101 = .ok (.aload_n 0, 1) := by decide +kernel
theorem dX6_oneHour_102 : decode cX6_oneHour 102 = .ok (.getfield 7, 3) := by decide +kernel
theorem dX6_oneHour_105 : decode cX6_oneHour 105 = .ok (.iconst 0, 1) := by decide +kernel
theorem dX6_oneHour_106 : decode cX6_oneHour 106 = .ok (.dup2, 1) := by decide +kernel
theorem dX6_oneHour_107 : decode cX6_oneHour 107 = .ok (.iaload, 1) := by decide +kernel
theorem dX6_oneHour_108 : decode cX6_oneHour 108 = .ok (.iconst 1, 1) := by decide +kernel
theorem dX6_oneHour_109 : decode cX6_oneHour 109 = .ok (.iadd, 1) := by decide +kernel
theorem dX6_oneHour_110 : decode cX6_oneHour 110 = .ok (.iastore, 1) := by decide +kernel
theorem dX6_oneHour_111 : decode cX6_oneHour 111 = .ok (.return_, 1) := by decide +kernel
theorem dX6_passes_0 : decode cX6_passes 0 = .ok (.iconst 0, 1) := by decide +kernel
theorem dX6_passes_1 : decode cX6_passes 1 = .ok (.istore_n 2, 1) := by decide +kernel
theorem dX6_passes_2 : decode cX6_passes 2 = .ok (.iload_n 2, 1) := by decide +kernel
theorem dX6_passes_3 : decode cX6_passes 3 = .ok (.iload_n 1, 1) := by decide +kernel
theorem dX6_passes_4 : decode cX6_passes 4 = .ok (.if_icmp .ge 13, 3) := by decide +kernel
theorem dX6_passes_7 : decode cX6_passes 7 = .ok (.aload_n 0, 1) := by decide +kernel
theorem dX6_passes_8 : decode cX6_passes 8 = .ok (.invokevirtual 140, 3) := by decide +kernel
theorem dX6_passes_11 : decode cX6_passes 11 = .ok (.iinc 2 1, 3) := by decide +kernel
theorem dX6_passes_14 : decode cX6_passes 14 = .ok (.goto (-12), 3) := by decide +kernel
theorem dX6_passes_17 : decode cX6_passes 17 = .ok (.return_, 1) := by decide +kernel
theorem dX6_hours_0 : decode cX6_hours 0 = .ok (.iload_n 1, 1) := by decide +kernel
theorem dX6_hours_1 : decode cX6_hours 1 = .ok (.iconst 1, 1) := by decide +kernel
theorem dX6_hours_2 : decode cX6_hours 2 = .ok (.bipush 100, 2) := by decide +kernel
theorem dX6_hours_4 : decode cX6_hours 4 = .ok (.invokestatic 49, 3) := by decide +kernel
theorem dX6_hours_7 : decode cX6_hours 7 = .ok (.ifCond .ne 10, 3) := by decide +kernel
theorem dX6_hours_10 : decode cX6_hours 10 = .ok (.aload_n 0, 1) := by decide +kernel
theorem dX6_hours_11 : decode cX6_hours 11 = .ok (.ldc 48, 2) := by decide +kernel
theorem dX6_hours_13 : decode cX6_hours 13 = .ok (.invokevirtual 82, 3) := by decide +kernel
theorem dX6_hours_16 : decode cX6_hours 16 = .ok (.ireturn, 1) := by decide +kernel
theorem dX6_hours_17 : decode cX6_hours 17 = .ok (.aload_n 0, 1) := by decide +kernel
theorem dX6_hours_18 : decode cX6_hours 18 = .ok (.getfield 7, 3) := by decide +kernel
theorem dX6_hours_21 : decode cX6_hours 21 = .ok (.iconst 0, 1) := by decide +kernel
theorem dX6_hours_22 : decode cX6_hours 22 = .ok (.iaload, 1) := by decide +kernel
theorem dX6_hours_23 : decode cX6_hours 23 = .ok (.iload_n 1, 1) := by decide +kernel
theorem dX6_hours_24 : decode cX6_hours 24 = .ok (.iadd, 1) := by decide +kernel
theorem dX6_hours_25 : decode cX6_hours 25 = .ok (.ldc 143, 2) := by decide +kernel
theorem dX6_hours_27 : decode cX6_hours 27 = .ok (.if_icmp .le 10, 3) := by decide +kernel
theorem dX6_hours_30 : decode cX6_hours 30 = .ok (.aload_n 0, 1) := by decide +kernel
theorem dX6_hours_31 : decode cX6_hours 31 = .ok (.ldc 136, 2) := by decide +kernel
theorem dX6_hours_33 : decode cX6_hours 33 = .ok (.invokevirtual 82, 3) := by decide +kernel
theorem dX6_hours_36 : decode cX6_hours 36 = .ok (.ireturn, 1) := by decide +kernel
theorem dX6_hours_37 : decode cX6_hours 37 = .ok (.aload_n 0, 1) := by decide +kernel
theorem dX6_hours_38 : decode cX6_hours 38 = .ok (.iload_n 1, 1) := by decide +kernel
theorem dX6_hours_39 : decode cX6_hours 39 = .ok (.invokevirtual 144, 3) := by decide +kernel
theorem dX6_hours_42 : decode cX6_hours 42 = .ok (.aload_n 0, 1) := by decide +kernel
theorem dX6_hours_43 : decode cX6_hours 43 = .ok (.invokevirtual 95, 3) := by decide +kernel
theorem dX6_hours_46 : decode cX6_hours 46 = .ok (.ireturn, 1) := by decide +kernel
theorem dX6_on_0 : decode cX6_on 0 = .ok (.aload_n 0, 1) := by decide +kernel
theorem dX6_on_1 : decode cX6_on 1 = .ok (.iload_n 1, 1) := by decide +kernel
theorem dX6_on_2 : decode cX6_on 2 = .ok (.invokevirtual 115, 3) := by decide +kernel
theorem dX6_on_5 : decode cX6_on 5 = .ok (.ifCond .eq 23, 3) := by decide +kernel
theorem dX6_on_8 : decode cX6_on 8 = .ok (.iload_n 2, 1) := by decide +kernel
theorem dX6_on_9 : decode cX6_on 9 = .ok (.iconst 0, 1) := by decide +kernel
theorem dX6_on_10 : decode cX6_on 10 = .ok (.sipush 200, 3) := by decide +kernel
theorem dX6_on_13 : decode cX6_on 13 = .ok (.invokestatic 49, 3) := by decide +kernel
theorem dX6_on_16 : decode cX6_on 16 = .ok (.ifCond .eq 12, 3) := by decide +kernel
theorem dX6_on_19 : decode cX6_on 19 = .ok (.iload_n 3, 1) := by decide +kernel
theorem dX6_on_20 : decode cX6_on 20 = .ok (.iconst 0, 1) := by decide +kernel
theorem dX6_on_21 : decode cX6_on 21 = .ok (.iconst 2, 1) := by decide +kernel
theorem dX6_on_22 : decode cX6_on 22 = .ok (.invokestatic 49, 3) := by decide +kernel
theorem dX6_on_25 : decode cX6_on 25 = .ok (.ifCond .ne 10, 3) := by decide +kernel
theorem dX6_on_28 : decode cX6_on 28 = .ok (.aload_n 0, 1) := by decide +kernel
theorem dX6_on_29 : decode cX6_on 29 = .ok (.ldc 48, 2) := by decide +kernel
theorem dX6_on_31 : decode cX6_on 31 = .ok (.invokevirtual 82, 3) := by decide +kernel
theorem dX6_on_34 : decode cX6_on 34 = .ok (.ireturn, 1) := by decide +kernel
theorem dX6_on_35 : decode cX6_on 35 = .ok (.aload_n 0, 1) := by decide +kernel
theorem dX6_on_36 : decode cX6_on 36 = .ok (.iconst 1, 1) := by decide +kernel
theorem dX6_on_37 : decode cX6_on 37 = .ok (.aload_n 0, 1) := by decide +kernel
theorem dX6_on_38 : decode cX6_on 38 = .ok (.getfield 16, 3) := by decide +kernel
theorem dX6_on_41 : decode cX6_on 41 = .ok (.invokevirtual 147, 3) := by decide +kernel
theorem dX6_on_44 : decode cX6_on 44 = .ok (.aload_n 0, 1) := by decide +kernel
theorem dX6_on_45 : decode cX6_on 45 = .ok (.iload_n 2, 1) := by decide +kernel
theorem dX6_on_46 : decode cX6_on 46 = .ok (.invokevirtual 144, 3) := by decide +kernel
theorem dX6_on_49 : decode cX6_on 49 = .ok (.aload_n 0, 1) := by decide +kernel
theorem dX6_on_50 : decode cX6_on 50 = .ok (.iload_n 1, 1) := by decide +kernel
theorem dX6_on_51 : decode cX6_on 51 = .ok (.iconst 2, 1) := by decide +kernel
theorem dX6_on_52 : decode cX6_on 52 = .ok (.iload_n 3, 1) := by decide +kernel
theorem dX6_on_53 : decode cX6_on 53 = .ok (.iadd, 1) := by decide +kernel
theorem dX6_on_54 : decode cX6_on 54 = .ok (.invokevirtual 53, 3) := by decide +kernel
theorem dX6_on_57 : decode cX6_on 57 = .ok (.istore 4, 2) := by decide +kernel
theorem dX6_on_59 : decode cX6_on 59 = .ok (.aload_n 0, 1) := by decide +kernel
theorem dX6_on_60 : decode cX6_on 60 = .ok (.iconst 0, 1) := by decide +kernel
theorem dX6_on_61 : decode cX6_on 61 = .ok (.aload_n 0, 1) := by decide +kernel
theorem dX6_on_62 : decode cX6_on 62 = .ok (.getfield 16, 3) := by decide +kernel
theorem dX6_on_65 : decode cX6_on 65 = .ok (.invokevirtual 147, 3) := by decide +kernel
theorem dX6_on_68 : decode cX6_on 68 = .ok (.iload 4, 2) := by decide +kernel
theorem dX6_on_70 : decode cX6_on 70 = .ok (.ireturn, 1) := by decide +kernel
theorem dX6_then_0 : decode cX6_then 0 = .ok (.iload_n 1, 1) := by decide +kernel
theorem dX6_then_1 : decode cX6_then 1 = .ok (.iconst 0, 1) := by decide +kernel
theorem dX6_then_2 : decode cX6_then 2 = .ok (.sipush 200, 3) := by decide +kernel
theorem dX6_then_5 : decode cX6_then 5 = .ok (.invokestatic 49, 3) := by decide +kernel
theorem dX6_then_8 : decode cX6_then 8 = .ok (.ifCond .eq 12, 3) := by decide +kernel
theorem dX6_then_11 : decode cX6_then 11 = .ok (.iload_n 2, 1) := by decide +kernel
theorem dX6_then_12 : decode cX6_then 12 = .ok (.iconst 0, 1) := by decide +kernel
theorem dX6_then_13 : decode cX6_then 13 = .ok (.iconst 1, 1) := by decide +kernel
theorem dX6_then_14 : decode cX6_then 14 = .ok (.invokestatic 49, 3) := by decide +kernel
theorem dX6_then_17 : decode cX6_then 17 = .ok (.ifCond .ne 10, 3) := by decide +kernel
theorem dX6_then_20 : decode cX6_then 20 = .ok (.aload_n 0, 1) := by decide +kernel
theorem dX6_then_21 : decode cX6_then 21 = .ok (.ldc 48, 2) := by decide +kernel
theorem dX6_then_23 : decode cX6_then 23 = .ok (.invokevirtual 82, 3) := by decide +kernel
theorem dX6_then_26 : decode cX6_then 26 = .ok (.ireturn, 1) := by decide +kernel
theorem dX6_then_27 : decode cX6_then 27 = .ok (.aload_n 0, 1) := by decide +kernel
theorem dX6_then_28 : decode cX6_then 28 = .ok (.iconst 1, 1) := by decide +kernel
theorem dX6_then_29 : decode cX6_then 29 = .ok (.aload_n 0, 1) := by decide +kernel
theorem dX6_then_30 : decode cX6_then 30 = .ok (.getfield 16, 3) := by decide +kernel
theorem dX6_then_33 : decode cX6_then 33 = .ok (.invokevirtual 147, 3) := by decide +kernel
theorem dX6_then_36 : decode cX6_then 36 = .ok (.aload_n 0, 1) := by decide +kernel
theorem dX6_then_37 : decode cX6_then 37 = .ok (.iload_n 1, 1) := by decide +kernel
theorem dX6_then_38 : decode cX6_then 38 = .ok (.invokevirtual 144, 3) := by decide +kernel
theorem dX6_then_41 : decode cX6_then 41 = .ok (.iload_n 2, 1) := by decide +kernel
theorem dX6_then_42 : decode cX6_then 42 = .ok (.ifCond .ne 10, 3) := by decide +kernel
theorem dX6_then_45 : decode cX6_then 45 = .ok (.aload_n 0, 1) := by decide +kernel
theorem dX6_then_46 : decode cX6_then 46 = .ok (.invokevirtual 95, 3) := by decide +kernel
theorem dX6_then_49 : decode cX6_then 49 = .ok (.goto 7, 3) := by decide +kernel
theorem dX6_then_52 : decode cX6_then 52 = .ok (.aload_n 0, 1) := by decide +kernel
theorem dX6_then_53 : decode cX6_then 53 = .ok (.invokevirtual 98, 3) := by decide +kernel
theorem dX6_then_56 : decode cX6_then 56 = .ok (.istore_n 3, 1) := by decide +kernel
theorem dX6_then_57 : decode cX6_then 57 = .ok (.aload_n 0, 1) := by decide +kernel
theorem dX6_then_58 : decode cX6_then 58 = .ok (.iconst 0, 1) := by decide +kernel
theorem dX6_then_59 : decode cX6_then 59 = .ok (.aload_n 0, 1) := by decide +kernel
theorem dX6_then_60 : decode cX6_then 60 = .ok (.getfield 16, 3) := by decide +kernel
theorem dX6_then_63 : decode cX6_then 63 = .ok (.invokevirtual 147, 3) := by decide +kernel
theorem dX6_then_66 : decode cX6_then 66 = .ok (.iload_n 3, 1) := by decide +kernel
theorem dX6_then_67 : decode cX6_then 67 = .ok (.ireturn, 1) := by decide +kernel
theorem dX6_goneIn_0 : decode cX6_goneIn 0 = .ok (.iconst 0, 1) := by decide +kernel
theorem dX6_goneIn_1 : decode cX6_goneIn 1 = .ok (.istore_n 2, 1) := by decide +kernel
theorem dX6_goneIn_2 : decode cX6_goneIn 2 = .ok (.iload_n 2, 1) := by decide +kernel
theorem dX6_goneIn_3 : decode cX6_goneIn 3 = .ok (.sipush 200, 3) := by decide +kernel
theorem dX6_goneIn_6 : decode cX6_goneIn 6 = .ok (.if_icmp .gt 23, 3) := by decide +kernel
theorem dX6_goneIn_9 : decode cX6_goneIn 9 = .ok (.aload_n 0, 1) := by decide +kernel
theorem dX6_goneIn_10 : decode cX6_goneIn 10 = .ok (.getfield 7, 3) := by decide +kernel
theorem dX6_goneIn_13 : decode cX6_goneIn 13 = .ok (.iload_n 1, 1) := by decide +kernel
theorem dX6_goneIn_14 : decode cX6_goneIn 14 = .ok (.iaload, 1) := by decide +kernel
theorem dX6_goneIn_15 : decode cX6_goneIn 15 = .ok (.iconst 1, 1) := by decide +kernel
theorem dX6_goneIn_16 : decode cX6_goneIn 16 = .ok (.if_icmp .ne 13, 3) := by decide +kernel
theorem dX6_goneIn_19 : decode cX6_goneIn 19 = .ok (.aload_n 0, 1) := by decide +kernel
theorem dX6_goneIn_20 : decode cX6_goneIn 20 = .ok (.invokevirtual 140, 3) := by decide +kernel
theorem dX6_goneIn_23 : decode cX6_goneIn 23 = .ok (.iinc 2 1, 3) := by decide +kernel
theorem dX6_goneIn_26 : decode cX6_goneIn 26 = .ok (.goto (-24), 3) := by decide +kernel
theorem dX6_goneIn_29 : decode cX6_goneIn 29 = .ok (.aload_n 0, 1) := by decide +kernel
theorem dX6_goneIn_30 : decode cX6_goneIn 30 = .ok (.iconst 0, 1) := by decide +kernel
theorem dX6_goneIn_31 : decode cX6_goneIn 31 = .ok (.aload_n 0, 1) := by decide +kernel
theorem dX6_goneIn_32 : decode cX6_goneIn 32 = .ok (.getfield 16, 3) := by decide +kernel
theorem dX6_goneIn_35 : decode cX6_goneIn 35 = .ok (.invokevirtual 147, 3) := by decide +kernel
theorem dX6_goneIn_38 : decode cX6_goneIn 38 = .ok (.iload_n 2, 1) := by decide +kernel
theorem dX6_goneIn_39 : decode cX6_goneIn 39 = .ok (.ireturn, 1) := by decide +kernel
theorem dX6_falls_0 : decode cX6_falls 0 = .ok (.iload_n 1, 1) := by decide +kernel
theorem dX6_falls_1 : decode cX6_falls 1 = .ok (.invokestatic 85, 3) := by decide +kernel
theorem dX6_falls_4 : decode cX6_falls 4 = .ok (.ifCond .ne 10, 3) := by decide +kernel
theorem dX6_falls_7 : decode cX6_falls 7 = .ok (.aload_n 0, 1) := by decide +kernel
theorem dX6_falls_8 : decode cX6_falls 8 = .ok (.ldc 48, 2) := by decide +kernel
theorem dX6_falls_10 : decode cX6_falls 10 = .ok (.invokevirtual 82, 3) := by decide +kernel
theorem dX6_falls_13 : decode cX6_falls 13 = .ok (.ireturn, 1) := by decide +kernel
theorem dX6_falls_14 : decode cX6_falls 14 = .ok (.aload_n 0, 1) := by decide +kernel
theorem dX6_falls_15 : decode cX6_falls 15 = .ok (.iconst 1, 1) := by decide +kernel
theorem dX6_falls_16 : decode cX6_falls 16 = .ok (.aload_n 0, 1) := by decide +kernel
theorem dX6_falls_17 : decode cX6_falls 17 = .ok (.getfield 16, 3) := by decide +kernel
theorem dX6_falls_20 : decode cX6_falls 20 = .ok (.invokevirtual 147, 3) := by decide +kernel
theorem dX6_falls_23 : decode cX6_falls 23 = .ok (.aload_n 0, 1) := by decide +kernel
theorem dX6_falls_24 : decode cX6_falls 24 = .ok (.bipush 14, 2) := by decide +kernel
theorem dX6_falls_26 : decode cX6_falls 26 = .ok (.iconst 2, 1) := by decide +kernel
theorem dX6_falls_27 : decode cX6_falls 27 = .ok (.iload_n 1, 1) := by decide +kernel
theorem dX6_falls_28 : decode cX6_falls 28 = .ok (.imul, 1) := by decide +kernel
theorem dX6_falls_29 : decode cX6_falls 29 = .ok (.iadd, 1) := by decide +kernel
theorem dX6_falls_30 : decode cX6_falls 30 = .ok (.iconst 1, 1) := by decide +kernel
theorem dX6_falls_31 : decode cX6_falls 31 = .ok (.iadd, 1) := by decide +kernel
theorem dX6_falls_32 : decode cX6_falls 32 = .ok (.invokevirtual 151, 3) := by decide +kernel
theorem dX6_falls_35 : decode cX6_falls 35 = .ok (.istore_n 2, 1) := by decide +kernel
theorem dX6_falls_36 : decode cX6_falls 36 = .ok (.iload_n 2, 1) := by decide +kernel
theorem dX6_falls_37 : decode cX6_falls 37 = .ok (.sipush 200, 3) := by decide +kernel
theorem dX6_falls_40 : decode cX6_falls 40 = .ok (.if_icmp .le 12, 3) := by decide +kernel
theorem dX6_falls_43 : decode cX6_falls 43 = .ok (.aload_n 0, 1) := by decide +kernel
theorem dX6_falls_44 : decode cX6_falls 44 = .ok (.ldc 154, 2) := by decide +kernel
theorem dX6_falls_46 : decode cX6_falls 46 = .ok (.invokevirtual 82, 3) := by decide +kernel
theorem dX6_falls_49 : decode cX6_falls 49 = .ok (.goto 4, 3) := by decide +kernel
theorem dX6_falls_52 : decode cX6_falls 52 = .ok (.iload_n 2, 1) := by decide +kernel
theorem dX6_falls_53 : decode cX6_falls 53 = .ok (.ireturn, 1) := by decide +kernel
theorem dX6_gives_0 : decode cX6_gives 0 = .ok (.aload_n 0, 1) := by decide +kernel
theorem dX6_gives_1 : decode cX6_gives 1 = .ok (.iload_n 1, 1) := by decide +kernel
theorem dX6_gives_2 : decode cX6_gives 2 = .ok (.invokevirtual 115, 3) := by decide +kernel
theorem dX6_gives_5 : decode cX6_gives 5 = .ok (.ifCond .ne 10, 3) := by decide +kernel
theorem dX6_gives_8 : decode cX6_gives 8 = .ok (.aload_n 0, 1) := by decide +kernel
theorem dX6_gives_9 : decode cX6_gives 9 = .ok (.ldc 48, 2) := by decide +kernel
theorem dX6_gives_11 : decode cX6_gives 11 = .ok (.invokevirtual 82, 3) := by decide +kernel
theorem dX6_gives_14 : decode cX6_gives 14 = .ok (.ireturn, 1) := by decide +kernel
theorem dX6_gives_15 : decode cX6_gives 15 = .ok (.aload_n 0, 1) := by decide +kernel
theorem dX6_gives_16 : decode cX6_gives 16 = .ok (.iconst 1, 1) := by decide +kernel
theorem dX6_gives_17 : decode cX6_gives 17 = .ok (.aload_n 0, 1) := by decide +kernel
theorem dX6_gives_18 : decode cX6_gives 18 = .ok (.getfield 16, 3) := by decide +kernel
theorem dX6_gives_21 : decode cX6_gives 21 = .ok (.invokevirtual 147, 3) := by decide +kernel
theorem dX6_gives_24 : decode cX6_gives 24 = .ok (.aload_n 0, 1) := by decide +kernel
theorem dX6_gives_25 : decode cX6_gives 25 = .ok (.bipush 22, 2) := by decide +kernel
theorem dX6_gives_27 : decode cX6_gives 27 = .ok (.iconst 5, 1) := by decide +kernel
theorem dX6_gives_28 : decode cX6_gives 28 = .ok (.iload_n 1, 1) := by decide +kernel
theorem dX6_gives_29 : decode cX6_gives 29 = .ok (.imul, 1) := by decide +kernel
theorem dX6_gives_30 : decode cX6_gives 30 = .ok (.iadd, 1) := by decide +kernel
theorem dX6_gives_31 : decode cX6_gives 31 = .ok (.iconst 3, 1) := by decide +kernel
theorem dX6_gives_32 : decode cX6_gives 32 = .ok (.iadd, 1) := by decide +kernel
theorem dX6_gives_33 : decode cX6_gives 33 = .ok (.invokevirtual 151, 3) := by decide +kernel
theorem dX6_gives_36 : decode cX6_gives 36 = .ok (.istore_n 2, 1) := by decide +kernel
theorem dX6_gives_37 : decode cX6_gives 37 = .ok (.iload_n 2, 1) := by decide +kernel
theorem dX6_gives_38 : decode cX6_gives 38 = .ok (.sipush 200, 3) := by decide +kernel
theorem dX6_gives_41 : decode cX6_gives 41 = .ok (.if_icmp .le 12, 3) := by decide +kernel
theorem dX6_gives_44 : decode cX6_gives 44 = .ok (.aload_n 0, 1) := by decide +kernel
theorem dX6_gives_45 : decode cX6_gives 45 = .ok (.ldc 154, 2) := by decide +kernel
theorem dX6_gives_47 : decode cX6_gives 47 = .ok (.invokevirtual 82, 3) := by decide +kernel
theorem dX6_gives_50 : decode cX6_gives 50 = .ok (.goto 4, 3) := by decide +kernel
theorem dX6_gives_53 : decode cX6_gives 53 = .ok (.iload_n 2, 1) := by decide +kernel
theorem dX6_gives_54 : decode cX6_gives 54 = .ok (.ireturn, 1) := by decide +kernel
theorem dX6_best_0 : decode cX6_best 0 = .ok (.iload_n 1, 1) := by decide +kernel
theorem dX6_best_1 : decode cX6_best 1 = .ok (.invokestatic 85, 3) := by decide +kernel
theorem dX6_best_4 : decode cX6_best 4 = .ok (.ifCond .ne 10, 3) := by decide +kernel
theorem dX6_best_7 : decode cX6_best 7 = .ok (.aload_n 0, 1) := by decide +kernel
theorem dX6_best_8 : decode cX6_best 8 = .ok (.ldc 48, 2) := by decide +kernel
theorem dX6_best_10 : decode cX6_best 10 = .ok (.invokevirtual 82, 3) := by decide +kernel
theorem dX6_best_13 : decode cX6_best 13 = .ok (.ireturn, 1) := by decide +kernel
theorem dX6_best_14 : decode cX6_best 14 = .ok (.aload_n 0, 1) := by decide +kernel
theorem dX6_best_15 : decode cX6_best 15 = .ok (.iconst 1, 1) := by decide +kernel
theorem dX6_best_16 : decode cX6_best 16 = .ok (.aload_n 0, 1) := by decide +kernel
theorem dX6_best_17 : decode cX6_best 17 = .ok (.getfield 16, 3) := by decide +kernel
theorem dX6_best_20 : decode cX6_best 20 = .ok (.invokevirtual 147, 3) := by decide +kernel
theorem dX6_best_23 : decode cX6_best 23 = .ok (.iconst (-1), 1) := by decide +kernel
theorem dX6_best_24 : decode cX6_best 24 = .ok (.istore_n 2, 1) := by decide +kernel
theorem dX6_best_25 : decode cX6_best 25 = .ok (.aload_n 0, 1) := by decide +kernel
theorem dX6_best_26 : decode cX6_best 26 = .ok (.bipush 14, 2) := by decide +kernel
theorem dX6_best_28 : decode cX6_best 28 = .ok (.iconst 2, 1) := by decide +kernel
theorem dX6_best_29 : decode cX6_best 29 = .ok (.iload_n 1, 1) := by decide +kernel
theorem dX6_best_30 : decode cX6_best 30 = .ok (.imul, 1) := by decide +kernel
theorem dX6_best_31 : decode cX6_best 31 = .ok (.iadd, 1) := by decide +kernel
theorem dX6_best_32 : decode cX6_best 32 = .ok (.iconst 1, 1) := by decide +kernel
theorem dX6_best_33 : decode cX6_best 33 = .ok (.iadd, 1) := by decide +kernel
theorem dX6_best_34 : decode cX6_best 34 = .ok (.invokevirtual 151, 3) := by decide +kernel
theorem dX6_best_37 : decode cX6_best 37 = .ok (.istore_n 3, 1) := by decide +kernel
theorem dX6_best_38 : decode cX6_best 38 = .ok (.iconst 0, 1) := by decide +kernel
theorem dX6_best_39 : decode cX6_best 39 = .ok (.istore 4, 2) := by decide +kernel
theorem dX6_best_41 : decode cX6_best 41 = .ok (.iload 4, 2) := by decide +kernel
theorem dX6_best_43 : decode cX6_best 43 = .ok (.aload_n 0, 1) := by decide +kernel
theorem dX6_best_44 : decode cX6_best 44 = .ok (.getfield 7, 3) := by decide +kernel
theorem dX6_best_47 : decode cX6_best 47 = .ok (.iconst 1, 1) := by decide +kernel
theorem dX6_best_48 : decode cX6_best 48 = .ok (.iaload, 1) := by decide +kernel
theorem dX6_best_49 : decode cX6_best 49 = .ok (.if_icmp .ge 55, 3) := by decide +kernel
theorem dX6_best_52 : decode cX6_best 52 = .ok (.aload_n 0, 1) := by decide +kernel
theorem dX6_best_53 : decode cX6_best 53 = .ok (.iload 4, 2) := by decide +kernel
theorem dX6_best_55 : decode cX6_best 55 = .ok (.invokevirtual 132, 3) := by decide +kernel
theorem dX6_best_58 : decode cX6_best 58 = .ok (.aload_n 0, 1) := by decide +kernel
theorem dX6_best_59 : decode cX6_best 59 = .ok (.bipush 14, 2) := by decide +kernel
theorem dX6_best_61 : decode cX6_best 61 = .ok (.iconst 2, 1) := by decide +kernel
theorem dX6_best_62 : decode cX6_best 62 = .ok (.iload_n 1, 1) := by decide +kernel
theorem dX6_best_63 : decode cX6_best 63 = .ok (.imul, 1) := by decide +kernel
theorem dX6_best_64 : decode cX6_best 64 = .ok (.iadd, 1) := by decide +kernel
theorem dX6_best_65 : decode cX6_best 65 = .ok (.iconst 1, 1) := by decide +kernel
theorem dX6_best_66 : decode cX6_best 66 = .ok (.iadd, 1) := by decide +kernel
theorem dX6_best_67 : decode cX6_best 67 = .ok (.invokevirtual 151, 3) := by decide +kernel
theorem dX6_best_70 : decode cX6_best 70 = .ok (.istore 5, 2) := by decide +kernel
theorem dX6_best_72 : decode cX6_best 72 = .ok (.iload 5, 2) := by decide +kernel
theorem dX6_best_74 : decode cX6_best 74 = .ok (.iload_n 3, 1) := by decide +kernel
theorem dX6_best_75 : decode cX6_best 75 = .ok (.if_icmp .le 8, 3) := by decide +kernel
theorem dX6_best_78 : decode cX6_best 78 = .ok (.iload 4, 2) := by decide +kernel
theorem dX6_best_80 : decode cX6_best 80 = .ok (.goto 4, 3) := by decide +kernel
theorem dX6_best_83 : decode cX6_best 83 = .ok (.iload_n 2, 1) := by decide +kernel
theorem dX6_best_84 : decode cX6_best 84 = .ok (.istore_n 2, 1) := by decide +kernel
theorem dX6_best_85 : decode cX6_best 85 = .ok (.iload 5, 2) := by decide +kernel
theorem dX6_best_87 : decode cX6_best 87 = .ok (.iload_n 3, 1) := by decide +kernel
theorem dX6_best_88 : decode cX6_best 88 = .ok (.if_icmp .le 8, 3) := by decide +kernel
theorem dX6_best_91 : decode cX6_best 91 = .ok (.iload 5, 2) := by decide +kernel
theorem dX6_best_93 : decode cX6_best 93 = .ok (.goto 4, 3) := by decide +kernel
theorem dX6_best_96 : decode cX6_best 96 = .ok (.iload_n 3, 1) := by decide +kernel
theorem dX6_best_97 : decode cX6_best 97 = .ok (.istore_n 3, 1) := by decide +kernel
theorem dX6_best_98 : decode cX6_best 98 = .ok (.iinc 4 1, 3) := by decide +kernel
theorem dX6_best_101 : decode cX6_best 101 = .ok (.goto (-60), 3) := by decide +kernel
theorem dX6_best_104 : decode cX6_best 104 = .ok (.iload_n 2, 1) := by decide +kernel
theorem dX6_best_105 : decode cX6_best 105 = .ok (.ifCond .ge 12, 3) := by decide +kernel
theorem dX6_best_108 : decode cX6_best 108 = .ok (.aload_n 0, 1) := by decide +kernel
theorem dX6_best_109 : decode cX6_best 109 = .ok (.ldc 154, 2) := by decide +kernel
theorem dX6_best_111 : decode cX6_best 111 = .ok (.invokevirtual 82, 3) := by decide +kernel
theorem dX6_best_114 : decode cX6_best 114 = .ok (.goto 4, 3) := by decide +kernel
theorem dX6_best_117 : decode cX6_best 117 = .ok (.iload_n 2, 1) := by decide +kernel
theorem dX6_best_118 : decode cX6_best 118 = .ok (.ireturn, 1) := by decide +kernel
theorem dX6_kind_0 : decode cX6_kind 0 = .ok (.aload_n 0, 1) := by decide +kernel
theorem dX6_kind_1 : decode cX6_kind 1 = .ok (.iload_n 1, 1) := by decide +kernel
theorem dX6_kind_2 : decode cX6_kind 2 = .ok (.invokevirtual 115, 3) := by decide +kernel
theorem dX6_kind_5 : decode cX6_kind 5 = .ok (.ifCond .ne 10, 3) := by decide +kernel
theorem dX6_kind_8 : decode cX6_kind 8 = .ok (.aload_n 0, 1) := by decide +kernel
theorem dX6_kind_9 : decode cX6_kind 9 = .ok (.ldc 48, 2) := by decide +kernel
theorem dX6_kind_11 : decode cX6_kind 11 = .ok (.invokevirtual 82, 3) := by decide +kernel
theorem dX6_kind_14 : decode cX6_kind 14 = .ok (.ireturn, 1) := by decide +kernel
theorem dX6_kind_15 : decode cX6_kind 15 = .ok (.aload_n 0, 1) := by decide +kernel
theorem dX6_kind_16 : decode cX6_kind 16 = .ok (.iconst 1, 1) := by decide +kernel
theorem dX6_kind_17 : decode cX6_kind 17 = .ok (.aload_n 0, 1) := by decide +kernel
theorem dX6_kind_18 : decode cX6_kind 18 = .ok (.getfield 16, 3) := by decide +kernel
theorem dX6_kind_21 : decode cX6_kind 21 = .ok (.invokevirtual 147, 3) := by decide +kernel
theorem dX6_kind_24 : decode cX6_kind 24 = .ok (.iconst 0, 1) := by decide +kernel
theorem dX6_kind_25 : decode cX6_kind 25 = .ok (.istore_n 2, 1) := by decide +kernel
theorem dX6_kind_26 : decode cX6_kind 26 = .ok (.iconst (-1), 1) := by decide +kernel
theorem dX6_kind_27 : decode cX6_kind 27 = .ok (.istore_n 3, 1) := by decide +kernel
theorem dX6_kind_28 : decode cX6_kind 28 = .ok (.iconst 0, 1) := by decide +kernel
theorem dX6_kind_29 : decode cX6_kind 29 = .ok (.istore 4, 2) := by decide +kernel
theorem dX6_kind_31 : decode cX6_kind 31 = .ok (.iload 4, 2) := by decide +kernel
theorem dX6_kind_33 : decode cX6_kind 33 = .ok (.iconst 5, 1) := by decide +kernel
theorem dX6_kind_34 : decode cX6_kind 34 = .ok (.if_icmp .gt 57, 3) := by decide +kernel
theorem dX6_kind_37 : decode cX6_kind 37 = .ok (.aload_n 0, 1) := by decide +kernel
theorem dX6_kind_38 : decode cX6_kind 38 = .ok (.iload_n 1, 1) := by decide +kernel
theorem dX6_kind_39 : decode cX6_kind 39 = .ok (.iconst 0, 1) := by decide +kernel
theorem dX6_kind_40 : decode cX6_kind 40 = .ok (.iload 4, 2) := by decide +kernel
theorem dX6_kind_42 : decode cX6_kind 42 = .ok (.invokevirtual 104, 3) := by decide +kernel
theorem dX6_kind_45 : decode cX6_kind 45 = .ok (.aload_n 0, 1) := by decide +kernel
theorem dX6_kind_46 : decode cX6_kind 46 = .ok (.bipush 22, 2) := by decide +kernel
theorem dX6_kind_48 : decode cX6_kind 48 = .ok (.iconst 5, 1) := by decide +kernel
theorem dX6_kind_49 : decode cX6_kind 49 = .ok (.iload_n 1, 1) := by decide +kernel
theorem dX6_kind_50 : decode cX6_kind 50 = .ok (.imul, 1) := by decide +kernel
theorem dX6_kind_51 : decode cX6_kind 51 = .ok (.iadd, 1) := by decide +kernel
theorem dX6_kind_52 : decode cX6_kind 52 = .ok (.iconst 3, 1) := by decide +kernel
theorem dX6_kind_53 : decode cX6_kind 53 = .ok (.iadd, 1) := by decide +kernel
theorem dX6_kind_54 : decode cX6_kind 54 = .ok (.invokevirtual 151, 3) := by decide +kernel
theorem dX6_kind_57 : decode cX6_kind 57 = .ok (.istore 5, 2) := by decide +kernel
theorem dX6_kind_59 : decode cX6_kind 59 = .ok (.iload 5, 2) := by decide +kernel
theorem dX6_kind_61 : decode cX6_kind 61 = .ok (.iload_n 3, 1) := by decide +kernel
theorem dX6_kind_62 : decode cX6_kind 62 = .ok (.if_icmp .le 8, 3) := by decide +kernel
theorem dX6_kind_65 : decode cX6_kind 65 = .ok (.iload 4, 2) := by decide +kernel
theorem dX6_kind_67 : decode cX6_kind 67 = .ok (.goto 4, 3) := by decide +kernel
theorem dX6_kind_70 : decode cX6_kind 70 = .ok (.iload_n 2, 1) := by decide +kernel
theorem dX6_kind_71 : decode cX6_kind 71 = .ok (.istore_n 2, 1) := by decide +kernel
theorem dX6_kind_72 : decode cX6_kind 72 = .ok (.iload 5, 2) := by decide +kernel
theorem dX6_kind_74 : decode cX6_kind 74 = .ok (.iload_n 3, 1) := by decide +kernel
theorem dX6_kind_75 : decode cX6_kind 75 = .ok (.if_icmp .le 8, 3) := by decide +kernel
theorem dX6_kind_78 : decode cX6_kind 78 = .ok (.iload 5, 2) := by decide +kernel
theorem dX6_kind_80 : decode cX6_kind 80 = .ok (.goto 4, 3) := by decide +kernel
theorem dX6_kind_83 : decode cX6_kind 83 = .ok (.iload_n 3, 1) := by decide +kernel
theorem dX6_kind_84 : decode cX6_kind 84 = .ok (.istore_n 3, 1) := by decide +kernel
theorem dX6_kind_85 : decode cX6_kind 85 = .ok (.iinc 4 1, 3) := by decide +kernel
theorem dX6_kind_88 : decode cX6_kind 88 = .ok (.goto (-57), 3) := by decide +kernel
theorem dX6_kind_91 : decode cX6_kind 91 = .ok (.iload_n 2, 1) := by decide +kernel
theorem dX6_kind_92 : decode cX6_kind 92 = .ok (.ireturn, 1) := by decide +kernel
theorem dX6_lasts_0 : decode cX6_lasts 0 = .ok (.iconst 0, 1) := by decide +kernel
theorem dX6_lasts_1 : decode cX6_lasts 1 = .ok (.istore_n 3, 1) := by decide +kernel
theorem dX6_lasts_2 : decode cX6_lasts 2 = .ok (.iload_n 3, 1) := by decide +kernel
theorem dX6_lasts_3 : decode cX6_lasts 3 = .ok (.iload_n 2, 1) := by decide +kernel
theorem dX6_lasts_4 : decode cX6_lasts 4 = .ok (.if_icmp .ge 23, 3) := by decide +kernel
theorem dX6_lasts_7 : decode cX6_lasts 7 = .ok (.aload_n 0, 1) := by decide +kernel
theorem dX6_lasts_8 : decode cX6_lasts 8 = .ok (.getfield 7, 3) := by decide +kernel
theorem dX6_lasts_11 : decode cX6_lasts 11 = .ok (.iload_n 1, 1) := by decide +kernel
theorem dX6_lasts_12 : decode cX6_lasts 12 = .ok (.iaload, 1) := by decide +kernel
theorem dX6_lasts_13 : decode cX6_lasts 13 = .ok (.iconst 1, 1) := by decide +kernel
theorem dX6_lasts_14 : decode cX6_lasts 14 = .ok (.if_icmp .ne 13, 3) := by decide +kernel
theorem dX6_lasts_17 : decode cX6_lasts 17 = .ok (.aload_n 0, 1) := by decide +kernel
theorem dX6_lasts_18 : decode cX6_lasts 18 = .ok (.invokevirtual 140, 3) := by decide +kernel
theorem dX6_lasts_21 : decode cX6_lasts 21 = .ok (.iinc 3 1, 3) := by decide +kernel
theorem dX6_lasts_24 : decode cX6_lasts 24 = .ok (.goto (-22), 3) := by decide +kernel
theorem dX6_lasts_27 : decode cX6_lasts 27 = .ok (.aload_n 0, 1) := by decide +kernel
theorem dX6_lasts_28 : decode cX6_lasts 28 = .ok (.getfield 7, 3) := by decide +kernel
theorem dX6_lasts_31 : decode cX6_lasts 31 = .ok (.iload_n 1, 1) := by decide +kernel
theorem dX6_lasts_32 : decode cX6_lasts 32 = .ok (.iaload, 1) := by decide +kernel
theorem dX6_lasts_33 : decode cX6_lasts 33 = .ok (.iconst 1, 1) := by decide +kernel
theorem dX6_lasts_34 : decode cX6_lasts 34 = .ok (.if_icmp .ne 7, 3) := by decide +kernel
theorem dX6_lasts_37 : decode cX6_lasts 37 = .ok (.iconst 1, 1) := by decide +kernel
theorem dX6_lasts_38 : decode cX6_lasts 38 = .ok (.goto 4, 3) := by decide +kernel
theorem dX6_lasts_41 : decode cX6_lasts 41 = .ok (.iconst 0, 1) := by decide +kernel
theorem dX6_lasts_42 : decode cX6_lasts 42 = .ok (.istore_n 3, 1) := by decide +kernel
theorem dX6_lasts_43 : decode cX6_lasts 43 = .ok (.aload_n 0, 1) := by decide +kernel
theorem dX6_lasts_44 : decode cX6_lasts 44 = .ok (.iconst 0, 1) := by decide +kernel
theorem dX6_lasts_45 : decode cX6_lasts 45 = .ok (.aload_n 0, 1) := by decide +kernel
theorem dX6_lasts_46 : decode cX6_lasts 46 = .ok (.getfield 16, 3) := by decide +kernel
theorem dX6_lasts_49 : decode cX6_lasts 49 = .ok (.invokevirtual 147, 3) := by decide +kernel
theorem dX6_lasts_52 : decode cX6_lasts 52 = .ok (.iload_n 3, 1) := by decide +kernel
theorem dX6_lasts_53 : decode cX6_lasts 53 = .ok (.ireturn, 1) := by decide +kernel
theorem dX6_open_0 : decode cX6_open 0 = .ok (.aload_n 0, 1) := by decide +kernel
theorem dX6_open_1 : decode cX6_open 1 = .ok (.iload_n 1, 1) := by decide +kernel
theorem dX6_open_2 : decode cX6_open 2 = .ok (.invokevirtual 115, 3) := by decide +kernel
theorem dX6_open_5 : decode cX6_open 5 = .ok (.ifCond .eq 13, 3) := by decide +kernel
theorem dX6_open_8 : decode cX6_open 8 = .ok (.iload_n 2, 1) := by decide +kernel
theorem dX6_open_9 : decode cX6_open 9 = .ok (.iconst 0, 1) := by decide +kernel
theorem dX6_open_10 : decode cX6_open 10 = .ok (.bipush 100, 2) := by decide +kernel
theorem dX6_open_12 : decode cX6_open 12 = .ok (.invokestatic 49, 3) := by decide +kernel
theorem dX6_open_15 : decode cX6_open 15 = .ok (.ifCond .ne 10, 3) := by decide +kernel
theorem dX6_open_18 : decode cX6_open 18 = .ok (.aload_n 0, 1) := by decide +kernel
theorem dX6_open_19 : decode cX6_open 19 = .ok (.ldc 48, 2) := by decide +kernel
theorem dX6_open_21 : decode cX6_open 21 = .ok (.invokevirtual 82, 3) := by decide +kernel
theorem dX6_open_24 : decode cX6_open 24 = .ok (.ireturn, 1) := by decide +kernel
theorem dX6_open_25 : decode cX6_open 25 = .ok (.aload_n 0, 1) := by decide +kernel
theorem dX6_open_26 : decode cX6_open 26 = .ok (.iconst 1, 1) := by decide +kernel
theorem dX6_open_27 : decode cX6_open 27 = .ok (.aload_n 0, 1) := by decide +kernel
theorem dX6_open_28 : decode cX6_open 28 = .ok (.getfield 16, 3) := by decide +kernel
theorem dX6_open_31 : decode cX6_open 31 = .ok (.invokevirtual 147, 3) := by decide +kernel
theorem dX6_open_34 : decode cX6_open 34 = .ok (.iconst (-1), 1) := by decide +kernel
theorem dX6_open_35 : decode cX6_open 35 = .ok (.istore_n 3, 1) := by decide +kernel
theorem dX6_open_36 : decode cX6_open 36 = .ok (.iconst 0, 1) := by decide +kernel
theorem dX6_open_37 : decode cX6_open 37 = .ok (.istore 4, 2) := by decide +kernel
theorem dX6_open_39 : decode cX6_open 39 = .ok (.iload_n 3, 1) := by decide +kernel
theorem dX6_open_40 : decode cX6_open 40 = .ok (.bipush 99, 2) := by decide +kernel
theorem dX6_open_42 : decode cX6_open 42 = .ok (.if_icmp .ge 36, 3) := by decide +kernel
theorem dX6_open_45 : decode cX6_open 45 = .ok (.iload 4, 2) := by decide +kernel
theorem dX6_open_47 : decode cX6_open 47 = .ok (.ifCond .ne 31, 3) := by decide +kernel
theorem dX6_open_50 : decode cX6_open 50 = .ok (.iinc 3 1, 3) := by decide +kernel
theorem dX6_open_53 : decode cX6_open 53 = .ok (.aload_n 0, 1) := by decide +kernel
theorem dX6_open_54 : decode cX6_open 54 = .ok (.iload_n 1, 1) := by decide +kernel
theorem dX6_open_55 : decode cX6_open 55 = .ok (.iconst 2, 1) := by decide +kernel
theorem dX6_open_56 : decode cX6_open 56 = .ok (.iload_n 3, 1) := by decide +kernel
theorem dX6_open_57 : decode cX6_open 57 = .ok (.invokevirtual 104, 3) := by decide +kernel
theorem dX6_open_60 : decode cX6_open 60 = .ok (.aload_n 0, 1) := by decide +kernel
theorem dX6_open_61 : decode cX6_open 61 = .ok (.bipush 22, 2) := by decide +kernel
theorem dX6_open_63 : decode cX6_open 63 = .ok (.iconst 5, 1) := by decide +kernel
theorem dX6_open_64 : decode cX6_open 64 = .ok (.iload_n 1, 1) := by decide +kernel
theorem dX6_open_65 : decode cX6_open 65 = .ok (.imul, 1) := by decide +kernel
theorem dX6_open_66 : decode cX6_open 66 = .ok (.iadd, 1) := by decide +kernel
theorem dX6_open_67 : decode cX6_open 67 = .ok (.iconst 3, 1) := by decide +kernel
theorem dX6_open_68 : decode cX6_open 68 = .ok (.iadd, 1) := by decide +kernel
theorem dX6_open_69 : decode cX6_open 69 = .ok (.iload_n 2, 1) := by decide +kernel
theorem dX6_open_70 : decode cX6_open 70 = .ok (.invokevirtual 155, 3) := by decide +kernel
theorem dX6_open_73 : decode cX6_open 73 = .ok (.istore 4, 2) := by decide +kernel
theorem dX6_open_75 : decode cX6_open 75 = .ok (.goto (-36), 3) := by decide +kernel
theorem dX6_open_78 : decode cX6_open 78 = .ok (.iload 4, 2) := by decide +kernel
theorem dX6_open_80 : decode cX6_open 80 = .ok (.ifCond .eq 7, 3) := by decide +kernel
theorem dX6_open_83 : decode cX6_open 83 = .ok (.iload_n 3, 1) := by decide +kernel
theorem dX6_open_84 : decode cX6_open 84 = .ok (.goto 9, 3) := by decide +kernel
theorem dX6_open_87 : decode cX6_open 87 = .ok (.aload_n 0, 1) := by decide +kernel
theorem dX6_open_88 : decode cX6_open 88 = .ok (.ldc 154, 2) := by decide +kernel
theorem dX6_open_90 : decode cX6_open 90 = .ok (.invokevirtual 82, 3) := by decide +kernel
theorem dX6_open_93 : decode cX6_open 93 = .ok (.ireturn, 1) := by decide +kernel
theorem dX6_bears_0 : decode cX6_bears 0 = .ok (.iload_n 1, 1) := by decide +kernel
theorem dX6_bears_1 : decode cX6_bears 1 = .ok (.invokestatic 85, 3) := by decide +kernel
theorem dX6_bears_4 : decode cX6_bears 4 = .ok (.ifCond .eq 13, 3) := by decide +kernel
theorem dX6_bears_7 : decode cX6_bears 7 = .ok (.iload_n 2, 1) := by decide +kernel
theorem dX6_bears_8 : decode cX6_bears 8 = .ok (.iconst 0, 1) := by decide +kernel
theorem dX6_bears_9 : decode cX6_bears 9 = .ok (.bipush 100, 2) := by decide +kernel
theorem dX6_bears_11 : decode cX6_bears 11 = .ok (.invokestatic 49, 3) := by decide +kernel
theorem dX6_bears_14 : decode cX6_bears 14 = .ok (.ifCond .ne 10, 3) := by decide +kernel
theorem dX6_bears_17 : decode cX6_bears 17 = .ok (.aload_n 0, 1) := by decide +kernel
theorem dX6_bears_18 : decode cX6_bears 18 = .ok (.ldc 48, 2) := by decide +kernel
theorem dX6_bears_20 : decode cX6_bears 20 = .ok (.invokevirtual 82, 3) := by decide +kernel
theorem dX6_bears_23 : decode cX6_bears 23 = .ok (.ireturn, 1) := by decide +kernel
theorem dX6_bears_24 : decode cX6_bears 24 = .ok (.aload_n 0, 1) := by decide +kernel
theorem dX6_bears_25 : decode cX6_bears 25 = .ok (.iconst 1, 1) := by decide +kernel
theorem dX6_bears_26 : decode cX6_bears 26 = .ok (.aload_n 0, 1) := by decide +kernel
theorem dX6_bears_27 : decode cX6_bears 27 = .ok (.getfield 16, 3) := by decide +kernel
theorem dX6_bears_30 : decode cX6_bears 30 = .ok (.invokevirtual 147, 3) := by decide +kernel
theorem dX6_bears_33 : decode cX6_bears 33 = .ok (.sipush 1000, 3) := by decide +kernel
theorem dX6_bears_36 : decode cX6_bears 36 = .ok (.istore_n 3, 1) := by decide +kernel
theorem dX6_bears_37 : decode cX6_bears 37 = .ok (.iconst 0, 1) := by decide +kernel
theorem dX6_bears_38 : decode cX6_bears 38 = .ok (.istore 4, 2) := by decide +kernel
theorem dX6_bears_40 : decode cX6_bears 40 = .ok (.iload_n 3, 1) := by decide +kernel
theorem dX6_bears_41 : decode cX6_bears 41 = .ok (.ifCond .le 36, 3) := by decide +kernel
theorem dX6_bears_44 : decode cX6_bears 44 = .ok (.iload 4, 2) := by decide +kernel
theorem dX6_bears_46 : decode cX6_bears 46 = .ok (.ifCond .ne 31, 3) := by decide +kernel
theorem dX6_bears_49 : decode cX6_bears 49 = .ok (.iinc 3 (-1), 3) := by decide +kernel
theorem dX6_bears_52 : decode cX6_bears 52 = .ok (.aload_n 0, 1) := by decide +kernel
theorem dX6_bears_53 : decode cX6_bears 53 = .ok (.iload_n 1, 1) := by decide +kernel
theorem dX6_bears_54 : decode cX6_bears 54 = .ok (.iconst 0, 1) := by decide +kernel
theorem dX6_bears_55 : decode cX6_bears 55 = .ok (.iload_n 3, 1) := by decide +kernel
theorem dX6_bears_56 : decode cX6_bears 56 = .ok (.invokevirtual 44, 3) := by decide +kernel
theorem dX6_bears_59 : decode cX6_bears 59 = .ok (.aload_n 0, 1) := by decide +kernel
theorem dX6_bears_60 : decode cX6_bears 60 = .ok (.bipush 14, 2) := by decide +kernel
theorem dX6_bears_62 : decode cX6_bears 62 = .ok (.iconst 2, 1) := by decide +kernel
theorem dX6_bears_63 : decode cX6_bears 63 = .ok (.iload_n 1, 1) := by decide +kernel
theorem dX6_bears_64 : decode cX6_bears 64 = .ok (.imul, 1) := by decide +kernel
theorem dX6_bears_65 : decode cX6_bears 65 = .ok (.iadd, 1) := by decide +kernel
theorem dX6_bears_66 : decode cX6_bears 66 = .ok (.iconst 1, 1) := by decide +kernel
theorem dX6_bears_67 : decode cX6_bears 67 = .ok (.iadd, 1) := by decide +kernel
theorem dX6_bears_68 : decode cX6_bears 68 = .ok (.iload_n 2, 1) := by decide +kernel
theorem dX6_bears_69 : decode cX6_bears 69 = .ok (.invokevirtual 155, 3) := by decide +kernel
theorem dX6_bears_72 : decode cX6_bears 72 = .ok (.istore 4, 2) := by decide +kernel
theorem dX6_bears_74 : decode cX6_bears 74 = .ok (.goto (-34), 3) := by decide +kernel
theorem dX6_bears_77 : decode cX6_bears 77 = .ok (.iload 4, 2) := by decide +kernel
theorem dX6_bears_79 : decode cX6_bears 79 = .ok (.ifCond .eq 7, 3) := by decide +kernel
theorem dX6_bears_82 : decode cX6_bears 82 = .ok (.iload_n 3, 1) := by decide +kernel
theorem dX6_bears_83 : decode cX6_bears 83 = .ok (.goto 9, 3) := by decide +kernel
theorem dX6_bears_86 : decode cX6_bears 86 = .ok (.aload_n 0, 1) := by decide +kernel
theorem dX6_bears_87 : decode cX6_bears 87 = .ok (.ldc 154, 2) := by decide +kernel
theorem dX6_bears_89 : decode cX6_bears 89 = .ok (.invokevirtual 82, 3) := by decide +kernel
theorem dX6_bears_92 : decode cX6_bears 92 = .ok (.ireturn, 1) := by decide +kernel
theorem dX6_move_0 : decode cX6_move 0 = .ok (.aload_n 0, 1) := by decide +kernel
theorem dX6_move_1 : decode cX6_move 1 = .ok (.iload_n 1, 1) := by decide +kernel
theorem dX6_move_2 : decode cX6_move 2 = .ok (.invokevirtual 115, 3) := by decide +kernel
theorem dX6_move_5 : decode cX6_move 5 = .ok (.ifCond .eq 13, 3) := by decide +kernel
theorem dX6_move_8 : decode cX6_move 8 = .ok (.iload_n 2, 1) := by decide +kernel
theorem dX6_move_9 : decode cX6_move 9 = .ok (.iconst 1, 1) := by decide +kernel
theorem dX6_move_10 : decode cX6_move 10 = .ok (.bipush 100, 2) := by decide +kernel
theorem dX6_move_12 : decode cX6_move 12 = .ok (.invokestatic 49, 3) := by decide +kernel
theorem dX6_move_15 : decode cX6_move 15 = .ok (.ifCond .ne 10, 3) := by decide +kernel
theorem dX6_move_18 : decode cX6_move 18 = .ok (.aload_n 0, 1) := by decide +kernel
theorem dX6_move_19 : decode cX6_move 19 = .ok (.ldc 48, 2) := by decide +kernel
theorem dX6_move_21 : decode cX6_move 21 = .ok (.invokevirtual 82, 3) := by decide +kernel
theorem dX6_move_24 : decode cX6_move 24 = .ok (.ireturn, 1) := by decide +kernel
theorem dX6_move_25 : decode cX6_move 25 = .ok (.iconst 0, 1) := by decide +kernel
theorem dX6_move_26 : decode cX6_move 26 = .ok (.istore_n 3, 1) := by decide +kernel
theorem dX6_move_27 : decode cX6_move 27 = .ok (.iconst (-1), 1) := by decide +kernel
theorem dX6_move_28 : decode cX6_move 28 = .ok (.istore 4, 2) := by decide +kernel
theorem dX6_move_30 : decode cX6_move 30 = .ok (.aload_n 0, 1) := by decide +kernel
theorem dX6_move_31 : decode cX6_move 31 = .ok (.iconst 1, 1) := by decide +kernel
theorem dX6_move_32 : decode cX6_move 32 = .ok (.aload_n 0, 1) := by decide +kernel
theorem dX6_move_33 : decode cX6_move 33 = .ok (.getfield 16, 3) := by decide +kernel
theorem dX6_move_36 : decode cX6_move 36 = .ok (.invokevirtual 147, 3) := by decide +kernel
theorem dX6_move_39 : decode cX6_move 39 = .ok (.iconst 0, 1) := by decide +kernel
theorem dX6_move_40 : decode cX6_move 40 = .ok (.istore 5, 2) := by decide +kernel
theorem dX6_move_42 : decode cX6_move 42 = .ok (.iload 5, 2) := by decide +kernel
theorem dX6_move_44 : decode cX6_move 44 = .ok (.iconst 4, 1) := by decide +kernel
theorem dX6_move_45 : decode cX6_move 45 = .ok (.if_icmp .ge 70, 3) := by decide +kernel
theorem dX6_move_48 : decode cX6_move 48 = .ok (.aload_n 0, 1) := by decide +kernel
theorem dX6_move_49 : decode cX6_move 49 = .ok (.iload_n 1, 1) := by decide +kernel
theorem dX6_move_50 : decode cX6_move 50 = .ok (.iconst 1, 1) := by decide +kernel
theorem dX6_move_51 : decode cX6_move 51 = .ok (.iload 5, 2) := by decide +kernel
theorem dX6_move_53 : decode cX6_move 53 = .ok (.invokevirtual 104, 3) := by decide +kernel
theorem dX6_move_56 : decode cX6_move 56 = .ok (.aload_n 0, 1) := by decide +kernel
theorem dX6_move_57 : decode cX6_move 57 = .ok (.iload_n 2, 1) := by decide +kernel
theorem dX6_move_58 : decode cX6_move 58 = .ok (.invokevirtual 144, 3) := by decide +kernel
theorem dX6_move_61 : decode cX6_move 61 = .ok (.aload_n 0, 1) := by decide +kernel
theorem dX6_move_62 : decode cX6_move 62 = .ok (.invokevirtual 95, 3) := by decide +kernel
theorem dX6_move_65 : decode cX6_move 65 = .ok (.invokestatic 64, 3) := by decide +kernel
theorem dX6_move_68 : decode cX6_move 68 = .ok (.istore 6, 2) := by decide +kernel
theorem dX6_move_70 : decode cX6_move 70 = .ok (.aload_n 0, 1) := by decide +kernel
theorem dX6_move_71 : decode cX6_move 71 = .ok (.iconst 0, 1) := by decide +kernel
theorem dX6_move_72 : decode cX6_move 72 = .ok (.aload_n 0, 1) := by decide +kernel
theorem dX6_move_73 : decode cX6_move 73 = .ok (.getfield 16, 3) := by decide +kernel
theorem dX6_move_76 : decode cX6_move 76 = .ok (.invokevirtual 147, 3) := by decide +kernel
theorem dX6_move_79 : decode cX6_move 79 = .ok (.iload 6, 2) := by decide +kernel
theorem dX6_move_81 : decode cX6_move 81 = .ok (.iload 4, 2) := by decide +kernel
theorem dX6_move_83 : decode cX6_move 83 = .ok (.if_icmp .le 8, 3) := by decide +kernel
theorem dX6_move_86 : decode cX6_move 86 = .ok (.iload 5, 2) := by decide +kernel
theorem dX6_move_88 : decode cX6_move 88 = .ok (.goto 4, 3) := by decide +kernel
theorem dX6_move_91 : decode cX6_move 91 = .ok (.iload_n 3, 1) := by decide +kernel
theorem dX6_move_92 : decode cX6_move 92 = .ok (.istore_n 3, 1) := by decide +kernel
theorem dX6_move_93 : decode cX6_move 93 = .ok (.iload 6, 2) := by decide +kernel
theorem dX6_move_95 : decode cX6_move 95 = .ok (.iload 4, 2) := by decide +kernel
theorem dX6_move_97 : decode cX6_move 97 = .ok (.if_icmp .le 8, 3) := by decide +kernel
theorem dX6_move_100 : decode cX6_move 100 = .ok (.iload 6, 2) := by decide +kernel
theorem dX6_move_102 : decode cX6_move 102 = .ok (.goto 5, 3) := by decide +kernel
theorem dX6_move_105 : decode cX6_move 105 = .ok (.iload 4, 2) := by decide +kernel
theorem dX6_move_107 : decode cX6_move 107 = .ok (.istore 4, 2) := by decide +kernel
theorem dX6_move_109 : decode cX6_move 109 = .ok (.iinc 5 1, 3) := by decide +kernel
theorem dX6_move_112 : decode cX6_move 112 = .ok (.goto (-70), 3) := by decide +kernel
theorem dX6_move_115 : decode cX6_move 115 = .ok (.iload_n 3, 1) := by decide +kernel
theorem dX6_move_116 : decode cX6_move 116 = .ok (.ireturn, 1) := by decide +kernel
theorem dX6_calm_0 : decode cX6_calm 0 = .ok (.iload_n 1, 1) := by decide +kernel
theorem dX6_calm_1 : decode cX6_calm 1 = .ok (.iconst 1, 1) := by decide +kernel
theorem dX6_calm_2 : decode cX6_calm 2 = .ok (.bipush 100, 2) := by decide +kernel
theorem dX6_calm_4 : decode cX6_calm 4 = .ok (.invokestatic 49, 3) := by decide +kernel
theorem dX6_calm_7 : decode cX6_calm 7 = .ok (.ifCond .ne 10, 3) := by decide +kernel
theorem dX6_calm_10 : decode cX6_calm 10 = .ok (.aload_n 0, 1) := by decide +kernel
theorem dX6_calm_11 : decode cX6_calm 11 = .ok (.ldc 48, 2) := by decide +kernel
theorem dX6_calm_13 : decode cX6_calm 13 = .ok (.invokevirtual 82, 3) := by decide +kernel
theorem dX6_calm_16 : decode cX6_calm 16 = .ok (.ireturn, 1) := by decide +kernel
theorem dX6_calm_17 : decode cX6_calm 17 = .ok (.iconst 0, 1) := by decide +kernel
theorem dX6_calm_18 : decode cX6_calm 18 = .ok (.istore_n 2, 1) := by decide +kernel
theorem dX6_calm_19 : decode cX6_calm 19 = .ok (.iconst (-1), 1) := by decide +kernel
theorem dX6_calm_20 : decode cX6_calm 20 = .ok (.istore_n 3, 1) := by decide +kernel
theorem dX6_calm_21 : decode cX6_calm 21 = .ok (.aload_n 0, 1) := by decide +kernel
theorem dX6_calm_22 : decode cX6_calm 22 = .ok (.iconst 1, 1) := by decide +kernel
theorem dX6_calm_23 : decode cX6_calm 23 = .ok (.aload_n 0, 1) := by decide +kernel
theorem dX6_calm_24 : decode cX6_calm 24 = .ok (.getfield 16, 3) := by decide +kernel
theorem dX6_calm_27 : decode cX6_calm 27 = .ok (.invokevirtual 147, 3) := by decide +kernel
theorem dX6_calm_30 : decode cX6_calm 30 = .ok (.iconst 0, 1) := by decide +kernel
theorem dX6_calm_31 : decode cX6_calm 31 = .ok (.istore 4, 2) := by decide +kernel
theorem dX6_calm_33 : decode cX6_calm 33 = .ok (.iload 4, 2) := by decide +kernel
theorem dX6_calm_35 : decode cX6_calm 35 = .ok (.bipush 12, 2) := by decide +kernel
theorem dX6_calm_37 : decode cX6_calm 37 = .ok (.if_icmp .ge 68, 3) := by decide +kernel
theorem dX6_calm_40 : decode cX6_calm 40 = .ok (.aload_n 0, 1) := by decide +kernel
theorem dX6_calm_41 : decode cX6_calm 41 = .ok (.getfield 7, 3) := by decide +kernel
theorem dX6_calm_44 : decode cX6_calm 44 = .ok (.iconst 2, 1) := by decide +kernel
theorem dX6_calm_45 : decode cX6_calm 45 = .ok (.iload 4, 2) := by decide +kernel
theorem dX6_calm_47 : decode cX6_calm 47 = .ok (.iadd, 1) := by decide +kernel
theorem dX6_calm_48 : decode cX6_calm 48 = .ok (.iconst 0, 1) := by decide +kernel
theorem dX6_calm_49 : decode cX6_calm 49 = .ok (.iastore, 1) := by decide +kernel
theorem dX6_calm_50 : decode cX6_calm 50 = .ok (.aload_n 0, 1) := by decide +kernel
theorem dX6_calm_51 : decode cX6_calm 51 = .ok (.iload_n 1, 1) := by decide +kernel
theorem dX6_calm_52 : decode cX6_calm 52 = .ok (.invokevirtual 144, 3) := by decide +kernel
theorem dX6_calm_55 : decode cX6_calm 55 = .ok (.aload_n 0, 1) := by decide +kernel
theorem dX6_calm_56 : decode cX6_calm 56 = .ok (.invokevirtual 98, 3) := by decide +kernel
theorem dX6_calm_59 : decode cX6_calm 59 = .ok (.invokestatic 64, 3) := by decide +kernel
theorem dX6_calm_62 : decode cX6_calm 62 = .ok (.istore 5, 2) := by decide +kernel
theorem dX6_calm_64 : decode cX6_calm 64 = .ok (.aload_n 0, 1) := by decide +kernel
theorem dX6_calm_65 : decode cX6_calm 65 = .ok (.iconst 0, 1) := by decide +kernel
theorem dX6_calm_66 : decode cX6_calm 66 = .ok (.aload_n 0, 1) := by decide +kernel
theorem dX6_calm_67 : decode cX6_calm 67 = .ok (.getfield 16, 3) := by decide +kernel
theorem dX6_calm_70 : decode cX6_calm 70 = .ok (.invokevirtual 147, 3) := by decide +kernel
theorem dX6_calm_73 : decode cX6_calm 73 = .ok (.iload 5, 2) := by decide +kernel
theorem dX6_calm_75 : decode cX6_calm 75 = .ok (.iload_n 3, 1) := by decide +kernel
theorem dX6_calm_76 : decode cX6_calm 76 = .ok (.if_icmp .le 8, 3) := by decide +kernel
theorem dX6_calm_79 : decode cX6_calm 79 = .ok (.iload 4, 2) := by decide +kernel
theorem dX6_calm_81 : decode cX6_calm 81 = .ok (.goto 4, 3) := by decide +kernel
theorem dX6_calm_84 : decode cX6_calm 84 = .ok (.iload_n 2, 1) := by decide +kernel
theorem dX6_calm_85 : decode cX6_calm 85 = .ok (.istore_n 2, 1) := by decide +kernel
theorem dX6_calm_86 : decode cX6_calm 86 = .ok (.iload 5, 2) := by decide +kernel
theorem dX6_calm_88 : decode cX6_calm 88 = .ok (.iload_n 3, 1) := by decide +kernel
theorem dX6_calm_89 : decode cX6_calm 89 = .ok (.if_icmp .le 8, 3) := by decide +kernel
theorem dX6_calm_92 : decode cX6_calm 92 = .ok (.iload 5, 2) := by decide +kernel
theorem dX6_calm_94 : decode cX6_calm 94 = .ok (.goto 4, 3) := by decide +kernel
theorem dX6_calm_97 : decode cX6_calm 97 = .ok (.iload_n 3, 1) := by decide +kernel
theorem dX6_calm_98 : decode cX6_calm 98 = .ok (.istore_n 3, 1) := by decide +kernel
theorem dX6_calm_99 : decode cX6_calm 99 = .ok (.iinc 4 1, 3) := by decide +kernel
theorem dX6_calm_102 : decode cX6_calm 102 = .ok (.goto (-69), 3) := by decide +kernel
theorem dX6_calm_105 : decode cX6_calm 105 = .ok (.iload_n 2, 1) := by decide +kernel
theorem dX6_calm_106 : decode cX6_calm 106 = .ok (.ireturn, 1) := by decide +kernel
theorem dX6_firmest_0 : decode cX6_firmest 0 = .ok (.iload_n 1, 1) := by decide +kernel
theorem dX6_firmest_1 : decode cX6_firmest 1 = .ok (.iconst 0, 1) := by decide +kernel
theorem dX6_firmest_2 : decode cX6_firmest 2 = .ok (.sipush 200, 3) := by decide +kernel
theorem dX6_firmest_5 : decode cX6_firmest 5 = .ok (.invokestatic 49, 3) := by decide +kernel
theorem dX6_firmest_8 : decode cX6_firmest 8 = .ok (.ifCond .ne 10, 3) := by decide +kernel
theorem dX6_firmest_11 : decode cX6_firmest 11 = .ok (.aload_n 0, 1) := by decide +kernel
theorem dX6_firmest_12 : decode cX6_firmest 12 = .ok (.ldc 48, 2) := by decide +kernel
theorem dX6_firmest_14 : decode cX6_firmest 14 = .ok (.invokevirtual 82, 3) := by decide +kernel
theorem dX6_firmest_17 : decode cX6_firmest 17 = .ok (.ireturn, 1) := by decide +kernel
theorem dX6_firmest_18 : decode cX6_firmest 18 = .ok (.iconst (-1), 1) := by decide +kernel
theorem dX6_firmest_19 : decode cX6_firmest 19 = .ok (.istore_n 2, 1) := by decide +kernel
theorem dX6_firmest_20 : decode cX6_firmest 20 = .ok (.aload_n 0, 1) := by decide +kernel
theorem dX6_firmest_21 : decode cX6_firmest 21 = .ok (.iconst 1, 1) := by decide +kernel
theorem dX6_firmest_22 : decode cX6_firmest 22 = .ok (.aload_n 0, 1) := by decide +kernel
theorem dX6_firmest_23 : decode cX6_firmest 23 = .ok (.getfield 16, 3) := by decide +kernel
theorem dX6_firmest_26 : decode cX6_firmest 26 = .ok (.invokevirtual 147, 3) := by decide +kernel
theorem dX6_firmest_29 : decode cX6_firmest 29 = .ok (.aload_n 0, 1) := by decide +kernel
theorem dX6_firmest_30 : decode cX6_firmest 30 = .ok (.iload_n 1, 1) := by decide +kernel
theorem dX6_firmest_31 : decode cX6_firmest 31 = .ok (.invokevirtual 144, 3) := by decide +kernel
theorem dX6_firmest_34 : decode cX6_firmest 34 = .ok (.iconst 0, 1) := by decide +kernel
theorem dX6_firmest_35 : decode cX6_firmest 35 = .ok (.istore_n 3, 1) := by decide +kernel
theorem dX6_firmest_36 : decode cX6_firmest 36 = .ok (.iload_n 3, 1) := by decide +kernel
theorem dX6_firmest_37 : decode cX6_firmest 37 = .ok (.aload_n 0, 1) := by decide +kernel
theorem dX6_firmest_38 : decode cX6_firmest 38 = .ok (.getfield 7, 3) := by decide +kernel
theorem dX6_firmest_41 : decode cX6_firmest 41 = .ok (.iconst 1, 1) := by decide +kernel
theorem dX6_firmest_42 : decode cX6_firmest 42 = .ok (.iaload, 1) := by decide +kernel
theorem dX6_firmest_43 : decode cX6_firmest 43 = .ok (.if_icmp .ge 32, 3) := by decide +kernel
theorem dX6_firmest_46 : decode cX6_firmest 46 = .ok (.iload_n 2, 1) := by decide +kernel
theorem dX6_firmest_47 : decode cX6_firmest 47 = .ok (.ifCond .lt 16, 3) := by decide +kernel
theorem dX6_firmest_50 : decode cX6_firmest 50 = .ok (.aload_n 0, 1) := by decide +kernel
theorem dX6_firmest_51 : decode cX6_firmest 51 = .ok (.iload_n 3, 1) := by decide +kernel
theorem dX6_firmest_52 : decode cX6_firmest 52 = .ok (.invokevirtual 76, 3) := by decide +kernel
theorem dX6_firmest_55 : decode cX6_firmest 55 = .ok (.aload_n 0, 1) := by decide +kernel
theorem dX6_firmest_56 : decode cX6_firmest 56 = .ok (.iload_n 2, 1) := by decide +kernel
theorem dX6_firmest_57 : decode cX6_firmest 57 = .ok (.invokevirtual 76, 3) := by decide +kernel
theorem dX6_firmest_60 : decode cX6_firmest 60 = .ok (.if_icmp .le 7, 3) := by decide +kernel
theorem dX6_firmest_63 : decode cX6_firmest 63 = .ok (.iload_n 3, 1) := by decide +kernel
theorem dX6_firmest_64 : decode cX6_firmest 64 = .ok (.goto 4, 3) := by decide +kernel
theorem dX6_firmest_67 : decode cX6_firmest 67 = .ok (.iload_n 2, 1) := by decide +kernel
theorem dX6_firmest_68 : decode cX6_firmest 68 = .ok (.istore_n 2, 1) := by decide +kernel
theorem dX6_firmest_69 : decode cX6_firmest 69 = .ok (.iinc 3 1, 3) := by decide +kernel
theorem dX6_firmest_72 : decode cX6_firmest 72 = .ok (.goto (-36), 3) := by decide +kernel
theorem dX6_firmest_75 : decode cX6_firmest 75 = .ok (.aload_n 0, 1) := by decide +kernel
theorem dX6_firmest_76 : decode cX6_firmest 76 = .ok (.iconst 0, 1) := by decide +kernel
theorem dX6_firmest_77 : decode cX6_firmest 77 = .ok (.aload_n 0, 1) := by decide +kernel
theorem dX6_firmest_78 : decode cX6_firmest 78 = .ok (.getfield 16, 3) := by decide +kernel
theorem dX6_firmest_81 : decode cX6_firmest 81 = .ok (.invokevirtual 147, 3) := by decide +kernel
theorem dX6_firmest_84 : decode cX6_firmest 84 = .ok (.iload_n 2, 1) := by decide +kernel
theorem dX6_firmest_85 : decode cX6_firmest 85 = .ok (.ifCond .ge 12, 3) := by decide +kernel
theorem dX6_firmest_88 : decode cX6_firmest 88 = .ok (.aload_n 0, 1) := by decide +kernel
theorem dX6_firmest_89 : decode cX6_firmest 89 = .ok (.ldc 154, 2) := by decide +kernel
theorem dX6_firmest_91 : decode cX6_firmest 91 = .ok (.invokevirtual 82, 3) := by decide +kernel
theorem dX6_firmest_94 : decode cX6_firmest 94 = .ok (.goto 4, 3) := by decide +kernel
theorem dX6_firmest_97 : decode cX6_firmest 97 = .ok (.iload_n 2, 1) := by decide +kernel
theorem dX6_firmest_98 : decode cX6_firmest 98 = .ok (.ireturn, 1) := by decide +kernel
theorem dX6_feed_0 : decode cX6_feed 0 = .ok (.iload_n 2, 1) := by decide +kernel
theorem dX6_feed_1 : decode cX6_feed 1 = .ok (.iconst 1, 1) := by decide +kernel
theorem dX6_feed_2 : decode cX6_feed 2 = .ok (.iconst 4, 1) := by decide +kernel
theorem dX6_feed_3 : decode cX6_feed 3 = .ok (.invokestatic 49, 3) := by decide +kernel
theorem dX6_feed_6 : decode cX6_feed 6 = .ok (.ifCond .ne 10, 3) := by decide +kernel
theorem dX6_feed_9 : decode cX6_feed 9 = .ok (.aload_n 0, 1) := by decide +kernel
theorem dX6_feed_10 : decode cX6_feed 10 = .ok (.ldc 48, 2) := by decide +kernel
theorem dX6_feed_12 : decode cX6_feed 12 = .ok (.invokevirtual 82, 3) := by decide +kernel
theorem dX6_feed_15 : decode cX6_feed 15 = .ok (.ireturn, 1) := by decide +kernel
theorem dX6_feed_16 : decode cX6_feed 16 = .ok (.aload_n 0, 1) := by decide +kernel
theorem dX6_feed_17 : decode cX6_feed 17 = .ok (.getfield 158, 3) := by decide +kernel
theorem dX6_feed_20 : decode cX6_feed 20 = .ok (.iload_n 2, 1) := by decide +kernel
theorem dX6_feed_21 : decode cX6_feed 21 = .ok (.iadd, 1) := by decide +kernel
theorem dX6_feed_22 : decode cX6_feed 22 = .ok (.bipush 120, 2) := by decide +kernel
theorem dX6_feed_24 : decode cX6_feed 24 = .ok (.if_icmp .le 10, 3) := by decide +kernel
theorem dX6_feed_27 : decode cX6_feed 27 = .ok (.aload_n 0, 1) := by decide +kernel
theorem dX6_feed_28 : decode cX6_feed 28 = .ok (.ldc 110, 2) := by decide +kernel
theorem dX6_feed_30 : decode cX6_feed 30 = .ok (.invokevirtual 82, 3) := by decide +kernel
theorem dX6_feed_33 : decode cX6_feed 33 = .ok (.ireturn, 1) := by decide +kernel
theorem dX6_feed_34 : decode cX6_feed 34 = .ok (.iload_n 2, 1) := by decide +kernel
theorem dX6_feed_35 : decode cX6_feed 35 = .ok (.iconst 1, 1) := by decide +kernel
theorem dX6_feed_36 : decode cX6_feed 36 = .ok (.isub, 1) := by decide +kernel
theorem dX6_feed_37 : decode cX6_feed 37 = .ok (.istore_n 3, 1) := by decide +kernel
theorem dX6_feed_38 : decode cX6_feed 38 = .ok (.iload_n 3, 1) := by decide +kernel
theorem dX6_feed_39 : decode cX6_feed 39 = .ok (.ifCond .lt 38, 3) := by decide +kernel
theorem dX6_feed_42 : decode cX6_feed 42 = .ok (.aload_n 0, 1) := by decide +kernel
theorem dX6_feed_43 : decode cX6_feed 43 = .ok (.getfield 22, 3) := by decide +kernel
theorem dX6_feed_46 : decode cX6_feed 46 = .ok (.aload_n 0, 1) := by decide +kernel
theorem dX6_feed_47 : decode cX6_feed 47 = .ok (.getfield 158, 3) := by decide +kernel
theorem dX6_feed_50 : decode cX6_feed 50 = .ok (.iload_n 1, 1) := by decide +kernel
theorem dX6_feed_51 : decode cX6_feed 51 = .ok (.bipush 8, 2) := by decide +kernel
theorem dX6_feed_53 : decode cX6_feed 53 = .ok (.iload_n 3, 1) := by decide +kernel
theorem dX6_feed_54 : decode cX6_feed 54 = .ok (.imul, 1) := by decide +kernel
theorem dX6_feed_55 : decode cX6_feed 55 = .ok (.ishr, 1) := by decide +kernel
theorem dX6_feed_56 : decode cX6_feed 56 = .ok (.sipush 255, 3) := by decide +kernel
theorem dX6_feed_59 : decode cX6_feed 59 = .ok (.iand, 1) := by decide +kernel
theorem dX6_feed_60 : decode cX6_feed 60 = .ok (.iastore, 1) := by decide +kernel
theorem dX6_feed_61 : decode cX6_feed 61 = .ok (.aload_n 0, 1) := by decide +kernel
theorem dX6_feed_62 : decode cX6_feed 62 = .ok (.dup, 1) := by decide +kernel
theorem dX6_feed_63 : decode cX6_feed 63 = .ok (.getfield 158, 3) := by decide +kernel
theorem dX6_feed_66 : decode cX6_feed 66 = .ok (.iconst 1, 1) := by decide +kernel
theorem dX6_feed_67 : decode cX6_feed 67 = .ok (.iadd, 1) := by decide +kernel
theorem dX6_feed_68 : decode cX6_feed 68 = .ok (.putfield 158, 3) := by decide +kernel
theorem dX6_feed_71 : decode cX6_feed 71 = .ok (.iinc 3 (-1), 3) := by decide +kernel
theorem dX6_feed_74 : decode cX6_feed 74 = .ok (.goto (-36), 3) := by decide +kernel
theorem dX6_feed_77 : decode cX6_feed 77 = .ok (.aload_n 0, 1) := by decide +kernel
theorem dX6_feed_78 : decode cX6_feed 78 = .ok (.getfield 158, 3) := by decide +kernel
theorem dX6_feed_81 : decode cX6_feed 81 = .ok (.ireturn, 1) := by decide +kernel
theorem dX6_wipe_0 : decode cX6_wipe 0 = .ok (.aload_n 0, 1) := by decide +kernel
theorem dX6_wipe_1 : decode cX6_wipe 1 = .ok (.getfield 158, 3) := by decide +kernel
theorem dX6_wipe_4 : decode cX6_wipe 4 = .ok (.istore_n 1, 1) := by decide +kernel
theorem dX6_wipe_5 : decode cX6_wipe 5 = .ok (.aload_n 0, 1) := by decide +kernel
theorem dX6_wipe_6 : decode cX6_wipe 6 = .ok (.iconst 0, 1) := by decide +kernel
theorem dX6_wipe_7 : decode cX6_wipe 7 = .ok (.putfield 158, 3) := by decide +kernel
theorem dX6_wipe_10 : decode cX6_wipe 10 = .ok (.iload_n 1, 1) := by decide +kernel
theorem dX6_wipe_11 : decode cX6_wipe 11 = .ok (.ireturn, 1) := by decide +kernel
theorem dX6_byteAt_0 : decode cX6_byteAt 0 = .ok (.iload_n 1, 1) := by decide +kernel
theorem dX6_byteAt_1 : decode cX6_byteAt 1 = .ok (.aload_n 0, 1) := by decide +kernel
theorem dX6_byteAt_2 : decode cX6_byteAt 2 = .ok (.getfield 158, 3) := by decide +kernel
theorem dX6_byteAt_5 : decode cX6_byteAt 5 = .ok (.if_icmp .ge 12, 3) := by decide +kernel
theorem dX6_byteAt_8 : decode cX6_byteAt 8 = .ok (.aload_n 0, 1) := by decide +kernel
theorem dX6_byteAt_9 : decode cX6_byteAt 9 = .ok (.getfield 22, 3) := by decide +kernel
theorem dX6_byteAt_12 : decode cX6_byteAt 12 = .ok (.iload_n 1, 1) := by decide +kernel
theorem dX6_byteAt_13 : decode cX6_byteAt 13 = .ok (.iaload, 1) := by decide +kernel
theorem dX6_byteAt_14 : decode cX6_byteAt 14 = .ok (.goto 4, 3) := by decide +kernel
theorem dX6_byteAt_17 : decode cX6_byteAt 17 = .ok (.iconst (-1), 1) := by decide +kernel
theorem dX6_byteAt_18 : decode cX6_byteAt 18 = .ok (.ireturn, 1) := by decide +kernel
theorem dX6_isLetter_0 : decode cX6_isLetter 0 = .ok (.iload_n 0, 1) := by decide +kernel
theorem dX6_isLetter_1 : decode cX6_isLetter 1 = .ok (.bipush 97, 2) := by decide +kernel
theorem dX6_isLetter_3 : decode cX6_isLetter 3 = .ok (.bipush 122, 2) := by decide +kernel
theorem dX6_isLetter_5 : decode cX6_isLetter 5 = .ok (.invokestatic 49, 3) := by decide +kernel
theorem dX6_isLetter_8 : decode cX6_isLetter 8 = .ok (.ireturn, 1) := by decide +kernel
theorem dX6_isDigit_0 : decode cX6_isDigit 0 = .ok (.iload_n 0, 1) := by decide +kernel
theorem dX6_isDigit_1 : decode cX6_isDigit 1 = .ok (.bipush 48, 2) := by decide +kernel
theorem dX6_isDigit_3 : decode cX6_isDigit 3 = .ok (.bipush 57, 2) := by decide +kernel
theorem dX6_isDigit_5 : decode cX6_isDigit 5 = .ok (.invokestatic 49, 3) := by decide +kernel
theorem dX6_isDigit_8 : decode cX6_isDigit 8 = .ok (.ireturn, 1) := by decide +kernel
theorem dX6_advance_0 : decode cX6_advance 0 = .ok (.aload_n 0, 1) := by decide +kernel
theorem dX6_advance_1 : decode cX6_advance 1 = .ok (.aload_n 0, 1) := by decide +kernel
theorem dX6_advance_2 : decode cX6_advance 2 = .ok (.getfield 162, 3) := by decide +kernel
theorem dX6_advance_5 : decode cX6_advance 5 = .ok (.putfield 165, 3) := by decide +kernel
theorem dX6_advance_8 : decode cX6_advance 8 = .ok (.aload_n 0, 1) := by decide +kernel
theorem dX6_advance_9 : decode cX6_advance 9 = .ok (.aload_n 0, 1) := by decide +kernel
theorem dX6_advance_10 : decode cX6_advance 10 = .ok (.getfield 165, 3) := by decide +kernel
theorem dX6_advance_13 : decode cX6_advance 13 = .ok (.invokevirtual 168, 3) := by decide +kernel
theorem dX6_advance_16 : decode cX6_advance 16 = .ok (.bipush 32, 2) := by decide +kernel
theorem dX6_advance_18 : decode cX6_advance 18 = .ok (.if_icmp .ne 16, 3) := by decide +kernel
theorem dX6_advance_21 : decode cX6_advance 21 = .ok (.aload_n 0, 1) := by decide +kernel
theorem dX6_advance_22 : decode cX6_advance 22 = .ok (.dup, 1) := by decide +kernel
theorem dX6_advance_23 : decode cX6_advance 23 = .ok (.getfield 165, 3) := by decide +kernel
theorem dX6_advance_26 : decode cX6_advance 26 = .ok (.iconst 1, 1) := by decide +kernel
theorem dX6_advance_27 : decode cX6_advance 27 = .ok (.iadd, 1) := by decide +kernel
theorem dX6_advance_28 : decode cX6_advance 28 = .ok (.putfield 165, 3) := by decide +kernel
theorem dX6_advance_31 : decode cX6_advance 31 = .ok (.goto (-23), 3) := by decide +kernel
theorem dX6_advance_34 : decode cX6_advance 34 = .ok (.aload_n 0, 1) := by decide +kernel
theorem dX6_advance_35 : decode cX6_advance 35 = .ok (.aload_n 0, 1) := by decide +kernel
theorem dX6_advance_36 : decode cX6_advance 36 = .ok (.getfield 165, 3) := by decide +kernel
theorem dX6_advance_39 : decode cX6_advance 39 = .ok (.putfield 162, 3) := by decide +kernel
theorem dX6_advance_42 : decode cX6_advance 42 = .ok (.aload_n 0, 1) := by decide +kernel
theorem dX6_advance_43 : decode cX6_advance 43 = .ok (.aload_n 0, 1) := by decide +kernel
theorem dX6_advance_44 : decode cX6_advance 44 = .ok (.getfield 165, 3) := by decide +kernel
theorem dX6_advance_47 : decode cX6_advance 47 = .ok (.invokevirtual 168, 3) := by decide +kernel
theorem dX6_advance_50 : decode cX6_advance 50 = .ok (.istore_n 1, 1) := by decide +kernel
theorem dX6_advance_51 : decode cX6_advance 51 = .ok (.aload_n 0, 1) := by decide +kernel
theorem dX6_advance_52 : decode cX6_advance 52 = .ok (.iload_n 1, 1) := by decide +kernel
theorem dX6_advance_53 : decode cX6_advance 53 = .ok (.ifCond .ge 7, 3) := by decide +kernel
theorem dX6_advance_56 : decode cX6_advance 56 = .ok (.iconst 0, 1) := by decide +kernel
theorem dX6_advance_57 : decode cX6_advance 57 = .ok (.goto 26, 3) := by decide +kernel
theorem dX6_advance_60 : decode cX6_advance 60 = .ok (.iload_n 1, 1) := by decide +kernel
theorem dX6_advance_61 : decode cX6_advance 61 = .ok (.invokestatic 171, 3) := by decide +kernel
theorem dX6_advance_64 : decode cX6_advance 64 = .ok (.ifCond .eq 7, 3) := by decide +kernel
theorem dX6_advance_67 : decode cX6_advance 67 = .ok (.iconst 1, 1) := by decide +kernel
theorem dX6_advance_68 : decode cX6_advance 68 = .ok (.goto 15, 3) := by decide +kernel
theorem dX6_advance_71 : decode cX6_advance 71 = .ok (.iload_n 1, 1) := by decide +kernel
theorem dX6_advance_72 : decode cX6_advance 72 = .ok (.invokestatic 174, 3) := by decide +kernel
theorem dX6_advance_75 : decode cX6_advance 75 = .ok (.ifCond .eq 7, 3) := by decide +kernel
theorem dX6_advance_78 : decode cX6_advance 78 = .ok (.iconst 2, 1) := by decide +kernel
theorem dX6_advance_79 : decode cX6_advance 79 = .ok (.goto 4, 3) := by decide +kernel
theorem dX6_advance_82 : decode cX6_advance 82 = .ok (.iconst 3, 1) := by decide +kernel
theorem dX6_advance_83 : decode cX6_advance 83 = .ok (.putfield 177, 3) := by decide +kernel
theorem dX6_advance_86 : decode cX6_advance 86 = .ok (.aload_n 0, 1) := by decide +kernel
theorem dX6_advance_87 : decode cX6_advance 87 = .ok (.lconst 0, 1) := by decide +kernel
theorem dX6_advance_88 : decode cX6_advance 88 = .ok (.putfield 180, 3) := by decide +kernel
theorem dX6_advance_91 : decode cX6_advance 91 = .ok (.aload_n 0, 1) := by decide +kernel
theorem dX6_advance_92 : decode cX6_advance 92 = .ok (.aload_n 0, 1) := by decide +kernel
theorem dX6_advance_93 : decode cX6_advance 93 = .ok (.getfield 177, 3) := by decide +kernel
theorem dX6_advance_96 : decode cX6_advance 96 = .ok (.iconst 2, 1) := by decide +kernel
theorem dX6_advance_97 : decode cX6_advance 97 = .ok (.if_icmp .ne 7, 3) := by decide +kernel
theorem dX6_advance_100 : decode cX6_advance 100 = .ok (.iconst 0, 1) := by decide +kernel
theorem dX6_advance_101 : decode cX6_advance 101 = .ok (.goto 4, 3) := by decide +kernel
theorem dX6_advance_104 : decode cX6_advance 104 = .ok (.iload_n 1, 1) := by decide +kernel
theorem dX6_advance_105 : decode cX6_advance 105 = .ok (.putfield 184, 3) := by decide +kernel
theorem dX6_advance_108 : decode cX6_advance 108 = .ok (.aload_n 0, 1) := by decide +kernel
theorem dX6_advance_109 : decode cX6_advance 109 = .ok (.getfield 177, 3) := by decide +kernel
theorem dX6_advance_112 : decode cX6_advance 112 = .ok (.iconst 3, 1) := by decide +kernel
theorem dX6_advance_113 : decode cX6_advance 113 = .ok (.if_icmp .ne 13, 3) := by decide +kernel
theorem dX6_advance_116 : decode cX6_advance 116 = .ok (.aload_n 0, 1) := by decide +kernel
theorem dX6_advance_117 : decode cX6_advance 117 = .ok (.dup, 1) := by decide +kernel
theorem dX6_advance_118 : decode cX6_advance 118 = .ok (.getfield 162, 3) := by decide +kernel
theorem dX6_advance_121 : decode cX6_advance 121 = .ok (.iconst 1, 1) := by decide +kernel
theorem dX6_advance_122 : decode cX6_advance 122 = .ok (.iadd, 1) := by decide +kernel
theorem dX6_advance_123 : decode cX6_advance 123 = .ok (.putfield 162, 3) := by decide +kernel
theorem dX6_advance_126 : decode cX6_advance 126 = .ok (.aload_n 0, 1) := by decide +kernel
theorem dX6_advance_127 : decode cX6_advance 127 = .ok (.getfield 177, 3) := by decide +kernel
theorem dX6_advance_130 : decode cX6_advance 130 = .ok (.iconst 1, 1) := by decide +kernel
theorem dX6_advance_131 : decode cX6_advance 131 = .ok (.if_icmp .ne 76, 3) := by decide +kernel
theorem dX6_advance_134 : decode cX6_advance 134 = .ok (.aload_n 0, 1) := by decide +kernel
theorem dX6_advance_135 : decode cX6_advance 135 = .ok (.aload_n 0, 1) := by decide +kernel
theorem dX6_advance_136 : decode cX6_advance 136 = .ok (.getfield 162, 3) := by decide +kernel
theorem dX6_advance_139 : decode cX6_advance 139 = .ok (.invokevirtual 168, 3) := by decide +kernel
theorem dX6_advance_142 : decode cX6_advance 142 = .ok (.invokestatic 171, 3) := by decide +kernel
theorem dX6_advance_145 : decode cX6_advance 145 = .ok (.ifCond .eq 62, 3) := by decide +kernel
theorem dX6_advance_148 : decode cX6_advance 148 = .ok (.aload_n 0, 1) := by decide +kernel
theorem dX6_advance_149 : decode cX6_advance 149 = .ok (.aload_n 0, 1) := by decide +kernel
theorem dX6_advance_150 : decode cX6_advance 150 = .ok (.getfield 162, 3) := by decide +kernel
theorem dX6_advance_153 : decode cX6_advance 153 = .ok (.aload_n 0, 1) := by decide +kernel
theorem dX6_advance_154 : decode cX6_advance 154 = .ok (.getfield 165, 3) := by decide +kernel
theorem dX6_advance_157 : decode cX6_advance 157 = .ok (.isub, 1) := by decide +kernel
theorem dX6_advance_158 : decode cX6_advance 158 = .ok (.bipush 12, 2) := by decide +kernel
theorem dX6_advance_160 : decode cX6_advance 160 = .ok (.if_icmp .ge 28, 3) := by decide +kernel
theorem dX6_advance_163 : decode cX6_advance 163 = .ok (.ldc2_w 187, 3) := by decide +kernel
theorem dX6_advance_166 : decode cX6_advance 166 = .ok (.aload_n 0, 1) := by decide +kernel
theorem dX6_advance_167 : decode cX6_advance 167 = .ok (.getfield 180, 3) := by decide +kernel
theorem dX6_advance_170 : decode cX6_advance 170 = .ok (.lmul, 1) := by decide +kernel
theorem dX6_advance_171 : decode cX6_advance 171 = .ok (.aload_n 0, 1) := by decide +kernel
theorem dX6_advance_172 : decode cX6_advance 172 = .ok (.aload_n 0, 1) := by decide +kernel
theorem dX6_advance_173 : decode cX6_advance 173 = .ok (.getfield 162, 3) := by decide +kernel
theorem dX6_advance_176 : decode cX6_advance 176 = .ok (.invokevirtual 168, 3) := by decide +kernel
theorem dX6_advance_179 : decode cX6_advance 179 = .ok (.i2l, 1) := by decide +kernel
theorem dX6_advance_180 : decode cX6_advance 180 = .ok (.ladd, 1) := by decide +kernel
theorem dX6_advance_181 : decode cX6_advance 181 = .ok (.ldc2_w 189, 3) := by decide +kernel
theorem dX6_advance_184 : decode cX6_advance 184 = .ok (.lsub, 1) := by decide +kernel
theorem dX6_advance_185 : decode cX6_advance 185 = .ok (.goto 6, 3) := by decide +kernel
theorem dX6_advance_188 : decode cX6_advance 188 = .ok (.ldc2_w 191, 3) := by decide +kernel
theorem dX6_advance_191 : decode cX6_advance 191 = .ok (.putfield 180, 3) := by decide +kernel
theorem dX6_advance_194 : decode cX6_advance 194 = .ok (.aload_n 0, 1) := by decide +kernel
theorem dX6_advance_195 : decode cX6_advance 195 = .ok (.dup, 1) := by decide +kernel
theorem dX6_advance_196 : decode cX6_advance 196 = .ok (.getfield 162, 3) := by decide +kernel
theorem dX6_advance_199 : decode cX6_advance 199 = .ok (.iconst 1, 1) := by decide +kernel
theorem dX6_advance_200 : decode cX6_advance 200 = .ok (.iadd, 1) := by decide +kernel
theorem dX6_advance_201 : decode cX6_advance 201 = .ok (.putfield 162, 3) := by decide +kernel
theorem dX6_advance_204 : decode cX6_advance 204 = .ok (.goto (-78), 3) := by decide +kernel
theorem dX6_advance_207 : decode cX6_advance 207 = .ok (.aload_n 0, 1) := by decide +kernel
theorem dX6_advance_208 : decode cX6_advance 208 = .ok (.getfield 177, 3) := by decide +kernel
theorem dX6_advance_211 : decode cX6_advance 211 = .ok (.iconst 2, 1) := by decide +kernel
theorem dX6_advance_212 : decode cX6_advance 212 = .ok (.if_icmp .ne 69, 3) := by decide +kernel
theorem dX6_advance_215 : decode cX6_advance 215 = .ok (.aload_n 0, 1) := by decide +kernel
theorem dX6_advance_216 : decode cX6_advance 216 = .ok (.aload_n 0, 1) := by decide +kernel
theorem dX6_advance_217 : decode cX6_advance 217 = .ok (.getfield 162, 3) := by decide +kernel
theorem dX6_advance_220 : decode cX6_advance 220 = .ok (.invokevirtual 168, 3) := by decide +kernel
theorem dX6_advance_223 : decode cX6_advance 223 = .ok (.invokestatic 174, 3) := by decide +kernel
theorem dX6_advance_226 : decode cX6_advance 226 = .ok (.ifCond .eq 55, 3) := by decide +kernel
theorem dX6_advance_229 : decode cX6_advance 229 = .ok (.aload_n 0, 1) := by decide +kernel
theorem dX6_advance_230 : decode cX6_advance 230 = .ok (.aload_n 0, 1) := by decide +kernel
theorem dX6_advance_231 : decode cX6_advance 231 = .ok (.getfield 184, 3) := by decide +kernel
theorem dX6_advance_234 : decode cX6_advance 234 = .ok (.sipush 999, 3) := by decide +kernel
theorem dX6_advance_237 : decode cX6_advance 237 = .ok (.if_icmp .le 9, 3) := by decide +kernel
theorem dX6_advance_240 : decode cX6_advance 240 = .ok (.sipush 10000, 3) := by decide +kernel
theorem dX6_advance_243 : decode cX6_advance 243 = .ok (.goto 22, 3) := by decide +kernel
theorem dX6_advance_246 : decode cX6_advance 246 = .ok (.bipush 10, 2) := by decide +kernel
theorem dX6_advance_248 : decode cX6_advance 248 = .ok (.aload_n 0, 1) := by decide +kernel
theorem dX6_advance_249 : decode cX6_advance 249 = .ok (.getfield 184, 3) := by decide +kernel
theorem dX6_advance_252 : decode cX6_advance 252 = .ok (.imul, 1) := by decide +kernel
theorem dX6_advance_253 : decode cX6_advance 253 = .ok (.aload_n 0, 1) := by decide +kernel
theorem dX6_advance_254 : decode cX6_advance 254 = .ok (.aload_n 0, 1) := by decide +kernel
theorem dX6_advance_255 : decode cX6_advance 255 = .ok (.getfield 162, 3) := by decide +kernel
theorem dX6_advance_258 : decode cX6_advance 258 = .ok (.invokevirtual 168, 3) := by decide +kernel
theorem dX6_advance_261 : decode cX6_advance 261 = .ok (.iadd, 1) := by decide +kernel
theorem dX6_advance_262 : decode cX6_advance 262 = .ok (.bipush 48, 2) := by decide +kernel
theorem dX6_advance_264 : decode cX6_advance 264 = .ok (.isub, 1) := by decide +kernel
theorem dX6_advance_265 : decode cX6_advance 265 = .ok (.putfield 184, 3) := by decide +kernel
theorem dX6_advance_268 : decode cX6_advance 268 = .ok (.aload_n 0, 1) := by decide +kernel
theorem dX6_advance_269 : decode cX6_advance 269 = .ok (.dup, 1) := by decide +kernel
theorem dX6_advance_270 : decode cX6_advance 270 = .ok (.getfield 162, 3) := by decide +kernel
theorem dX6_advance_273 : decode cX6_advance 273 = .ok (.iconst 1, 1) := by decide +kernel
theorem dX6_advance_274 : decode cX6_advance 274 = .ok (.iadd, 1) := by decide +kernel
theorem dX6_advance_275 : decode cX6_advance 275 = .ok (.putfield 162, 3) := by decide +kernel
theorem dX6_advance_278 : decode cX6_advance 278 = .ok (.goto (-71), 3) := by decide +kernel
theorem dX6_advance_281 : decode cX6_advance 281 = .ok (.return_, 1) := by decide +kernel
theorem dX6_isWord_0 : decode cX6_isWord 0 = .ok (.aload_n 0, 1) := by decide +kernel
theorem dX6_isWord_1 : decode cX6_isWord 1 = .ok (.getfield 177, 3) := by decide +kernel
theorem dX6_isWord_4 : decode cX6_isWord 4 = .ok (.iconst 1, 1) := by decide +kernel
theorem dX6_isWord_5 : decode cX6_isWord 5 = .ok (.if_icmp .ne 16, 3) := by decide +kernel
theorem dX6_isWord_8 : decode cX6_isWord 8 = .ok (.aload_n 0, 1) := by decide +kernel
theorem dX6_isWord_9 : decode cX6_isWord 9 = .ok (.getfield 180, 3) := by decide +kernel
theorem dX6_isWord_12 : decode cX6_isWord 12 = .ok (.lload_n 1, 1) := by decide +kernel
theorem dX6_isWord_13 : decode cX6_isWord 13 = .ok (.lcmp, 1) := by decide +kernel
theorem dX6_isWord_14 : decode cX6_isWord 14 = .ok (.ifCond .ne 7, 3) := by decide +kernel
theorem dX6_isWord_17 : decode cX6_isWord 17 = .ok (.iconst 1, 1) := by decide +kernel
theorem dX6_isWord_18 : decode cX6_isWord 18 = .ok (.goto 4, 3) := by decide +kernel
theorem dX6_isWord_21 : decode cX6_isWord 21 = .ok (.iconst 0, 1) := by decide +kernel
theorem dX6_isWord_22 : decode cX6_isWord 22 = .ok (.ireturn, 1) := by decide +kernel
theorem dX6_kindHere_0 : decode cX6_kindHere 0 = .ok (.aload_n 0, 1) := by decide +kernel
theorem dX6_kindHere_1 : decode cX6_kindHere 1 = .ok (.ldc2_w 193, 3) := by decide +kernel
theorem dX6_kindHere_4 : decode cX6_kindHere 4 = .ok (.invokevirtual 195, 3) := by decide +kernel
theorem dX6_kindHere_7 : decode cX6_kindHere 7 = .ok (.ifCond .eq 7, 3) := by decide +kernel
theorem dX6_kindHere_10 : decode cX6_kindHere 10 = .ok (.iconst 0, 1) := by decide +kernel
theorem dX6_kindHere_11 : decode cX6_kindHere 11 = .ok (.goto 74, 3) := by decide +kernel
theorem dX6_kindHere_14 : decode cX6_kindHere 14 = .ok (.aload_n 0, 1) := by decide +kernel
theorem dX6_kindHere_15 : decode cX6_kindHere 15 = .ok (.ldc2_w 199, 3) := by decide +kernel
theorem dX6_kindHere_18 : decode cX6_kindHere 18 = .ok (.invokevirtual 195, 3) := by decide +kernel
theorem dX6_kindHere_21 : decode cX6_kindHere 21 = .ok (.ifCond .eq 7, 3) := by decide +kernel
theorem dX6_kindHere_24 : decode cX6_kindHere 24 = .ok (.iconst 1, 1) := by decide +kernel
theorem dX6_kindHere_25 : decode cX6_kindHere 25 = .ok (.goto 60, 3) := by decide +kernel
theorem dX6_kindHere_28 : decode cX6_kindHere 28 = .ok (.aload_n 0, 1) := by decide +kernel
theorem dX6_kindHere_29 : decode cX6_kindHere 29 = .ok (.ldc2_w 201, 3) := by decide +kernel
theorem dX6_kindHere_32 : decode cX6_kindHere 32 = .ok (.invokevirtual 195, 3) := by decide +kernel
theorem dX6_kindHere_35 : decode cX6_kindHere 35 = .ok (.ifCond .eq 7, 3) := by decide +kernel
theorem dX6_kindHere_38 : decode cX6_kindHere 38 = .ok (.iconst 2, 1) := by decide +kernel
theorem dX6_kindHere_39 : decode cX6_kindHere 39 = .ok (.goto 46, 3) := by decide +kernel
theorem dX6_kindHere_42 : decode cX6_kindHere 42 = .ok (.aload_n 0, 1) := by decide +kernel
theorem dX6_kindHere_43 : decode cX6_kindHere 43 = .ok (.ldc2_w 203, 3) := by decide +kernel
theorem dX6_kindHere_46 : decode cX6_kindHere 46 = .ok (.invokevirtual 195, 3) := by decide +kernel
theorem dX6_kindHere_49 : decode cX6_kindHere 49 = .ok (.ifCond .eq 7, 3) := by decide +kernel
theorem dX6_kindHere_52 : decode cX6_kindHere 52 = .ok (.iconst 3, 1) := by decide +kernel
theorem dX6_kindHere_53 : decode cX6_kindHere 53 = .ok (.goto 32, 3) := by decide +kernel
theorem dX6_kindHere_56 : decode cX6_kindHere 56 = .ok (.aload_n 0, 1) := by decide +kernel
theorem dX6_kindHere_57 : decode cX6_kindHere 57 = .ok (.ldc2_w 205, 3) := by decide +kernel
theorem dX6_kindHere_60 : decode cX6_kindHere 60 = .ok (.invokevirtual 195, 3) := by decide +kernel
theorem dX6_kindHere_63 : decode cX6_kindHere 63 = .ok (.ifCond .eq 7, 3) := by decide +kernel
theorem dX6_kindHere_66 : decode cX6_kindHere 66 = .ok (.iconst 4, 1) := by decide +kernel
theorem dX6_kindHere_67 : decode cX6_kindHere 67 = .ok (.goto 18, 3) := by decide +kernel
theorem dX6_kindHere_70 : decode cX6_kindHere 70 = .ok (.aload_n 0, 1) := by decide +kernel
theorem dX6_kindHere_71 : decode cX6_kindHere 71 = .ok (.ldc2_w 207, 3) := by decide +kernel
theorem dX6_kindHere_74 : decode cX6_kindHere 74 = .ok (.invokevirtual 195, 3) := by decide +kernel
theorem dX6_kindHere_77 : decode cX6_kindHere 77 = .ok (.ifCond .eq 7, 3) := by decide +kernel
theorem dX6_kindHere_80 : decode cX6_kindHere 80 = .ok (.iconst 5, 1) := by decide +kernel
theorem dX6_kindHere_81 : decode cX6_kindHere 81 = .ok (.goto 4, 3) := by decide +kernel
theorem dX6_kindHere_84 : decode cX6_kindHere 84 = .ok (.iconst (-1), 1) := by decide +kernel
theorem dX6_kindHere_85 : decode cX6_kindHere 85 = .ok (.ireturn, 1) := by decide +kernel
theorem dX6_wantNumber_0 : decode cX6_wantNumber 0 = .ok (.aload_n 0, 1) := by decide +kernel
theorem dX6_wantNumber_1 : decode cX6_wantNumber 1 = .ok (.getfield 184, 3) := by decide +kernel
theorem dX6_wantNumber_4 : decode cX6_wantNumber 4 = .ok (.istore_n 3, 1) := by decide +kernel
theorem dX6_wantNumber_5 : decode cX6_wantNumber 5 = .ok (.aload_n 0, 1) := by decide +kernel
theorem dX6_wantNumber_6 : decode cX6_wantNumber 6 = .ok (.aload_n 0, 1) := by decide +kernel
theorem dX6_wantNumber_7 : decode cX6_wantNumber 7 = .ok (.getfield 209, 3) := by decide +kernel
theorem dX6_wantNumber_10 : decode cX6_wantNumber 10 = .ok (.ifCond .eq 24, 3) := by decide +kernel
theorem dX6_wantNumber_13 : decode cX6_wantNumber 13 = .ok (.aload_n 0, 1) := by decide +kernel
theorem dX6_wantNumber_14 : decode cX6_wantNumber 14 = .ok (.getfield 177, 3) := by decide +kernel
theorem dX6_wantNumber_17 : decode cX6_wantNumber 17 = .ok (.iconst 2, 1) := by decide +kernel
theorem dX6_wantNumber_18 : decode cX6_wantNumber 18 = .ok (.if_icmp .ne 16, 3) := by decide +kernel
theorem dX6_wantNumber_21 : decode cX6_wantNumber 21 = .ok (.iload_n 3, 1) := by decide +kernel
theorem dX6_wantNumber_22 : decode cX6_wantNumber 22 = .ok (.iload_n 1, 1) := by decide +kernel
theorem dX6_wantNumber_23 : decode cX6_wantNumber 23 = .ok (.iload_n 2, 1) := by decide +kernel
theorem dX6_wantNumber_24 : decode cX6_wantNumber 24 = .ok (.invokestatic 49, 3) := by decide +kernel
theorem dX6_wantNumber_27 : decode cX6_wantNumber 27 = .ok (.ifCond .eq 7, 3) := by decide +kernel
theorem dX6_wantNumber_30 : decode cX6_wantNumber 30 = .ok (.iconst 1, 1) := by decide +kernel
theorem dX6_wantNumber_31 : decode cX6_wantNumber 31 = .ok (.goto 4, 3) := by decide +kernel
theorem dX6_wantNumber_34 : decode cX6_wantNumber 34 = .ok (.iconst 0, 1) := by decide +kernel
theorem dX6_wantNumber_35 : decode cX6_wantNumber 35 = .ok (.putfield 209, 3) := by decide +kernel
theorem dX6_wantNumber_38 : decode cX6_wantNumber 38 = .ok (.aload_n 0, 1) := by decide +kernel
theorem dX6_wantNumber_39 : decode cX6_wantNumber 39 = .ok (.getfield 209, 3) := by decide +kernel
theorem dX6_wantNumber_42 : decode cX6_wantNumber 42 = .ok (.ifCond .eq 7, 3) := by decide +kernel
theorem dX6_wantNumber_45 : decode cX6_wantNumber 45 = .ok (.aload_n 0, 1) := by decide +kernel
theorem dX6_wantNumber_46 : decode cX6_wantNumber 46 = .ok (.invokevirtual 213, 3) := by decide +kernel
theorem dX6_wantNumber_49 : decode cX6_wantNumber 49 = .ok (.iload_n 3, 1) := by decide +kernel
theorem dX6_wantNumber_50 : decode cX6_wantNumber 50 = .ok (.ireturn, 1) := by decide +kernel
theorem dX6_mayWant_0 : decode cX6_mayWant 0 = .ok (.aload_n 0, 1) := by decide +kernel
theorem dX6_mayWant_1 : decode cX6_mayWant 1 = .ok (.getfield 209, 3) := by decide +kernel
theorem dX6_mayWant_4 : decode cX6_mayWant 4 = .ok (.ifCond .eq 11, 3) := by decide +kernel
theorem dX6_mayWant_7 : decode cX6_mayWant 7 = .ok (.aload_n 0, 1) := by decide +kernel
theorem dX6_mayWant_8 : decode cX6_mayWant 8 = .ok (.lload_n 1, 1) := by decide +kernel
theorem dX6_mayWant_9 : decode cX6_mayWant 9 = .ok (.invokevirtual 195, 3) := by decide +kernel
theorem dX6_mayWant_12 : decode cX6_mayWant 12 = .ok (.ifCond .ne 6, 3) := by decide +kernel
theorem dX6_mayWant_15 : decode cX6_mayWant 15 = .ok (.iload 5, 2) := by decide +kernel
theorem dX6_mayWant_17 : decode cX6_mayWant 17 = .ok (.ireturn, 1) := by decide +kernel
theorem dX6_mayWant_18 : decode cX6_mayWant 18 = .ok (.aload_n 0, 1) := by decide +kernel
theorem dX6_mayWant_19 : decode cX6_mayWant 19 = .ok (.invokevirtual 213, 3) := by decide +kernel
theorem dX6_mayWant_22 : decode cX6_mayWant 22 = .ok (.aload_n 0, 1) := by decide +kernel
theorem dX6_mayWant_23 : decode cX6_mayWant 23 = .ok (.iload_n 3, 1) := by decide +kernel
theorem dX6_mayWant_24 : decode cX6_mayWant 24 = .ok (.iload 4, 2) := by decide +kernel
theorem dX6_mayWant_26 : decode cX6_mayWant 26 = .ok (.invokevirtual 216, 3) := by decide +kernel
theorem dX6_mayWant_29 : decode cX6_mayWant 29 = .ok (.ireturn, 1) := by decide +kernel
theorem dX6_may_0 : decode cX6_may 0 = .ok (.aload_n 0, 1) := by decide +kernel
theorem dX6_may_1 : decode cX6_may 1 = .ok (.getfield 209, 3) := by decide +kernel
theorem dX6_may_4 : decode cX6_may 4 = .ok (.ifCond .eq 15, 3) := by decide +kernel
theorem dX6_may_7 : decode cX6_may 7 = .ok (.aload_n 0, 1) := by decide +kernel
theorem dX6_may_8 : decode cX6_may 8 = .ok (.lload_n 1, 1) := by decide +kernel
theorem dX6_may_9 : decode cX6_may 9 = .ok (.invokevirtual 195, 3) := by decide +kernel
theorem dX6_may_12 : decode cX6_may 12 = .ok (.ifCond .eq 7, 3) := by decide +kernel
theorem dX6_may_15 : decode cX6_may 15 = .ok (.iconst 1, 1) := by decide +kernel
theorem dX6_may_16 : decode cX6_may 16 = .ok (.goto 4, 3) := by decide +kernel
theorem dX6_may_19 : decode cX6_may 19 = .ok (.iconst 0, 1) := by decide +kernel
theorem dX6_may_20 : decode cX6_may 20 = .ok (.istore_n 3, 1) := by decide +kernel
theorem dX6_may_21 : decode cX6_may 21 = .ok (.iload_n 3, 1) := by decide +kernel
theorem dX6_may_22 : decode cX6_may 22 = .ok (.ifCond .eq 7, 3) := by decide +kernel
theorem dX6_may_25 : decode cX6_may 25 = .ok (.aload_n 0, 1) := by decide +kernel
theorem dX6_may_26 : decode cX6_may 26 = .ok (.invokevirtual 213, 3) := by decide +kernel
theorem dX6_may_29 : decode cX6_may 29 = .ok (.iload_n 3, 1) := by decide +kernel
theorem dX6_may_30 : decode cX6_may 30 = .ok (.ireturn, 1) := by decide +kernel
theorem dX6_wantOne_0 : decode cX6_wantOne 0 = .ok (.aload_n 0, 1) := by decide +kernel
theorem dX6_wantOne_1 : decode cX6_wantOne 1 = .ok (.aload_n 0, 1) := by decide +kernel
theorem dX6_wantOne_2 : decode cX6_wantOne 2 = .ok (.getfield 7, 3) := by decide +kernel
theorem dX6_wantOne_5 : decode cX6_wantOne 5 = .ok (.iconst 1, 1) := by decide +kernel
theorem dX6_wantOne_6 : decode cX6_wantOne 6 = .ok (.iaload, 1) := by decide +kernel
theorem dX6_wantOne_7 : decode cX6_wantOne 7 = .ok (.bipush 10, 2) := by decide +kernel
theorem dX6_wantOne_9 : decode cX6_wantOne 9 = .ok (.if_icmp .ge 7, 3) := by decide +kernel
theorem dX6_wantOne_12 : decode cX6_wantOne 12 = .ok (.iconst 1, 1) := by decide +kernel
theorem dX6_wantOne_13 : decode cX6_wantOne 13 = .ok (.goto 4, 3) := by decide +kernel
theorem dX6_wantOne_16 : decode cX6_wantOne 16 = .ok (.iconst 0, 1) := by decide +kernel
theorem dX6_wantOne_17 : decode cX6_wantOne 17 = .ok (.putfield 209, 3) := by decide +kernel
theorem dX6_wantOne_20 : decode cX6_wantOne 20 = .ok (.aload_n 0, 1) := by decide +kernel
theorem dX6_wantOne_21 : decode cX6_wantOne 21 = .ok (.getfield 209, 3) := by decide +kernel
theorem dX6_wantOne_24 : decode cX6_wantOne 24 = .ok (.ifCond .ne 4, 3) := by decide +kernel
theorem dX6_wantOne_27 : decode cX6_wantOne 27 = .ok (.return_, 1) := by decide +kernel
theorem dX6_wantOne_28 : decode cX6_wantOne 28 = .ok (.aload_n 0, 1) := by decide +kernel
theorem dX6_wantOne_29 : decode cX6_wantOne 29 = .ok (.invokevirtual 213, 3) := by decide +kernel
theorem dX6_wantOne_32 : decode cX6_wantOne 32 = .ok (.aload_n 0, 1) := by decide +kernel
theorem dX6_wantOne_33 : decode cX6_wantOne 33 = .ok (.iconst 0, 1) := by decide +kernel
theorem dX6_wantOne_34 : decode cX6_wantOne 34 = .ok (.iconst 3, 1) := by decide +kernel
theorem dX6_wantOne_35 : decode cX6_wantOne 35 = .ok (.invokevirtual 216, 3) := by decide +kernel
theorem dX6_wantOne_38 : decode cX6_wantOne 38 = .ok (.istore_n 2, 1) := by decide +kernel
theorem dX6_wantOne_39 : decode cX6_wantOne 39 = .ok (.aload_n 0, 1) := by decide +kernel
theorem dX6_wantOne_40 : decode cX6_wantOne 40 = .ok (.ldc2_w 219, 3) := by decide +kernel
theorem dX6_wantOne_43 : decode cX6_wantOne 43 = .ok (.iconst 0, 1) := by decide +kernel
theorem dX6_wantOne_44 : decode cX6_wantOne 44 = .ok (.bipush 99, 2) := by decide +kernel
theorem dX6_wantOne_46 : decode cX6_wantOne 46 = .ok (.bipush 50, 2) := by decide +kernel
theorem dX6_wantOne_48 : decode cX6_wantOne 48 = .ok (.invokevirtual 221, 3) := by decide +kernel
theorem dX6_wantOne_51 : decode cX6_wantOne 51 = .ok (.istore_n 3, 1) := by decide +kernel
theorem dX6_wantOne_52 : decode cX6_wantOne 52 = .ok (.aload_n 0, 1) := by decide +kernel
theorem dX6_wantOne_53 : decode cX6_wantOne 53 = .ok (.ldc2_w 225, 3) := by decide +kernel
theorem dX6_wantOne_56 : decode cX6_wantOne 56 = .ok (.invokevirtual 227, 3) := by decide +kernel
theorem dX6_wantOne_59 : decode cX6_wantOne 59 = .ok (.ifCond .eq 7, 3) := by decide +kernel
theorem dX6_wantOne_62 : decode cX6_wantOne 62 = .ok (.iconst 0, 1) := by decide +kernel
theorem dX6_wantOne_63 : decode cX6_wantOne 63 = .ok (.goto 4, 3) := by decide +kernel
theorem dX6_wantOne_66 : decode cX6_wantOne 66 = .ok (.iconst 1, 1) := by decide +kernel
theorem dX6_wantOne_67 : decode cX6_wantOne 67 = .ok (.istore 4, 2) := by decide +kernel
theorem dX6_wantOne_69 : decode cX6_wantOne 69 = .ok (.aload_n 0, 1) := by decide +kernel
theorem dX6_wantOne_70 : decode cX6_wantOne 70 = .ok (.getfield 209, 3) := by decide +kernel
theorem dX6_wantOne_73 : decode cX6_wantOne 73 = .ok (.ifCond .eq 12, 3) := by decide +kernel
theorem dX6_wantOne_76 : decode cX6_wantOne 76 = .ok (.aload_n 0, 1) := by decide +kernel
theorem dX6_wantOne_77 : decode cX6_wantOne 77 = .ok (.iload_n 1, 1) := by decide +kernel
theorem dX6_wantOne_78 : decode cX6_wantOne 78 = .ok (.iload_n 2, 1) := by decide +kernel
theorem dX6_wantOne_79 : decode cX6_wantOne 79 = .ok (.iload_n 3, 1) := by decide +kernel
theorem dX6_wantOne_80 : decode cX6_wantOne 80 = .ok (.iload 4, 2) := by decide +kernel
theorem dX6_wantOne_82 : decode cX6_wantOne 82 = .ok (.invokevirtual 111, 3) := by decide +kernel
theorem dX6_wantOne_85 : decode cX6_wantOne 85 = .ok (.return_, 1) := by decide +kernel
theorem dX6_wantMast_0 : decode cX6_wantMast 0 = .ok (.aload_n 0, 1) := by decide +kernel
theorem dX6_wantMast_1 : decode cX6_wantMast 1 = .ok (.iconst 0, 1) := by decide +kernel
theorem dX6_wantMast_2 : decode cX6_wantMast 2 = .ok (.iconst 3, 1) := by decide +kernel
theorem dX6_wantMast_3 : decode cX6_wantMast 3 = .ok (.invokevirtual 216, 3) := by decide +kernel
theorem dX6_wantMast_6 : decode cX6_wantMast 6 = .ok (.istore_n 1, 1) := by decide +kernel
theorem dX6_wantMast_7 : decode cX6_wantMast 7 = .ok (.aload_n 0, 1) := by decide +kernel
theorem dX6_wantMast_8 : decode cX6_wantMast 8 = .ok (.getfield 209, 3) := by decide +kernel
theorem dX6_wantMast_11 : decode cX6_wantMast 11 = .ok (.ifCond .eq 14, 3) := by decide +kernel
theorem dX6_wantMast_14 : decode cX6_wantMast 14 = .ok (.aload_n 0, 1) := by decide +kernel
theorem dX6_wantMast_15 : decode cX6_wantMast 15 = .ok (.iconst 0, 1) := by decide +kernel
theorem dX6_wantMast_16 : decode cX6_wantMast 16 = .ok (.sipush 999, 3) := by decide +kernel
theorem dX6_wantMast_19 : decode cX6_wantMast 19 = .ok (.invokevirtual 216, 3) := by decide +kernel
theorem dX6_wantMast_22 : decode cX6_wantMast 22 = .ok (.goto 4, 3) := by decide +kernel
theorem dX6_wantMast_25 : decode cX6_wantMast 25 = .ok (.iconst 0, 1) := by decide +kernel
theorem dX6_wantMast_26 : decode cX6_wantMast 26 = .ok (.istore_n 2, 1) := by decide +kernel
theorem dX6_wantMast_27 : decode cX6_wantMast 27 = .ok (.aload_n 0, 1) := by decide +kernel
theorem dX6_wantMast_28 : decode cX6_wantMast 28 = .ok (.ldc2_w 230, 3) := by decide +kernel
theorem dX6_wantMast_31 : decode cX6_wantMast 31 = .ok (.invokevirtual 227, 3) := by decide +kernel
theorem dX6_wantMast_34 : decode cX6_wantMast 34 = .ok (.ifCond .eq 7, 3) := by decide +kernel
theorem dX6_wantMast_37 : decode cX6_wantMast 37 = .ok (.iconst 0, 1) := by decide +kernel
theorem dX6_wantMast_38 : decode cX6_wantMast 38 = .ok (.goto 4, 3) := by decide +kernel
theorem dX6_wantMast_41 : decode cX6_wantMast 41 = .ok (.iconst 1, 1) := by decide +kernel
theorem dX6_wantMast_42 : decode cX6_wantMast 42 = .ok (.istore_n 3, 1) := by decide +kernel
theorem dX6_wantMast_43 : decode cX6_wantMast 43 = .ok (.aload_n 0, 1) := by decide +kernel
theorem dX6_wantMast_44 : decode cX6_wantMast 44 = .ok (.getfield 209, 3) := by decide +kernel
theorem dX6_wantMast_47 : decode cX6_wantMast 47 = .ok (.ifCond .eq 17, 3) := by decide +kernel
theorem dX6_wantMast_50 : decode cX6_wantMast 50 = .ok (.aload_n 0, 1) := by decide +kernel
theorem dX6_wantMast_51 : decode cX6_wantMast 51 = .ok (.iload_n 1, 1) := by decide +kernel
theorem dX6_wantMast_52 : decode cX6_wantMast 52 = .ok (.iconst 0, 1) := by decide +kernel
theorem dX6_wantMast_53 : decode cX6_wantMast 53 = .ok (.iload_n 2, 1) := by decide +kernel
theorem dX6_wantMast_54 : decode cX6_wantMast 54 = .ok (.invokevirtual 44, 3) := by decide +kernel
theorem dX6_wantMast_57 : decode cX6_wantMast 57 = .ok (.aload_n 0, 1) := by decide +kernel
theorem dX6_wantMast_58 : decode cX6_wantMast 58 = .ok (.iload_n 1, 1) := by decide +kernel
theorem dX6_wantMast_59 : decode cX6_wantMast 59 = .ok (.iconst 1, 1) := by decide +kernel
theorem dX6_wantMast_60 : decode cX6_wantMast 60 = .ok (.iload_n 3, 1) := by decide +kernel
theorem dX6_wantMast_61 : decode cX6_wantMast 61 = .ok (.invokevirtual 44, 3) := by decide +kernel
theorem dX6_wantMast_64 : decode cX6_wantMast 64 = .ok (.return_, 1) := by decide +kernel
theorem dX6_wantWind_0 : decode cX6_wantWind 0 = .ok (.aload_n 0, 1) := by decide +kernel
theorem dX6_wantWind_1 : decode cX6_wantWind 1 = .ok (.iconst 0, 1) := by decide +kernel
theorem dX6_wantWind_2 : decode cX6_wantWind 2 = .ok (.bipush 11, 2) := by decide +kernel
theorem dX6_wantWind_4 : decode cX6_wantWind 4 = .ok (.invokevirtual 216, 3) := by decide +kernel
theorem dX6_wantWind_7 : decode cX6_wantWind 7 = .ok (.istore_n 1, 1) := by decide +kernel
theorem dX6_wantWind_8 : decode cX6_wantWind 8 = .ok (.aload_n 0, 1) := by decide +kernel
theorem dX6_wantWind_9 : decode cX6_wantWind 9 = .ok (.getfield 209, 3) := by decide +kernel
theorem dX6_wantWind_12 : decode cX6_wantWind 12 = .ok (.ifCond .eq 13, 3) := by decide +kernel
theorem dX6_wantWind_15 : decode cX6_wantWind 15 = .ok (.aload_n 0, 1) := by decide +kernel
theorem dX6_wantWind_16 : decode cX6_wantWind 16 = .ok (.iconst 0, 1) := by decide +kernel
theorem dX6_wantWind_17 : decode cX6_wantWind 17 = .ok (.bipush 99, 2) := by decide +kernel
theorem dX6_wantWind_19 : decode cX6_wantWind 19 = .ok (.invokevirtual 216, 3) := by decide +kernel
theorem dX6_wantWind_22 : decode cX6_wantWind 22 = .ok (.goto 4, 3) := by decide +kernel
theorem dX6_wantWind_25 : decode cX6_wantWind 25 = .ok (.iconst 0, 1) := by decide +kernel
theorem dX6_wantWind_26 : decode cX6_wantWind 26 = .ok (.istore_n 2, 1) := by decide +kernel
theorem dX6_wantWind_27 : decode cX6_wantWind 27 = .ok (.aload_n 0, 1) := by decide +kernel
theorem dX6_wantWind_28 : decode cX6_wantWind 28 = .ok (.getfield 209, 3) := by decide +kernel
theorem dX6_wantWind_31 : decode cX6_wantWind 31 = .ok (.ifCond .eq 12, 3) := by decide +kernel
theorem dX6_wantWind_34 : decode cX6_wantWind 34 = .ok (.aload_n 0, 1) := by decide +kernel
theorem dX6_wantWind_35 : decode cX6_wantWind 35 = .ok (.getfield 7, 3) := by decide +kernel
theorem dX6_wantWind_38 : decode cX6_wantWind 38 = .ok (.iconst 2, 1) := by decide +kernel
theorem dX6_wantWind_39 : decode cX6_wantWind 39 = .ok (.iload_n 1, 1) := by decide +kernel
theorem dX6_wantWind_40 : decode cX6_wantWind 40 = .ok (.iadd, 1) := by decide +kernel
theorem dX6_wantWind_41 : decode cX6_wantWind 41 = .ok (.iload_n 2, 1) := by decide +kernel
theorem dX6_wantWind_42 : decode cX6_wantWind 42 = .ok (.iastore, 1) := by decide +kernel
theorem dX6_wantWind_43 : decode cX6_wantWind 43 = .ok (.return_, 1) := by decide +kernel
theorem dX6_wantItem_0 : decode cX6_wantItem 0 = .ok (.aload_n 0, 1) := by decide +kernel
theorem dX6_wantItem_1 : decode cX6_wantItem 1 = .ok (.invokevirtual 232, 3) := by decide +kernel
theorem dX6_wantItem_4 : decode cX6_wantItem 4 = .ok (.ifCond .lt 14, 3) := by decide +kernel
theorem dX6_wantItem_7 : decode cX6_wantItem 7 = .ok (.aload_n 0, 1) := by decide +kernel
theorem dX6_wantItem_8 : decode cX6_wantItem 8 = .ok (.aload_n 0, 1) := by decide +kernel
theorem dX6_wantItem_9 : decode cX6_wantItem 9 = .ok (.invokevirtual 232, 3) := by decide +kernel
theorem dX6_wantItem_12 : decode cX6_wantItem 12 = .ok (.invokevirtual 235, 3) := by decide +kernel
theorem dX6_wantItem_15 : decode cX6_wantItem 15 = .ok (.goto 81, 3) := by decide +kernel
theorem dX6_wantItem_18 : decode cX6_wantItem 18 = .ok (.aload_n 0, 1) := by decide +kernel
theorem dX6_wantItem_19 : decode cX6_wantItem 19 = .ok (.ldc2_w 238, 3) := by decide +kernel
theorem dX6_wantItem_22 : decode cX6_wantItem 22 = .ok (.invokevirtual 227, 3) := by decide +kernel
theorem dX6_wantItem_25 : decode cX6_wantItem 25 = .ok (.ifCond .eq 10, 3) := by decide +kernel
theorem dX6_wantItem_28 : decode cX6_wantItem 28 = .ok (.aload_n 0, 1) := by decide +kernel
theorem dX6_wantItem_29 : decode cX6_wantItem 29 = .ok (.invokevirtual 240, 3) := by decide +kernel
theorem dX6_wantItem_32 : decode cX6_wantItem 32 = .ok (.goto 64, 3) := by decide +kernel
theorem dX6_wantItem_35 : decode cX6_wantItem 35 = .ok (.aload_n 0, 1) := by decide +kernel
theorem dX6_wantItem_36 : decode cX6_wantItem 36 = .ok (.ldc2_w 243, 3) := by decide +kernel
theorem dX6_wantItem_39 : decode cX6_wantItem 39 = .ok (.invokevirtual 227, 3) := by decide +kernel
theorem dX6_wantItem_42 : decode cX6_wantItem 42 = .ok (.ifCond .eq 10, 3) := by decide +kernel
theorem dX6_wantItem_45 : decode cX6_wantItem 45 = .ok (.aload_n 0, 1) := by decide +kernel
theorem dX6_wantItem_46 : decode cX6_wantItem 46 = .ok (.invokevirtual 245, 3) := by decide +kernel
theorem dX6_wantItem_49 : decode cX6_wantItem 49 = .ok (.goto 47, 3) := by decide +kernel
theorem dX6_wantItem_52 : decode cX6_wantItem 52 = .ok (.aload_n 0, 1) := by decide +kernel
theorem dX6_wantItem_53 : decode cX6_wantItem 53 = .ok (.ldc2_w 248, 3) := by decide +kernel
theorem dX6_wantItem_56 : decode cX6_wantItem 56 = .ok (.invokevirtual 227, 3) := by decide +kernel
theorem dX6_wantItem_59 : decode cX6_wantItem 59 = .ok (.ifCond .eq 32, 3) := by decide +kernel
theorem dX6_wantItem_62 : decode cX6_wantItem 62 = .ok (.aload_n 0, 1) := by decide +kernel
theorem dX6_wantItem_63 : decode cX6_wantItem 63 = .ok (.iconst 0, 1) := by decide +kernel
theorem dX6_wantItem_64 : decode cX6_wantItem 64 = .ok (.aload_n 0, 1) := by decide +kernel
theorem dX6_wantItem_65 : decode cX6_wantItem 65 = .ok (.getfield 7, 3) := by decide +kernel
theorem dX6_wantItem_68 : decode cX6_wantItem 68 = .ok (.iconst 1, 1) := by decide +kernel
theorem dX6_wantItem_69 : decode cX6_wantItem 69 = .ok (.iaload, 1) := by decide +kernel
theorem dX6_wantItem_70 : decode cX6_wantItem 70 = .ok (.iconst 1, 1) := by decide +kernel
theorem dX6_wantItem_71 : decode cX6_wantItem 71 = .ok (.isub, 1) := by decide +kernel
theorem dX6_wantItem_72 : decode cX6_wantItem 72 = .ok (.invokevirtual 216, 3) := by decide +kernel
theorem dX6_wantItem_75 : decode cX6_wantItem 75 = .ok (.istore_n 1, 1) := by decide +kernel
theorem dX6_wantItem_76 : decode cX6_wantItem 76 = .ok (.aload_n 0, 1) := by decide +kernel
theorem dX6_wantItem_77 : decode cX6_wantItem 77 = .ok (.getfield 209, 3) := by decide +kernel
theorem dX6_wantItem_80 : decode cX6_wantItem 80 = .ok (.ifCond .eq 8, 3) := by decide +kernel
theorem dX6_wantItem_83 : decode cX6_wantItem 83 = .ok (.aload_n 0, 1) := by decide +kernel
theorem dX6_wantItem_84 : decode cX6_wantItem 84 = .ok (.iload_n 1, 1) := by decide +kernel
theorem dX6_wantItem_85 : decode cX6_wantItem 85 = .ok (.invokevirtual 132, 3) := by decide +kernel
theorem dX6_wantItem_88 : decode cX6_wantItem 88 = .ok (.goto 8, 3) := by decide +kernel
theorem dX6_wantItem_91 : decode cX6_wantItem 91 = .ok (.aload_n 0, 1) := by decide +kernel
theorem dX6_wantItem_92 : decode cX6_wantItem 92 = .ok (.iconst 0, 1) := by decide +kernel
theorem dX6_wantItem_93 : decode cX6_wantItem 93 = .ok (.putfield 209, 3) := by decide +kernel
theorem dX6_wantItem_96 : decode cX6_wantItem 96 = .ok (.return_, 1) := by decide +kernel
theorem dX6_yard_0 : decode cX6_yard 0 = .ok (.aload_n 0, 1) := by decide +kernel
theorem dX6_yard_1 : decode cX6_yard 1 = .ok (.iconst 1, 1) := by decide +kernel
theorem dX6_yard_2 : decode cX6_yard 2 = .ok (.aload_n 0, 1) := by decide +kernel
theorem dX6_yard_3 : decode cX6_yard 3 = .ok (.getfield 41, 3) := by decide +kernel
theorem dX6_yard_6 : decode cX6_yard 6 = .ok (.invokevirtual 147, 3) := by decide +kernel
theorem dX6_yard_9 : decode cX6_yard 9 = .ok (.aload_n 0, 1) := by decide +kernel
theorem dX6_yard_10 : decode cX6_yard 10 = .ok (.iconst 0, 1) := by decide +kernel
theorem dX6_yard_11 : decode cX6_yard 11 = .ok (.putfield 162, 3) := by decide +kernel
theorem dX6_yard_14 : decode cX6_yard 14 = .ok (.aload_n 0, 1) := by decide +kernel
theorem dX6_yard_15 : decode cX6_yard 15 = .ok (.iconst 1, 1) := by decide +kernel
theorem dX6_yard_16 : decode cX6_yard 16 = .ok (.putfield 209, 3) := by decide +kernel
theorem dX6_yard_19 : decode cX6_yard 19 = .ok (.iconst 0, 1) := by decide +kernel
theorem dX6_yard_20 : decode cX6_yard 20 = .ok (.istore_n 1, 1) := by decide +kernel
theorem dX6_yard_21 : decode cX6_yard 21 = .ok (.iconst 1, 1) := by decide +kernel
theorem dX6_yard_22 : decode cX6_yard 22 = .ok (.istore_n 2, 1) := by decide +kernel
theorem dX6_yard_23 : decode cX6_yard 23 = .ok (.iload_n 2, 1) := by decide +kernel
theorem dX6_yard_24 : decode cX6_yard 24 = .ok (.ifCond .eq 47, 3) := by decide +kernel
theorem dX6_yard_27 : decode cX6_yard 27 = .ok (.aload_n 0, 1) := by decide +kernel
theorem dX6_yard_28 : decode cX6_yard 28 = .ok (.invokevirtual 213, 3) := by decide +kernel
theorem dX6_yard_31 : decode cX6_yard 31 = .ok (.aload_n 0, 1) := by decide +kernel
theorem dX6_yard_32 : decode cX6_yard 32 = .ok (.invokevirtual 250, 3) := by decide +kernel
theorem dX6_yard_35 : decode cX6_yard 35 = .ok (.iinc 1 1, 3) := by decide +kernel
theorem dX6_yard_38 : decode cX6_yard 38 = .ok (.aload_n 0, 1) := by decide +kernel
theorem dX6_yard_39 : decode cX6_yard 39 = .ok (.getfield 209, 3) := by decide +kernel
theorem dX6_yard_42 : decode cX6_yard 42 = .ok (.ifCond .eq 24, 3) := by decide +kernel
theorem dX6_yard_45 : decode cX6_yard 45 = .ok (.aload_n 0, 1) := by decide +kernel
theorem dX6_yard_46 : decode cX6_yard 46 = .ok (.getfield 177, 3) := by decide +kernel
theorem dX6_yard_49 : decode cX6_yard 49 = .ok (.iconst 3, 1) := by decide +kernel
theorem dX6_yard_50 : decode cX6_yard 50 = .ok (.if_icmp .ne 16, 3) := by decide +kernel
theorem dX6_yard_53 : decode cX6_yard 53 = .ok (.aload_n 0, 1) := by decide +kernel
theorem dX6_yard_54 : decode cX6_yard 54 = .ok (.getfield 184, 3) := by decide +kernel
theorem dX6_yard_57 : decode cX6_yard 57 = .ok (.bipush 59, 2) := by decide +kernel
theorem dX6_yard_59 : decode cX6_yard 59 = .ok (.if_icmp .ne 7, 3) := by decide +kernel
theorem dX6_yard_62 : decode cX6_yard 62 = .ok (.iconst 1, 1) := by decide +kernel
theorem dX6_yard_63 : decode cX6_yard 63 = .ok (.goto 4, 3) := by decide +kernel
theorem dX6_yard_66 : decode cX6_yard 66 = .ok (.iconst 0, 1) := by decide +kernel
theorem dX6_yard_67 : decode cX6_yard 67 = .ok (.istore_n 2, 1) := by decide +kernel
theorem dX6_yard_68 : decode cX6_yard 68 = .ok (.goto (-45), 3) := by decide +kernel
theorem dX6_yard_71 : decode cX6_yard 71 = .ok (.aload_n 0, 1) := by decide +kernel
theorem dX6_yard_72 : decode cX6_yard 72 = .ok (.aload_n 0, 1) := by decide +kernel
theorem dX6_yard_73 : decode cX6_yard 73 = .ok (.getfield 209, 3) := by decide +kernel
theorem dX6_yard_76 : decode cX6_yard 76 = .ok (.ifCond .eq 14, 3) := by decide +kernel
theorem dX6_yard_79 : decode cX6_yard 79 = .ok (.aload_n 0, 1) := by decide +kernel
theorem dX6_yard_80 : decode cX6_yard 80 = .ok (.getfield 177, 3) := by decide +kernel
theorem dX6_yard_83 : decode cX6_yard 83 = .ok (.ifCond .ne 7, 3) := by decide +kernel
theorem dX6_yard_86 : decode cX6_yard 86 = .ok (.iconst 1, 1) := by decide +kernel
theorem dX6_yard_87 : decode cX6_yard 87 = .ok (.goto 4, 3) := by decide +kernel
theorem dX6_yard_90 : decode cX6_yard 90 = .ok (.iconst 0, 1) := by decide +kernel
theorem dX6_yard_91 : decode cX6_yard 91 = .ok (.putfield 209, 3) := by decide +kernel
theorem dX6_yard_94 : decode cX6_yard 94 = .ok (.aload_n 0, 1) := by decide +kernel
theorem dX6_yard_95 : decode cX6_yard 95 = .ok (.iconst 0, 1) := by decide +kernel
theorem dX6_yard_96 : decode cX6_yard 96 = .ok (.putfield 158, 3) := by decide +kernel
theorem dX6_yard_99 : decode cX6_yard 99 = .ok (.aload_n 0, 1) := by decide +kernel
theorem dX6_yard_100 : decode cX6_yard 100 = .ok (.getfield 209, 3) := by decide +kernel
theorem dX6_yard_103 : decode cX6_yard 103 = .ok (.ifCond .ne 19, 3) := by decide +kernel
theorem dX6_yard_106 : decode cX6_yard 106 = .ok (.aload_n 0, 1) := by decide +kernel
theorem dX6_yard_107 : decode cX6_yard 107 = .ok (.iconst 0, 1) := by decide +kernel
theorem dX6_yard_108 : decode cX6_yard 108 = .ok (.aload_n 0, 1) := by decide +kernel
theorem dX6_yard_109 : decode cX6_yard 109 = .ok (.getfield 41, 3) := by decide +kernel
theorem dX6_yard_112 : decode cX6_yard 112 = .ok (.invokevirtual 147, 3) := by decide +kernel
theorem dX6_yard_115 : decode cX6_yard 115 = .ok (.iconst (-1), 1) := by decide +kernel
theorem dX6_yard_116 : decode cX6_yard 116 = .ok (.aload_n 0, 1) := by decide +kernel
theorem dX6_yard_117 : decode cX6_yard 117 = .ok (.getfield 165, 3) := by decide +kernel
theorem dX6_yard_120 : decode cX6_yard 120 = .ok (.isub, 1) := by decide +kernel
theorem dX6_yard_121 : decode cX6_yard 121 = .ok (.ireturn, 1) := by decide +kernel
theorem dX6_yard_122 : decode cX6_yard 122 = .ok (.iload_n 1, 1) := by decide +kernel
theorem dX6_yard_123 : decode cX6_yard 123 = .ok (.ireturn, 1) := by decide +kernel
theorem dX6_isSheet_0 : decode cX6_isSheet 0 = .ok (.iload_n 0, 1) := by decide +kernel
theorem dX6_isSheet_1 : decode cX6_isSheet 1 = .ok (.iconst 0, 1) := by decide +kernel
theorem dX6_isSheet_2 : decode cX6_isSheet 2 = .ok (.iconst 3, 1) := by decide +kernel
theorem dX6_isSheet_3 : decode cX6_isSheet 3 = .ok (.invokestatic 49, 3) := by decide +kernel
theorem dX6_isSheet_6 : decode cX6_isSheet 6 = .ok (.ireturn, 1) := by decide +kernel
theorem dX6_narrow_0 : decode cX6_narrow 0 = .ok (.iload_n 0, 1) := by decide +kernel
theorem dX6_narrow_1 : decode cX6_narrow 1 = .ok (.bipush 8, 2) := by decide +kernel
theorem dX6_narrow_3 : decode cX6_narrow 3 = .ok (.if_icmp .ne 13, 3) := by decide +kernel
theorem dX6_narrow_6 : decode cX6_narrow 6 = .ok (.lload_n 1, 1) := by decide +kernel
theorem dX6_narrow_7 : decode cX6_narrow 7 = .ok (.bipush 56, 2) := by decide +kernel
theorem dX6_narrow_9 : decode cX6_narrow 9 = .ok (.lshl, 1) := by decide +kernel
theorem dX6_narrow_10 : decode cX6_narrow 10 = .ok (.bipush 56, 2) := by decide +kernel
theorem dX6_narrow_12 : decode cX6_narrow 12 = .ok (.lshr, 1) := by decide +kernel
theorem dX6_narrow_13 : decode cX6_narrow 13 = .ok (.goto 20, 3) := by decide +kernel
theorem dX6_narrow_16 : decode cX6_narrow 16 = .ok (.iload_n 0, 1) := by decide +kernel
theorem dX6_narrow_17 : decode cX6_narrow 17 = .ok (.bipush 16, 2) := by decide +kernel
theorem dX6_narrow_19 : decode cX6_narrow 19 = .ok (.if_icmp .ne 13, 3) := by decide +kernel
theorem dX6_narrow_22 : decode cX6_narrow 22 = .ok (.lload_n 1, 1) := by decide +kernel
theorem dX6_narrow_23 : decode cX6_narrow 23 = .ok (.bipush 48, 2) := by decide +kernel
theorem dX6_narrow_25 : decode cX6_narrow 25 = .ok (.lshl, 1) := by decide +kernel
theorem dX6_narrow_26 : decode cX6_narrow 26 = .ok (.bipush 48, 2) := by decide +kernel
theorem dX6_narrow_28 : decode cX6_narrow 28 = .ok (.lshr, 1) := by decide +kernel
theorem dX6_narrow_29 : decode cX6_narrow 29 = .ok (.goto 4, 3) := by decide +kernel
theorem dX6_narrow_32 : decode cX6_narrow 32 = .ok (.lload_n 1, 1) := by decide +kernel
theorem dX6_narrow_33 : decode cX6_narrow 33 = .ok (.lreturn, 1) := by decide +kernel
theorem dX6_sheet_0 : decode cX6_sheet 0 = .ok (.iload_n 1, 1) := by decide +kernel
theorem dX6_sheet_1 : decode cX6_sheet 1 = .ok (.invokestatic 253, 3) := by decide +kernel
theorem dX6_sheet_4 : decode cX6_sheet 4 = .ok (.ifCond .eq 25, 3) := by decide +kernel
theorem dX6_sheet_7 : decode cX6_sheet 7 = .ok (.iload_n 2, 1) := by decide +kernel
theorem dX6_sheet_8 : decode cX6_sheet 8 = .ok (.ifCond .eq 28, 3) := by decide +kernel
theorem dX6_sheet_11 : decode cX6_sheet 11 = .ok (.iload_n 2, 1) := by decide +kernel
theorem dX6_sheet_12 : decode cX6_sheet 12 = .ok (.bipush 8, 2) := by decide +kernel
theorem dX6_sheet_14 : decode cX6_sheet 14 = .ok (.if_icmp .eq 22, 3) := by decide +kernel
theorem dX6_sheet_17 : decode cX6_sheet 17 = .ok (.iload_n 2, 1) := by decide +kernel
theorem dX6_sheet_18 : decode cX6_sheet 18 = .ok (.bipush 16, 2) := by decide +kernel
theorem dX6_sheet_20 : decode cX6_sheet 20 = .ok (.if_icmp .eq 16, 3) := by decide +kernel
theorem dX6_sheet_23 : decode cX6_sheet 23 = .ok (.iload_n 2, 1) := by decide +kernel
theorem dX6_sheet_24 : decode cX6_sheet 24 = .ok (.bipush 64, 2) := by decide +kernel
theorem dX6_sheet_26 : decode cX6_sheet 26 = .ok (.if_icmp .eq 10, 3) := by decide +kernel
theorem dX6_sheet_29 : decode cX6_sheet 29 = .ok (.aload_n 0, 1) := by decide +kernel
theorem dX6_sheet_30 : decode cX6_sheet 30 = .ok (.ldc 48, 2) := by decide +kernel
theorem dX6_sheet_32 : decode cX6_sheet 32 = .ok (.invokevirtual 82, 3) := by decide +kernel
theorem dX6_sheet_35 : decode cX6_sheet 35 = .ok (.ireturn, 1) := by decide +kernel
theorem dX6_sheet_36 : decode cX6_sheet 36 = .ok (.iload_n 3, 1) := by decide +kernel
theorem dX6_sheet_37 : decode cX6_sheet 37 = .ok (.ifCond .ge 11, 3) := by decide +kernel
theorem dX6_sheet_40 : decode cX6_sheet 40 = .ok (.aload_n 0, 1) := by decide +kernel
theorem dX6_sheet_41 : decode cX6_sheet 41 = .ok (.ldc_w 256, 3) := by decide +kernel
theorem dX6_sheet_44 : decode cX6_sheet 44 = .ok (.invokevirtual 82, 3) := by decide +kernel
theorem dX6_sheet_47 : decode cX6_sheet 47 = .ok (.ireturn, 1) := by decide +kernel
theorem dX6_sheet_48 : decode cX6_sheet 48 = .ok (.iload_n 3, 1) := by decide +kernel
theorem dX6_sheet_49 : decode cX6_sheet 49 = .ok (.bipush 40, 2) := by decide +kernel
theorem dX6_sheet_51 : decode cX6_sheet 51 = .ok (.if_icmp .le 10, 3) := by decide +kernel
theorem dX6_sheet_54 : decode cX6_sheet 54 = .ok (.aload_n 0, 1) := by decide +kernel
theorem dX6_sheet_55 : decode cX6_sheet 55 = .ok (.ldc 48, 2) := by decide +kernel
theorem dX6_sheet_57 : decode cX6_sheet 57 = .ok (.invokevirtual 82, 3) := by decide +kernel
theorem dX6_sheet_60 : decode cX6_sheet 60 = .ok (.ireturn, 1) := by decide +kernel
theorem dX6_sheet_61 : decode cX6_sheet 61 = .ok (.aload_n 0, 1) := by decide +kernel
theorem dX6_sheet_62 : decode cX6_sheet 62 = .ok (.getfield 25, 3) := by decide +kernel
theorem dX6_sheet_65 : decode cX6_sheet 65 = .ok (.iload_n 1, 1) := by decide +kernel
theorem dX6_sheet_66 : decode cX6_sheet 66 = .ok (.iload_n 2, 1) := by decide +kernel
theorem dX6_sheet_67 : decode cX6_sheet 67 = .ok (.iastore, 1) := by decide +kernel
theorem dX6_sheet_68 : decode cX6_sheet 68 = .ok (.aload_n 0, 1) := by decide +kernel
theorem dX6_sheet_69 : decode cX6_sheet 69 = .ok (.getfield 28, 3) := by decide +kernel
theorem dX6_sheet_72 : decode cX6_sheet 72 = .ok (.iload_n 1, 1) := by decide +kernel
theorem dX6_sheet_73 : decode cX6_sheet 73 = .ok (.iload_n 2, 1) := by decide +kernel
theorem dX6_sheet_74 : decode cX6_sheet 74 = .ok (.ifCond .ne 7, 3) := by decide +kernel
theorem dX6_sheet_77 : decode cX6_sheet 77 = .ok (.iconst 0, 1) := by decide +kernel
theorem dX6_sheet_78 : decode cX6_sheet 78 = .ok (.goto 4, 3) := by decide +kernel
theorem dX6_sheet_81 : decode cX6_sheet 81 = .ok (.iload_n 3, 1) := by decide +kernel
theorem dX6_sheet_82 : decode cX6_sheet 82 = .ok (.iastore, 1) := by decide +kernel
theorem dX6_sheet_83 : decode cX6_sheet 83 = .ok (.iconst 0, 1) := by decide +kernel
theorem dX6_sheet_84 : decode cX6_sheet 84 = .ok (.istore 4, 2) := by decide +kernel
theorem dX6_sheet_86 : decode cX6_sheet 86 = .ok (.iload 4, 2) := by decide +kernel
theorem dX6_sheet_88 : decode cX6_sheet 88 = .ok (.bipush 40, 2) := by decide +kernel
theorem dX6_sheet_90 : decode cX6_sheet 90 = .ok (.if_icmp .ge 22, 3) := by decide +kernel
theorem dX6_sheet_93 : decode cX6_sheet 93 = .ok (.aload_n 0, 1) := by decide +kernel
theorem dX6_sheet_94 : decode cX6_sheet 94 = .ok (.getfield 31, 3) := by decide +kernel
theorem dX6_sheet_97 : decode cX6_sheet 97 = .ok (.bipush 40, 2) := by decide +kernel
theorem dX6_sheet_99 : decode cX6_sheet 99 = .ok (.iload_n 1, 1) := by decide +kernel
theorem dX6_sheet_100 : decode cX6_sheet 100 = .ok (.imul, 1) := by decide +kernel
theorem dX6_sheet_101 : decode cX6_sheet 101 = .ok (.iload 4, 2) := by decide +kernel
theorem dX6_sheet_103 : decode cX6_sheet 103 = .ok (.iadd, 1) := by decide +kernel
theorem dX6_sheet_104 : decode cX6_sheet 104 = .ok (.lconst 0, 1) := by decide +kernel
theorem dX6_sheet_105 : decode cX6_sheet 105 = .ok (.lastore, 1) := by decide +kernel
theorem dX6_sheet_106 : decode cX6_sheet 106 = .ok (.iinc 4 1, 3) := by decide +kernel
theorem dX6_sheet_109 : decode cX6_sheet 109 = .ok (.goto (-23), 3) := by decide +kernel
theorem dX6_sheet_112 : decode cX6_sheet 112 = .ok (.aload_n 0, 1) := by decide +kernel
theorem dX6_sheet_113 : decode cX6_sheet 113 = .ok (.getfield 28, 3) := by decide +kernel
theorem dX6_sheet_116 : decode cX6_sheet 116 = .ok (.iload_n 1, 1) := by decide +kernel
theorem dX6_sheet_117 : decode cX6_sheet 117 = .ok (.iaload, 1) := by decide +kernel
theorem dX6_sheet_118 : decode cX6_sheet 118 = .ok (.ireturn, 1) := by decide +kernel
theorem dX6_write_0 : decode cX6_write 0 = .ok (.iload_n 1, 1) := by decide +kernel
theorem dX6_write_1 : decode cX6_write 1 = .ok (.invokestatic 253, 3) := by decide +kernel
theorem dX6_write_4 : decode cX6_write 4 = .ok (.ifCond .ne 11, 3) := by decide +kernel
theorem dX6_write_7 : decode cX6_write 7 = .ok (.aload_n 0, 1) := by decide +kernel
theorem dX6_write_8 : decode cX6_write 8 = .ok (.ldc 48, 2) := by decide +kernel
theorem dX6_write_10 : decode cX6_write 10 = .ok (.invokevirtual 82, 3) := by decide +kernel
theorem dX6_write_13 : decode cX6_write 13 = .ok (.i2l, 1) := by decide +kernel
theorem dX6_write_14 : decode cX6_write 14 = .ok (.lreturn, 1) := by decide +kernel
theorem dX6_write_15 : decode cX6_write 15 = .ok (.aload_n 0, 1) := by decide +kernel
theorem dX6_write_16 : decode cX6_write 16 = .ok (.getfield 25, 3) := by decide +kernel
theorem dX6_write_19 : decode cX6_write 19 = .ok (.iload_n 1, 1) := by decide +kernel
theorem dX6_write_20 : decode cX6_write 20 = .ok (.iaload, 1) := by decide +kernel
theorem dX6_write_21 : decode cX6_write 21 = .ok (.ifCond .ne 12, 3) := by decide +kernel
theorem dX6_write_24 : decode cX6_write 24 = .ok (.aload_n 0, 1) := by decide +kernel
theorem dX6_write_25 : decode cX6_write 25 = .ok (.ldc_w 257, 3) := by decide +kernel
theorem dX6_write_28 : decode cX6_write 28 = .ok (.invokevirtual 82, 3) := by decide +kernel
theorem dX6_write_31 : decode cX6_write 31 = .ok (.i2l, 1) := by decide +kernel
theorem dX6_write_32 : decode cX6_write 32 = .ok (.lreturn, 1) := by decide +kernel
theorem dX6_write_33 : decode cX6_write 33 = .ok (.iload_n 2, 1) := by decide +kernel
theorem dX6_write_34 : decode cX6_write 34 = .ok (.iconst 0, 1) := by decide +kernel
theorem dX6_write_35 : decode cX6_write 35 = .ok (.aload_n 0, 1) := by decide +kernel
theorem dX6_write_36 : decode cX6_write 36 = .ok (.getfield 28, 3) := by decide +kernel
theorem dX6_write_39 : decode cX6_write 39 = .ok (.iload_n 1, 1) := by decide +kernel
theorem dX6_write_40 : decode cX6_write 40 = .ok (.iaload, 1) := by decide +kernel
theorem dX6_write_41 : decode cX6_write 41 = .ok (.iconst 1, 1) := by decide +kernel
theorem dX6_write_42 : decode cX6_write 42 = .ok (.isub, 1) := by decide +kernel
theorem dX6_write_43 : decode cX6_write 43 = .ok (.invokestatic 49, 3) := by decide +kernel
theorem dX6_write_46 : decode cX6_write 46 = .ok (.ifCond .ne 11, 3) := by decide +kernel
theorem dX6_write_49 : decode cX6_write 49 = .ok (.aload_n 0, 1) := by decide +kernel
theorem dX6_write_50 : decode cX6_write 50 = .ok (.ldc 48, 2) := by decide +kernel
theorem dX6_write_52 : decode cX6_write 52 = .ok (.invokevirtual 82, 3) := by decide +kernel
theorem dX6_write_55 : decode cX6_write 55 = .ok (.i2l, 1) := by decide +kernel
theorem dX6_write_56 : decode cX6_write 56 = .ok (.lreturn, 1) := by decide +kernel
theorem dX6_write_57 : decode cX6_write 57 = .ok (.aload_n 0, 1) := by decide +kernel
theorem dX6_write_58 : decode cX6_write 58 = .ok (.getfield 31, 3) := by decide +kernel
theorem dX6_write_61 : decode cX6_write 61 = .ok (.bipush 40, 2) := by decide +kernel
theorem dX6_write_63 : decode cX6_write 63 = .ok (.iload_n 1, 1) := by decide +kernel
theorem dX6_write_64 : decode cX6_write 64 = .ok (.imul, 1) := by decide +kernel
theorem dX6_write_65 : decode cX6_write 65 = .ok (.iload_n 2, 1) := by decide +kernel
theorem dX6_write_66 : decode cX6_write 66 = .ok (.iadd, 1) := by decide +kernel
theorem dX6_write_67 : decode cX6_write 67 = .ok (.laload, 1) := by decide +kernel
theorem dX6_write_68 : decode cX6_write 68 = .ok (.lstore 5, 2) := by decide +kernel
theorem dX6_write_70 : decode cX6_write 70 = .ok (.aload_n 0, 1) := by decide +kernel
theorem dX6_write_71 : decode cX6_write 71 = .ok (.getfield 31, 3) := by decide +kernel
theorem dX6_write_74 : decode cX6_write 74 = .ok (.bipush 40, 2) := by decide +kernel
theorem dX6_write_76 : decode cX6_write 76 = .ok (.iload_n 1, 1) := by decide +kernel
theorem dX6_write_77 : decode cX6_write 77 = .ok (.imul, 1) := by decide +kernel
theorem dX6_write_78 : decode cX6_write 78 = .ok (.iload_n 2, 1) := by decide +kernel
theorem dX6_write_79 : decode cX6_write 79 = .ok (.iadd, 1) := by decide +kernel
theorem dX6_write_80 : decode cX6_write 80 = .ok (.aload_n 0, 1) := by decide +kernel
theorem dX6_write_81 : decode cX6_write 81 = .ok (.getfield 25, 3) := by decide +kernel
theorem dX6_write_84 : decode cX6_write 84 = .ok (.iload_n 1, 1) := by decide +kernel
theorem dX6_write_85 : decode cX6_write 85 = .ok (.iaload, 1) := by decide +kernel
theorem dX6_write_86 : decode cX6_write 86 = .ok (.lload_n 3, 1) := by decide +kernel
theorem dX6_write_87 : decode cX6_write 87 = .ok (.invokestatic 258, 3) := by decide +kernel
theorem dX6_write_90 : decode cX6_write 90 = .ok (.lastore, 1) := by decide +kernel
theorem dX6_write_91 : decode cX6_write 91 = .ok (.lload 5, 2) := by decide +kernel
theorem dX6_write_93 : decode cX6_write 93 = .ok (.lreturn, 1) := by decide +kernel
theorem dX6_isPart__0 : decode cX6_isPart_ 0 = .ok (.iload_n 2, 1) := by decide +kernel
theorem dX6_isPart__1 : decode cX6_isPart_ 1 = .ok (.ifCond .lt 33, 3) := by decide +kernel
theorem dX6_isPart__4 : decode cX6_isPart_ 4 = .ok (.iload_n 3, 1) := by decide +kernel
theorem dX6_isPart__5 : decode cX6_isPart_ 5 = .ok (.ifCond .lt 29, 3) := by decide +kernel
theorem dX6_isPart__8 : decode cX6_isPart_ 8 = .ok (.iload_n 3, 1) := by decide +kernel
theorem dX6_isPart__9 : decode cX6_isPart_ 9 = .ok (.aload_n 0, 1) := by decide +kernel
theorem dX6_isPart__10 : decode cX6_isPart_ 10 = .ok (.getfield 28, 3) := by decide +kernel
theorem dX6_isPart__13 : decode cX6_isPart_ 13 = .ok (.iload_n 1, 1) := by decide +kernel
theorem dX6_isPart__14 : decode cX6_isPart_ 14 = .ok (.iaload, 1) := by decide +kernel
theorem dX6_isPart__15 : decode cX6_isPart_ 15 = .ok (.if_icmp .gt 19, 3) := by decide +kernel
theorem dX6_isPart__18 : decode cX6_isPart_ 18 = .ok (.iload_n 2, 1) := by decide +kernel
theorem dX6_isPart__19 : decode cX6_isPart_ 19 = .ok (.aload_n 0, 1) := by decide +kernel
theorem dX6_isPart__20 : decode cX6_isPart_ 20 = .ok (.getfield 28, 3) := by decide +kernel
theorem dX6_isPart__23 : decode cX6_isPart_ 23 = .ok (.iload_n 1, 1) := by decide +kernel
theorem dX6_isPart__24 : decode cX6_isPart_ 24 = .ok (.iaload, 1) := by decide +kernel
theorem dX6_isPart__25 : decode cX6_isPart_ 25 = .ok (.iload_n 3, 1) := by decide +kernel
theorem dX6_isPart__26 : decode cX6_isPart_ 26 = .ok (.isub, 1) := by decide +kernel
theorem dX6_isPart__27 : decode cX6_isPart_ 27 = .ok (.if_icmp .gt 7, 3) := by decide +kernel
theorem dX6_isPart__30 : decode cX6_isPart_ 30 = .ok (.iconst 1, 1) := by decide +kernel
theorem dX6_isPart__31 : decode cX6_isPart_ 31 = .ok (.goto 4, 3) := by decide +kernel
theorem dX6_isPart__34 : decode cX6_isPart_ 34 = .ok (.iconst 0, 1) := by decide +kernel
theorem dX6_isPart__35 : decode cX6_isPart_ 35 = .ok (.ireturn, 1) := by decide +kernel
theorem dX6_copy_0 : decode cX6_copy 0 = .ok (.iload_n 1, 1) := by decide +kernel
theorem dX6_copy_1 : decode cX6_copy 1 = .ok (.invokestatic 253, 3) := by decide +kernel
theorem dX6_copy_4 : decode cX6_copy 4 = .ok (.ifCond .eq 10, 3) := by decide +kernel
theorem dX6_copy_7 : decode cX6_copy 7 = .ok (.iload_n 3, 1) := by decide +kernel
theorem dX6_copy_8 : decode cX6_copy 8 = .ok (.invokestatic 253, 3) := by decide +kernel
theorem dX6_copy_11 : decode cX6_copy 11 = .ok (.ifCond .ne 10, 3) := by decide +kernel
theorem dX6_copy_14 : decode cX6_copy 14 = .ok (.aload_n 0, 1) := by decide +kernel
theorem dX6_copy_15 : decode cX6_copy 15 = .ok (.ldc 48, 2) := by decide +kernel
theorem dX6_copy_17 : decode cX6_copy 17 = .ok (.invokevirtual 82, 3) := by decide +kernel
theorem dX6_copy_20 : decode cX6_copy 20 = .ok (.ireturn, 1) := by decide +kernel
theorem dX6_copy_21 : decode cX6_copy 21 = .ok (.aload_n 0, 1) := by decide +kernel
theorem dX6_copy_22 : decode cX6_copy 22 = .ok (.getfield 25, 3) := by decide +kernel
theorem dX6_copy_25 : decode cX6_copy 25 = .ok (.iload_n 1, 1) := by decide +kernel
theorem dX6_copy_26 : decode cX6_copy 26 = .ok (.iaload, 1) := by decide +kernel
theorem dX6_copy_27 : decode cX6_copy 27 = .ok (.ifCond .eq 12, 3) := by decide +kernel
theorem dX6_copy_30 : decode cX6_copy 30 = .ok (.aload_n 0, 1) := by decide +kernel
theorem dX6_copy_31 : decode cX6_copy 31 = .ok (.getfield 25, 3) := by decide +kernel
theorem dX6_copy_34 : decode cX6_copy 34 = .ok (.iload_n 3, 1) := by decide +kernel
theorem dX6_copy_35 : decode cX6_copy 35 = .ok (.iaload, 1) := by decide +kernel
theorem dX6_copy_36 : decode cX6_copy 36 = .ok (.ifCond .ne 11, 3) := by decide +kernel
theorem dX6_copy_39 : decode cX6_copy 39 = .ok (.aload_n 0, 1) := by decide +kernel
theorem dX6_copy_40 : decode cX6_copy 40 = .ok (.ldc_w 257, 3) := by decide +kernel
theorem dX6_copy_43 : decode cX6_copy 43 = .ok (.invokevirtual 82, 3) := by decide +kernel
theorem dX6_copy_46 : decode cX6_copy 46 = .ok (.ireturn, 1) := by decide +kernel
theorem dX6_copy_47 : decode cX6_copy 47 = .ok (.aload_n 0, 1) := by decide +kernel
theorem dX6_copy_48 : decode cX6_copy 48 = .ok (.getfield 25, 3) := by decide +kernel
theorem dX6_copy_51 : decode cX6_copy 51 = .ok (.iload_n 1, 1) := by decide +kernel
theorem dX6_copy_52 : decode cX6_copy 52 = .ok (.iaload, 1) := by decide +kernel
theorem dX6_copy_53 : decode cX6_copy 53 = .ok (.aload_n 0, 1) := by decide +kernel
theorem dX6_copy_54 : decode cX6_copy 54 = .ok (.getfield 25, 3) := by decide +kernel
theorem dX6_copy_57 : decode cX6_copy 57 = .ok (.iload_n 3, 1) := by decide +kernel
theorem dX6_copy_58 : decode cX6_copy 58 = .ok (.iaload, 1) := by decide +kernel
theorem dX6_copy_59 : decode cX6_copy 59 = .ok (.if_icmp .eq 10, 3) := by decide +kernel
theorem dX6_copy_62 : decode cX6_copy 62 = .ok (.aload_n 0, 1) := by decide +kernel
theorem dX6_copy_63 : decode cX6_copy 63 = .ok (.ldc 131, 2) := by decide +kernel
theorem dX6_copy_65 : decode cX6_copy 65 = .ok (.invokevirtual 82, 3) := by decide +kernel
theorem dX6_copy_68 : decode cX6_copy 68 = .ok (.ireturn, 1) := by decide +kernel
theorem dX6_copy_69 : decode cX6_copy 69 = .ok (.aload_n 0, 1) := by decide +kernel
theorem dX6_copy_70 : decode cX6_copy 70 = .ok (.iload_n 1, 1) := by decide +kernel
theorem dX6_copy_71 : decode cX6_copy 71 = .ok (.iload_n 2, 1) := by decide +kernel
theorem dX6_copy_72 : decode cX6_copy 72 = .ok (.iload 5, 2) := by decide +kernel
theorem dX6_copy_74 : decode cX6_copy 74 = .ok (.invokevirtual 262, 3) := by decide +kernel
theorem dX6_copy_77 : decode cX6_copy 77 = .ok (.ifCond .eq 15, 3) := by decide +kernel
theorem dX6_copy_80 : decode cX6_copy 80 = .ok (.aload_n 0, 1) := by decide +kernel
theorem dX6_copy_81 : decode cX6_copy 81 = .ok (.iload_n 3, 1) := by decide +kernel
theorem dX6_copy_82 : decode cX6_copy 82 = .ok (.iload 4, 2) := by decide +kernel
theorem dX6_copy_84 : decode cX6_copy 84 = .ok (.iload 5, 2) := by decide +kernel
theorem dX6_copy_86 : decode cX6_copy 86 = .ok (.invokevirtual 262, 3) := by decide +kernel
theorem dX6_copy_89 : decode cX6_copy 89 = .ok (.ifCond .ne 10, 3) := by decide +kernel
theorem dX6_copy_92 : decode cX6_copy 92 = .ok (.aload_n 0, 1) := by decide +kernel
theorem dX6_copy_93 : decode cX6_copy 93 = .ok (.ldc 48, 2) := by decide +kernel
theorem dX6_copy_95 : decode cX6_copy 95 = .ok (.invokevirtual 82, 3) := by decide +kernel
theorem dX6_copy_98 : decode cX6_copy 98 = .ok (.ireturn, 1) := by decide +kernel
theorem dX6_copy_99 : decode cX6_copy 99 = .ok (.iconst 0, 1) := by decide +kernel
theorem dX6_copy_100 : decode cX6_copy 100 = .ok (.istore 6, 2) := by decide +kernel
theorem dX6_copy_102 : decode cX6_copy 102 = .ok (.iload 6, 2) := by decide +kernel
theorem dX6_copy_104 : decode cX6_copy 104 = .ok (.iload 5, 2) := by decide +kernel
theorem dX6_copy_106 : decode cX6_copy 106 = .ok (.if_icmp .ge 30, 3) := by decide +kernel
theorem dX6_copy_109 : decode cX6_copy 109 = .ok (.aload_n 0, 1) := by decide +kernel
theorem dX6_copy_110 : decode cX6_copy 110 = .ok (.getfield 35, 3) := by decide +kernel
theorem dX6_copy_113 : decode cX6_copy 113 = .ok (.iload 6, 2) := by decide +kernel
theorem dX6_copy_115 : decode cX6_copy 115 = .ok (.aload_n 0, 1) := by decide +kernel
theorem dX6_copy_116 : decode cX6_copy 116 = .ok (.getfield 31, 3) := by decide +kernel
theorem dX6_copy_119 : decode cX6_copy 119 = .ok (.bipush 40, 2) := by decide +kernel
theorem dX6_copy_121 : decode cX6_copy 121 = .ok (.iload_n 1, 1) := by decide +kernel
theorem dX6_copy_122 : decode cX6_copy 122 = .ok (.imul, 1) := by decide +kernel
theorem dX6_copy_123 : decode cX6_copy 123 = .ok (.iload_n 2, 1) := by decide +kernel
theorem dX6_copy_124 : decode cX6_copy 124 = .ok (.iadd, 1) := by decide +kernel
theorem dX6_copy_125 : decode cX6_copy 125 = .ok (.iload 6, 2) := by decide +kernel
theorem dX6_copy_127 : decode cX6_copy 127 = .ok (.iadd, 1) := by decide +kernel
theorem dX6_copy_128 : decode cX6_copy 128 = .ok (.laload, 1) := by decide +kernel
theorem dX6_copy_129 : decode cX6_copy 129 = .ok (.lastore, 1) := by decide +kernel
theorem dX6_copy_130 : decode cX6_copy 130 = .ok (.iinc 6 1, 3) := by decide +kernel
theorem dX6_copy_133 : decode cX6_copy 133 = .ok (.goto (-31), 3) := by decide +kernel
theorem dX6_copy_136 : decode cX6_copy 136 = .ok (.iconst 0, 1) := by decide +kernel
theorem dX6_copy_137 : decode cX6_copy 137 = .ok (.istore 6, 2) := by decide +kernel
theorem dX6_copy_139 : decode cX6_copy 139 = .ok (.iload 6, 2) := by decide +kernel
theorem dX6_copy_141 : decode cX6_copy 141 = .ok (.iload 5, 2) := by decide +kernel
theorem dX6_copy_143 : decode cX6_copy 143 = .ok (.if_icmp .ge 31, 3) := by decide +kernel
theorem dX6_copy_146 : decode cX6_copy 146 = .ok (.aload_n 0, 1) := by decide +kernel
theorem dX6_copy_147 : decode cX6_copy 147 = .ok (.getfield 31, 3) := by decide +kernel
theorem dX6_copy_150 : decode cX6_copy 150 = .ok (.bipush 40, 2) := by decide +kernel
theorem dX6_copy_152 : decode cX6_copy 152 = .ok (.iload_n 3, 1) := by decide +kernel
theorem dX6_copy_153 : decode cX6_copy 153 = .ok (.imul, 1) := by decide +kernel
theorem dX6_copy_154 : decode cX6_copy 154 = .ok (.iload 4, 2) := by decide +kernel
theorem dX6_copy_156 : decode cX6_copy 156 = .ok (.iadd, 1) := by decide +kernel
theorem dX6_copy_157 : decode cX6_copy 157 = .ok (.iload 6, 2) := by decide +kernel
theorem dX6_copy_159 : decode cX6_copy 159 = .ok (.iadd, 1) := by decide +kernel
theorem dX6_copy_160 : decode cX6_copy 160 = .ok (.aload_n 0, 1) := by decide +kernel
theorem dX6_copy_161 : decode cX6_copy 161 = .ok (.getfield 35, 3) := by decide +kernel
theorem dX6_copy_164 : decode cX6_copy 164 = .ok (.iload 6, 2) := by decide +kernel
theorem dX6_copy_166 : decode cX6_copy 166 = .ok (.laload, 1) := by decide +kernel
theorem dX6_copy_167 : decode cX6_copy 167 = .ok (.lastore, 1) := by decide +kernel
theorem dX6_copy_168 : decode cX6_copy 168 = .ok (.iinc 6 1, 3) := by decide +kernel
theorem dX6_copy_171 : decode cX6_copy 171 = .ok (.goto (-32), 3) := by decide +kernel
theorem dX6_copy_174 : decode cX6_copy 174 = .ok (.iload 5, 2) := by decide +kernel
theorem dX6_copy_176 : decode cX6_copy 176 = .ok (.ireturn, 1) := by decide +kernel
theorem dX6_badSheet_0 : decode cX6_badSheet 0 = .ok (.iload_n 1, 1) := by decide +kernel
theorem dX6_badSheet_1 : decode cX6_badSheet 1 = .ok (.invokestatic 253, 3) := by decide +kernel
theorem dX6_badSheet_4 : decode cX6_badSheet 4 = .ok (.ifCond .ne 8, 3) := by decide +kernel
theorem dX6_badSheet_7 : decode cX6_badSheet 7 = .ok (.ldc 48, 2) := by decide +kernel
theorem dX6_badSheet_9 : decode cX6_badSheet 9 = .ok (.goto 19, 3) := by decide +kernel
theorem dX6_badSheet_12 : decode cX6_badSheet 12 = .ok (.aload_n 0, 1) := by decide +kernel
theorem dX6_badSheet_13 : decode cX6_badSheet 13 = .ok (.getfield 25, 3) := by decide +kernel
theorem dX6_badSheet_16 : decode cX6_badSheet 16 = .ok (.iload_n 1, 1) := by decide +kernel
theorem dX6_badSheet_17 : decode cX6_badSheet 17 = .ok (.iaload, 1) := by decide +kernel
theorem dX6_badSheet_18 : decode cX6_badSheet 18 = .ok (.ifCond .ne 9, 3) := by decide +kernel
theorem dX6_badSheet_21 : decode cX6_badSheet 21 = .ok (.ldc_w 257, 3) := by decide +kernel
theorem dX6_badSheet_24 : decode cX6_badSheet 24 = .ok (.goto 4, 3) := by decide +kernel
theorem dX6_badSheet_27 : decode cX6_badSheet 27 = .ok (.iconst 0, 1) := by decide +kernel
theorem dX6_badSheet_28 : decode cX6_badSheet 28 = .ok (.ireturn, 1) := by decide +kernel
theorem dX6_lays_0 : decode cX6_lays 0 = .ok (.aload_n 0, 1) := by decide +kernel
theorem dX6_lays_1 : decode cX6_lays 1 = .ok (.iload_n 1, 1) := by decide +kernel
theorem dX6_lays_2 : decode cX6_lays 2 = .ok (.invokevirtual 264, 3) := by decide +kernel
theorem dX6_lays_5 : decode cX6_lays 5 = .ok (.istore_n 2, 1) := by decide +kernel
theorem dX6_lays_6 : decode cX6_lays 6 = .ok (.iload_n 2, 1) := by decide +kernel
theorem dX6_lays_7 : decode cX6_lays 7 = .ok (.ifCond .eq 9, 3) := by decide +kernel
theorem dX6_lays_10 : decode cX6_lays 10 = .ok (.aload_n 0, 1) := by decide +kernel
theorem dX6_lays_11 : decode cX6_lays 11 = .ok (.iload_n 2, 1) := by decide +kernel
theorem dX6_lays_12 : decode cX6_lays 12 = .ok (.invokevirtual 82, 3) := by decide +kernel
theorem dX6_lays_15 : decode cX6_lays 15 = .ok (.ireturn, 1) := by decide +kernel
theorem dX6_lays_16 : decode cX6_lays 16 = .ok (.iconst 0, 1) := by decide +kernel
theorem dX6_lays_17 : decode cX6_lays 17 = .ok (.istore_n 3, 1) := by decide +kernel
theorem dX6_lays_18 : decode cX6_lays 18 = .ok (.iconst 0, 1) := by decide +kernel
theorem dX6_lays_19 : decode cX6_lays 19 = .ok (.istore 4, 2) := by decide +kernel
theorem dX6_lays_21 : decode cX6_lays 21 = .ok (.iload 4, 2) := by decide +kernel
theorem dX6_lays_23 : decode cX6_lays 23 = .ok (.aload_n 0, 1) := by decide +kernel
theorem dX6_lays_24 : decode cX6_lays 24 = .ok (.getfield 28, 3) := by decide +kernel
theorem dX6_lays_27 : decode cX6_lays 27 = .ok (.iload_n 1, 1) := by decide +kernel
theorem dX6_lays_28 : decode cX6_lays 28 = .ok (.iaload, 1) := by decide +kernel
theorem dX6_lays_29 : decode cX6_lays 29 = .ok (.if_icmp .ge 61, 3) := by decide +kernel
theorem dX6_lays_32 : decode cX6_lays 32 = .ok (.iload 4, 2) := by decide +kernel
theorem dX6_lays_34 : decode cX6_lays 34 = .ok (.bipush 12, 2) := by decide +kernel
theorem dX6_lays_36 : decode cX6_lays 36 = .ok (.if_icmp .ge 54, 3) := by decide +kernel
theorem dX6_lays_39 : decode cX6_lays 39 = .ok (.aload_n 0, 1) := by decide +kernel
theorem dX6_lays_40 : decode cX6_lays 40 = .ok (.getfield 31, 3) := by decide +kernel
theorem dX6_lays_43 : decode cX6_lays 43 = .ok (.bipush 40, 2) := by decide +kernel
theorem dX6_lays_45 : decode cX6_lays 45 = .ok (.iload_n 1, 1) := by decide +kernel
theorem dX6_lays_46 : decode cX6_lays 46 = .ok (.imul, 1) := by decide +kernel
theorem dX6_lays_47 : decode cX6_lays 47 = .ok (.iload 4, 2) := by decide +kernel
theorem dX6_lays_49 : decode cX6_lays 49 = .ok (.iadd, 1) := by decide +kernel
theorem dX6_lays_50 : decode cX6_lays 50 = .ok (.laload, 1) := by decide +kernel
theorem dX6_lays_51 : decode cX6_lays 51 = .ok (.lstore 5, 2) := by decide +kernel
theorem dX6_lays_53 : decode cX6_lays 53 = .ok (.lload 5, 2) := by decide +kernel
theorem dX6_lays_55 : decode cX6_lays 55 = .ok (.lconst 0, 1) := by decide +kernel
theorem dX6_lays_56 : decode cX6_lays 56 = .ok (.lcmp, 1) := by decide +kernel
theorem dX6_lays_57 : decode cX6_lays 57 = .ok (.ifCond .lt 27, 3) := by decide +kernel
theorem dX6_lays_60 : decode cX6_lays 60 = .ok (.lload 5, 2) := by decide +kernel
theorem dX6_lays_62 : decode cX6_lays 62 = .ok (.ldc2_w 267, 3) := by decide +kernel
theorem dX6_lays_65 : decode cX6_lays 65 = .ok (.lcmp, 1) := by decide +kernel
theorem dX6_lays_66 : decode cX6_lays 66 = .ok (.ifCond .gt 18, 3) := by decide +kernel
theorem dX6_lays_69 : decode cX6_lays 69 = .ok (.aload_n 0, 1) := by decide +kernel
theorem dX6_lays_70 : decode cX6_lays 70 = .ok (.getfield 7, 3) := by decide +kernel
theorem dX6_lays_73 : decode cX6_lays 73 = .ok (.iconst 2, 1) := by decide +kernel
theorem dX6_lays_74 : decode cX6_lays 74 = .ok (.iload 4, 2) := by decide +kernel
theorem dX6_lays_76 : decode cX6_lays 76 = .ok (.iadd, 1) := by decide +kernel
theorem dX6_lays_77 : decode cX6_lays 77 = .ok (.lload 5, 2) := by decide +kernel
theorem dX6_lays_79 : decode cX6_lays 79 = .ok (.l2i, 1) := by decide +kernel
theorem dX6_lays_80 : decode cX6_lays 80 = .ok (.iastore, 1) := by decide +kernel
theorem dX6_lays_81 : decode cX6_lays 81 = .ok (.iinc 3 1, 3) := by decide +kernel
theorem dX6_lays_84 : decode cX6_lays 84 = .ok (.iinc 4 1, 3) := by decide +kernel
theorem dX6_lays_87 : decode cX6_lays 87 = .ok (.goto (-66), 3) := by decide +kernel
theorem dX6_lays_90 : decode cX6_lays 90 = .ok (.iload_n 3, 1) := by decide +kernel
theorem dX6_lays_91 : decode cX6_lays 91 = .ok (.ireturn, 1) := by decide +kernel
theorem dX6_book_0 : decode cX6_book 0 = .ok (.aload_n 0, 1) := by decide +kernel
theorem dX6_book_1 : decode cX6_book 1 = .ok (.iload_n 1, 1) := by decide +kernel
theorem dX6_book_2 : decode cX6_book 2 = .ok (.invokevirtual 264, 3) := by decide +kernel
theorem dX6_book_5 : decode cX6_book 5 = .ok (.istore_n 3, 1) := by decide +kernel
theorem dX6_book_6 : decode cX6_book 6 = .ok (.iload_n 3, 1) := by decide +kernel
theorem dX6_book_7 : decode cX6_book 7 = .ok (.ifCond .eq 9, 3) := by decide +kernel
theorem dX6_book_10 : decode cX6_book 10 = .ok (.aload_n 0, 1) := by decide +kernel
theorem dX6_book_11 : decode cX6_book 11 = .ok (.iload_n 3, 1) := by decide +kernel
theorem dX6_book_12 : decode cX6_book 12 = .ok (.invokevirtual 82, 3) := by decide +kernel
theorem dX6_book_15 : decode cX6_book 15 = .ok (.ireturn, 1) := by decide +kernel
theorem dX6_book_16 : decode cX6_book 16 = .ok (.aload_n 0, 1) := by decide +kernel
theorem dX6_book_17 : decode cX6_book 17 = .ok (.iload_n 2, 1) := by decide +kernel
theorem dX6_book_18 : decode cX6_book 18 = .ok (.invokevirtual 115, 3) := by decide +kernel
theorem dX6_book_21 : decode cX6_book 21 = .ok (.ifCond .ne 10, 3) := by decide +kernel
theorem dX6_book_24 : decode cX6_book 24 = .ok (.aload_n 0, 1) := by decide +kernel
theorem dX6_book_25 : decode cX6_book 25 = .ok (.ldc 48, 2) := by decide +kernel
theorem dX6_book_27 : decode cX6_book 27 = .ok (.invokevirtual 82, 3) := by decide +kernel
theorem dX6_book_30 : decode cX6_book 30 = .ok (.ireturn, 1) := by decide +kernel
theorem dX6_book_31 : decode cX6_book 31 = .ok (.aload_n 0, 1) := by decide +kernel
theorem dX6_book_32 : decode cX6_book 32 = .ok (.iconst 1, 1) := by decide +kernel
theorem dX6_book_33 : decode cX6_book 33 = .ok (.aload_n 0, 1) := by decide +kernel
theorem dX6_book_34 : decode cX6_book 34 = .ok (.getfield 16, 3) := by decide +kernel
theorem dX6_book_37 : decode cX6_book 37 = .ok (.invokevirtual 147, 3) := by decide +kernel
theorem dX6_book_40 : decode cX6_book 40 = .ok (.iconst 0, 1) := by decide +kernel
theorem dX6_book_41 : decode cX6_book 41 = .ok (.istore 4, 2) := by decide +kernel
theorem dX6_book_43 : decode cX6_book 43 = .ok (.iload 4, 2) := by decide +kernel
theorem dX6_book_45 : decode cX6_book 45 = .ok (.aload_n 0, 1) := by decide +kernel
theorem dX6_book_46 : decode cX6_book 46 = .ok (.getfield 28, 3) := by decide +kernel
theorem dX6_book_49 : decode cX6_book 49 = .ok (.iload_n 1, 1) := by decide +kernel
theorem dX6_book_50 : decode cX6_book 50 = .ok (.iaload, 1) := by decide +kernel
theorem dX6_book_51 : decode cX6_book 51 = .ok (.if_icmp .ge 32, 3) := by decide +kernel
theorem dX6_book_54 : decode cX6_book 54 = .ok (.aload_n 0, 1) := by decide +kernel
theorem dX6_book_55 : decode cX6_book 55 = .ok (.getfield 31, 3) := by decide +kernel
theorem dX6_book_58 : decode cX6_book 58 = .ok (.bipush 40, 2) := by decide +kernel
theorem dX6_book_60 : decode cX6_book 60 = .ok (.iload_n 1, 1) := by decide +kernel
theorem dX6_book_61 : decode cX6_book 61 = .ok (.imul, 1) := by decide +kernel
theorem dX6_book_62 : decode cX6_book 62 = .ok (.iload 4, 2) := by decide +kernel
theorem dX6_book_64 : decode cX6_book 64 = .ok (.iadd, 1) := by decide +kernel
theorem dX6_book_65 : decode cX6_book 65 = .ok (.aload_n 0, 1) := by decide +kernel
theorem dX6_book_66 : decode cX6_book 66 = .ok (.iload_n 2, 1) := by decide +kernel
theorem dX6_book_67 : decode cX6_book 67 = .ok (.iconst 2, 1) := by decide +kernel
theorem dX6_book_68 : decode cX6_book 68 = .ok (.invokevirtual 53, 3) := by decide +kernel
theorem dX6_book_71 : decode cX6_book 71 = .ok (.i2l, 1) := by decide +kernel
theorem dX6_book_72 : decode cX6_book 72 = .ok (.lastore, 1) := by decide +kernel
theorem dX6_book_73 : decode cX6_book 73 = .ok (.aload_n 0, 1) := by decide +kernel
theorem dX6_book_74 : decode cX6_book 74 = .ok (.invokevirtual 140, 3) := by decide +kernel
theorem dX6_book_77 : decode cX6_book 77 = .ok (.iinc 4 1, 3) := by decide +kernel
theorem dX6_book_80 : decode cX6_book 80 = .ok (.goto (-37), 3) := by decide +kernel
theorem dX6_book_83 : decode cX6_book 83 = .ok (.aload_n 0, 1) := by decide +kernel
theorem dX6_book_84 : decode cX6_book 84 = .ok (.iconst 0, 1) := by decide +kernel
theorem dX6_book_85 : decode cX6_book 85 = .ok (.aload_n 0, 1) := by decide +kernel
theorem dX6_book_86 : decode cX6_book 86 = .ok (.getfield 16, 3) := by decide +kernel
theorem dX6_book_89 : decode cX6_book 89 = .ok (.invokevirtual 147, 3) := by decide +kernel
theorem dX6_book_92 : decode cX6_book 92 = .ok (.aload_n 0, 1) := by decide +kernel
theorem dX6_book_93 : decode cX6_book 93 = .ok (.getfield 28, 3) := by decide +kernel
theorem dX6_book_96 : decode cX6_book 96 = .ok (.iload_n 1, 1) := by decide +kernel
theorem dX6_book_97 : decode cX6_book 97 = .ok (.iaload, 1) := by decide +kernel
theorem dX6_book_98 : decode cX6_book 98 = .ok (.ireturn, 1) := by decide +kernel
theorem dX6_isSo_0 : decode cX6_isSo 0 = .ok (.iconst 1, 1) := by decide +kernel
theorem dX6_isSo_1 : decode cX6_isSo 1 = .ok (.istore_n 3, 1) := by decide +kernel
theorem dX6_isSo_2 : decode cX6_isSo 2 = .ok (.iconst 0, 1) := by decide +kernel
theorem dX6_isSo_3 : decode cX6_isSo 3 = .ok (.istore 4, 2) := by decide +kernel
theorem dX6_isSo_5 : decode cX6_isSo 5 = .ok (.iload 4, 2) := by decide +kernel
theorem dX6_isSo_7 : decode cX6_isSo 7 = .ok (.aload_n 0, 1) := by decide +kernel
theorem dX6_isSo_8 : decode cX6_isSo 8 = .ok (.getfield 28, 3) := by decide +kernel
theorem dX6_isSo_11 : decode cX6_isSo 11 = .ok (.iload_n 1, 1) := by decide +kernel
theorem dX6_isSo_12 : decode cX6_isSo 12 = .ok (.iaload, 1) := by decide +kernel
theorem dX6_isSo_13 : decode cX6_isSo 13 = .ok (.if_icmp .ge 46, 3) := by decide +kernel
theorem dX6_isSo_16 : decode cX6_isSo 16 = .ok (.iload_n 3, 1) := by decide +kernel
theorem dX6_isSo_17 : decode cX6_isSo 17 = .ok (.ifCond .eq 42, 3) := by decide +kernel
theorem dX6_isSo_20 : decode cX6_isSo 20 = .ok (.aload_n 0, 1) := by decide +kernel
theorem dX6_isSo_21 : decode cX6_isSo 21 = .ok (.getfield 31, 3) := by decide +kernel
theorem dX6_isSo_24 : decode cX6_isSo 24 = .ok (.bipush 40, 2) := by decide +kernel
theorem dX6_isSo_26 : decode cX6_isSo 26 = .ok (.iload_n 1, 1) := by decide +kernel
theorem dX6_isSo_27 : decode cX6_isSo 27 = .ok (.imul, 1) := by decide +kernel
theorem dX6_isSo_28 : decode cX6_isSo 28 = .ok (.iload 4, 2) := by decide +kernel
theorem dX6_isSo_30 : decode cX6_isSo 30 = .ok (.iadd, 1) := by decide +kernel
theorem dX6_isSo_31 : decode cX6_isSo 31 = .ok (.laload, 1) := by decide +kernel
theorem dX6_isSo_32 : decode cX6_isSo 32 = .ok (.aload_n 0, 1) := by decide +kernel
theorem dX6_isSo_33 : decode cX6_isSo 33 = .ok (.iload_n 2, 1) := by decide +kernel
theorem dX6_isSo_34 : decode cX6_isSo 34 = .ok (.iconst 2, 1) := by decide +kernel
theorem dX6_isSo_35 : decode cX6_isSo 35 = .ok (.invokevirtual 53, 3) := by decide +kernel
theorem dX6_isSo_38 : decode cX6_isSo 38 = .ok (.i2l, 1) := by decide +kernel
theorem dX6_isSo_39 : decode cX6_isSo 39 = .ok (.lcmp, 1) := by decide +kernel
theorem dX6_isSo_40 : decode cX6_isSo 40 = .ok (.ifCond .ne 7, 3) := by decide +kernel
theorem dX6_isSo_43 : decode cX6_isSo 43 = .ok (.iconst 1, 1) := by decide +kernel
theorem dX6_isSo_44 : decode cX6_isSo 44 = .ok (.goto 4, 3) := by decide +kernel
theorem dX6_isSo_47 : decode cX6_isSo 47 = .ok (.iconst 0, 1) := by decide +kernel
theorem dX6_isSo_48 : decode cX6_isSo 48 = .ok (.istore_n 3, 1) := by decide +kernel
theorem dX6_isSo_49 : decode cX6_isSo 49 = .ok (.aload_n 0, 1) := by decide +kernel
theorem dX6_isSo_50 : decode cX6_isSo 50 = .ok (.invokevirtual 140, 3) := by decide +kernel
theorem dX6_isSo_53 : decode cX6_isSo 53 = .ok (.iinc 4 1, 3) := by decide +kernel
theorem dX6_isSo_56 : decode cX6_isSo 56 = .ok (.goto (-51), 3) := by decide +kernel
theorem dX6_isSo_59 : decode cX6_isSo 59 = .ok (.iload_n 3, 1) := by decide +kernel
theorem dX6_isSo_60 : decode cX6_isSo 60 = .ok (.ireturn, 1) := by decide +kernel
theorem dX6_read_0 : decode cX6_read 0 = .ok (.aload_n 0, 1) := by decide +kernel
theorem dX6_read_1 : decode cX6_read 1 = .ok (.iload_n 1, 1) := by decide +kernel
theorem dX6_read_2 : decode cX6_read 2 = .ok (.invokevirtual 264, 3) := by decide +kernel
theorem dX6_read_5 : decode cX6_read 5 = .ok (.istore_n 3, 1) := by decide +kernel
theorem dX6_read_6 : decode cX6_read 6 = .ok (.iload_n 3, 1) := by decide +kernel
theorem dX6_read_7 : decode cX6_read 7 = .ok (.ifCond .eq 9, 3) := by decide +kernel
theorem dX6_read_10 : decode cX6_read 10 = .ok (.aload_n 0, 1) := by decide +kernel
theorem dX6_read_11 : decode cX6_read 11 = .ok (.iload_n 3, 1) := by decide +kernel
theorem dX6_read_12 : decode cX6_read 12 = .ok (.invokevirtual 82, 3) := by decide +kernel
theorem dX6_read_15 : decode cX6_read 15 = .ok (.ireturn, 1) := by decide +kernel
theorem dX6_read_16 : decode cX6_read 16 = .ok (.aload_n 0, 1) := by decide +kernel
theorem dX6_read_17 : decode cX6_read 17 = .ok (.iload_n 2, 1) := by decide +kernel
theorem dX6_read_18 : decode cX6_read 18 = .ok (.invokevirtual 115, 3) := by decide +kernel
theorem dX6_read_21 : decode cX6_read 21 = .ok (.ifCond .ne 10, 3) := by decide +kernel
theorem dX6_read_24 : decode cX6_read 24 = .ok (.aload_n 0, 1) := by decide +kernel
theorem dX6_read_25 : decode cX6_read 25 = .ok (.ldc 48, 2) := by decide +kernel
theorem dX6_read_27 : decode cX6_read 27 = .ok (.invokevirtual 82, 3) := by decide +kernel
theorem dX6_read_30 : decode cX6_read 30 = .ok (.ireturn, 1) := by decide +kernel
theorem dX6_read_31 : decode cX6_read 31 = .ok (.iconst 0, 1) := by decide +kernel
theorem dX6_read_32 : decode cX6_read 32 = .ok (.istore 4, 2) := by decide +kernel
theorem dX6_read_34 : decode cX6_read 34 = .ok (.aload_n 0, 1) := by decide +kernel
theorem dX6_read_35 : decode cX6_read 35 = .ok (.iconst 1, 1) := by decide +kernel
theorem dX6_read_36 : decode cX6_read 36 = .ok (.aload_n 0, 1) := by decide +kernel
theorem dX6_read_37 : decode cX6_read 37 = .ok (.getfield 19, 3) := by decide +kernel
theorem dX6_read_40 : decode cX6_read 40 = .ok (.invokevirtual 147, 3) := by decide +kernel
theorem dX6_read_43 : decode cX6_read 43 = .ok (.iconst 0, 1) := by decide +kernel
theorem dX6_read_44 : decode cX6_read 44 = .ok (.istore 5, 2) := by decide +kernel
theorem dX6_read_46 : decode cX6_read 46 = .ok (.iload 5, 2) := by decide +kernel
theorem dX6_read_48 : decode cX6_read 48 = .ok (.sipush 600, 3) := by decide +kernel
theorem dX6_read_51 : decode cX6_read 51 = .ok (.if_icmp .ge 59, 3) := by decide +kernel
theorem dX6_read_54 : decode cX6_read 54 = .ok (.aload_n 0, 1) := by decide +kernel
theorem dX6_read_55 : decode cX6_read 55 = .ok (.iload_n 2, 1) := by decide +kernel
theorem dX6_read_56 : decode cX6_read 56 = .ok (.iconst 0, 1) := by decide +kernel
theorem dX6_read_57 : decode cX6_read 57 = .ok (.iload 5, 2) := by decide +kernel
theorem dX6_read_59 : decode cX6_read 59 = .ok (.bipush 100, 2) := by decide +kernel
theorem dX6_read_61 : decode cX6_read 61 = .ok (.idiv, 1) := by decide +kernel
theorem dX6_read_62 : decode cX6_read 62 = .ok (.invokevirtual 104, 3) := by decide +kernel
theorem dX6_read_65 : decode cX6_read 65 = .ok (.aload_n 0, 1) := by decide +kernel
theorem dX6_read_66 : decode cX6_read 66 = .ok (.iload_n 2, 1) := by decide +kernel
theorem dX6_read_67 : decode cX6_read 67 = .ok (.iconst 2, 1) := by decide +kernel
theorem dX6_read_68 : decode cX6_read 68 = .ok (.iload 5, 2) := by decide +kernel
theorem dX6_read_70 : decode cX6_read 70 = .ok (.bipush 100, 2) := by decide +kernel
theorem dX6_read_72 : decode cX6_read 72 = .ok (.irem, 1) := by decide +kernel
theorem dX6_read_73 : decode cX6_read 73 = .ok (.invokevirtual 104, 3) := by decide +kernel
theorem dX6_read_76 : decode cX6_read 76 = .ok (.iload 4, 2) := by decide +kernel
theorem dX6_read_78 : decode cX6_read 78 = .ok (.aload_n 0, 1) := by decide +kernel
theorem dX6_read_79 : decode cX6_read 79 = .ok (.iload_n 1, 1) := by decide +kernel
theorem dX6_read_80 : decode cX6_read 80 = .ok (.iload_n 2, 1) := by decide +kernel
theorem dX6_read_81 : decode cX6_read 81 = .ok (.invokevirtual 269, 3) := by decide +kernel
theorem dX6_read_84 : decode cX6_read 84 = .ok (.ifCond .eq 7, 3) := by decide +kernel
theorem dX6_read_87 : decode cX6_read 87 = .ok (.iconst 1, 1) := by decide +kernel
theorem dX6_read_88 : decode cX6_read 88 = .ok (.goto 4, 3) := by decide +kernel
theorem dX6_read_91 : decode cX6_read 91 = .ok (.iconst 0, 1) := by decide +kernel
theorem dX6_read_92 : decode cX6_read 92 = .ok (.iadd, 1) := by decide +kernel
theorem dX6_read_93 : decode cX6_read 93 = .ok (.istore 4, 2) := by decide +kernel
theorem dX6_read_95 : decode cX6_read 95 = .ok (.aload_n 0, 1) := by decide +kernel
theorem dX6_read_96 : decode cX6_read 96 = .ok (.iconst 0, 1) := by decide +kernel
theorem dX6_read_97 : decode cX6_read 97 = .ok (.aload_n 0, 1) := by decide +kernel
theorem dX6_read_98 : decode cX6_read 98 = .ok (.getfield 19, 3) := by decide +kernel
theorem dX6_read_101 : decode cX6_read 101 = .ok (.invokevirtual 147, 3) := by decide +kernel
theorem dX6_read_104 : decode cX6_read 104 = .ok (.iinc 5 1, 3) := by decide +kernel
theorem dX6_read_107 : decode cX6_read 107 = .ok (.goto (-61), 3) := by decide +kernel
theorem dX6_read_110 : decode cX6_read 110 = .ok (.iload 4, 2) := by decide +kernel
theorem dX6_read_112 : decode cX6_read 112 = .ok (.ireturn, 1) := by decide +kernel
theorem dX6_moveAll_0 : decode cX6_moveAll 0 = .ok (.iconst 0, 1) := by decide +kernel
theorem dX6_moveAll_1 : decode cX6_moveAll 1 = .ok (.istore_n 3, 1) := by decide +kernel
theorem dX6_moveAll_2 : decode cX6_moveAll 2 = .ok (.iload_n 3, 1) := by decide +kernel
theorem dX6_moveAll_3 : decode cX6_moveAll 3 = .ok (.bipush 72, 2) := by decide +kernel
theorem dX6_moveAll_5 : decode cX6_moveAll 5 = .ok (.if_icmp .ge 34, 3) := by decide +kernel
theorem dX6_moveAll_8 : decode cX6_moveAll 8 = .ok (.iload_n 1, 1) := by decide +kernel
theorem dX6_moveAll_9 : decode cX6_moveAll 9 = .ok (.ifCond .eq 15, 3) := by decide +kernel
theorem dX6_moveAll_12 : decode cX6_moveAll 12 = .ok (.aload_n 2, 1) := by decide +kernel
theorem dX6_moveAll_13 : decode cX6_moveAll 13 = .ok (.iload_n 3, 1) := by decide +kernel
theorem dX6_moveAll_14 : decode cX6_moveAll 14 = .ok (.aload_n 0, 1) := by decide +kernel
theorem dX6_moveAll_15 : decode cX6_moveAll 15 = .ok (.getfield 7, 3) := by decide +kernel
theorem dX6_moveAll_18 : decode cX6_moveAll 18 = .ok (.iload_n 3, 1) := by decide +kernel
theorem dX6_moveAll_19 : decode cX6_moveAll 19 = .ok (.iaload, 1) := by decide +kernel
theorem dX6_moveAll_20 : decode cX6_moveAll 20 = .ok (.iastore, 1) := by decide +kernel
theorem dX6_moveAll_21 : decode cX6_moveAll 21 = .ok (.goto 12, 3) := by decide +kernel
theorem dX6_moveAll_24 : decode cX6_moveAll 24 = .ok (.aload_n 0, 1) := by decide +kernel
theorem dX6_moveAll_25 : decode cX6_moveAll 25 = .ok (.getfield 7, 3) := by decide +kernel
theorem dX6_moveAll_28 : decode cX6_moveAll 28 = .ok (.iload_n 3, 1) := by decide +kernel
theorem dX6_moveAll_29 : decode cX6_moveAll 29 = .ok (.aload_n 2, 1) := by decide +kernel
theorem dX6_moveAll_30 : decode cX6_moveAll 30 = .ok (.iload_n 3, 1) := by decide +kernel
theorem dX6_moveAll_31 : decode cX6_moveAll 31 = .ok (.iaload, 1) := by decide +kernel
theorem dX6_moveAll_32 : decode cX6_moveAll 32 = .ok (.iastore, 1) := by decide +kernel
theorem dX6_moveAll_33 : decode cX6_moveAll 33 = .ok (.iinc 3 1, 3) := by decide +kernel
theorem dX6_moveAll_36 : decode cX6_moveAll 36 = .ok (.goto (-34), 3) := by decide +kernel
theorem dX6_moveAll_39 : decode cX6_moveAll 39 = .ok (.return_, 1) := by decide +kernel
theorem dX6_image_0 : decode cX6_image 0 = .ok (.aload_n 0, 1) := by decide +kernel
theorem dX6_image_1 : decode cX6_image 1 = .ok (.iconst 1, 1) := by decide +kernel
theorem dX6_image_2 : decode cX6_image 2 = .ok (.aload_n 0, 1) := by decide +kernel
theorem dX6_image_3 : decode cX6_image 3 = .ok (.getfield 38, 3) := by decide +kernel
theorem dX6_image_6 : decode cX6_image 6 = .ok (.invokevirtual 147, 3) := by decide +kernel
theorem dX6_image_9 : decode cX6_image 9 = .ok (.aload_n 0, 1) := by decide +kernel
theorem dX6_image_10 : decode cX6_image 10 = .ok (.iconst 1, 1) := by decide +kernel
theorem dX6_image_11 : decode cX6_image 11 = .ok (.putfield 272, 3) := by decide +kernel
theorem dX6_image_14 : decode cX6_image 14 = .ok (.iconst 1, 1) := by decide +kernel
theorem dX6_image_15 : decode cX6_image 15 = .ok (.ireturn, 1) := by decide +kernel
theorem dX6_undo_0 : decode cX6_undo 0 = .ok (.aload_n 0, 1) := by decide +kernel
theorem dX6_undo_1 : decode cX6_undo 1 = .ok (.getfield 272, 3) := by decide +kernel
theorem dX6_undo_4 : decode cX6_undo 4 = .ok (.ifCond .ne 10, 3) := by decide +kernel
theorem dX6_undo_7 : decode cX6_undo 7 = .ok (.aload_n 0, 1) := by decide +kernel
theorem dX6_undo_8 : decode cX6_undo 8 = .ok (.ldc 154, 2) := by decide +kernel
theorem dX6_undo_10 : decode cX6_undo 10 = .ok (.invokevirtual 82, 3) := by decide +kernel
theorem dX6_undo_13 : decode cX6_undo 13 = .ok (.ireturn, 1) := by decide +kernel
theorem dX6_undo_14 : decode cX6_undo 14 = .ok (.aload_n 0, 1) := by decide +kernel
theorem dX6_undo_15 : decode cX6_undo 15 = .ok (.iconst 0, 1) := by decide +kernel
theorem dX6_undo_16 : decode cX6_undo 16 = .ok (.aload_n 0, 1) := by decide +kernel
theorem dX6_undo_17 : decode cX6_undo 17 = .ok (.getfield 38, 3) := by decide +kernel
theorem dX6_undo_20 : decode cX6_undo 20 = .ok (.invokevirtual 147, 3) := by decide +kernel
theorem dX6_undo_23 : decode cX6_undo 23 = .ok (.aload_n 0, 1) := by decide +kernel
theorem dX6_undo_24 : decode cX6_undo 24 = .ok (.getfield 7, 3) := by decide +kernel
theorem dX6_undo_27 : decode cX6_undo 27 = .ok (.iconst 1, 1) := by decide +kernel
theorem dX6_undo_28 : decode cX6_undo 28 = .ok (.iaload, 1) := by decide +kernel
theorem dX6_undo_29 : decode cX6_undo 29 = .ok (.ireturn, 1) := by decide +kernel
theorem dX6_tear_0 : decode cX6_tear 0 = .ok (.aload_n 0, 1) := by decide +kernel
theorem dX6_tear_1 : decode cX6_tear 1 = .ok (.getfield 272, 3) := by decide +kernel
theorem dX6_tear_4 : decode cX6_tear 4 = .ok (.ifCond .eq 7, 3) := by decide +kernel
theorem dX6_tear_7 : decode cX6_tear 7 = .ok (.iconst 1, 1) := by decide +kernel
theorem dX6_tear_8 : decode cX6_tear 8 = .ok (.goto 4, 3) := by decide +kernel
theorem dX6_tear_11 : decode cX6_tear 11 = .ok (.iconst 0, 1) := by decide +kernel
theorem dX6_tear_12 : decode cX6_tear 12 = .ok (.istore_n 1, 1) := by decide +kernel
theorem dX6_tear_13 : decode cX6_tear 13 = .ok (.aload_n 0, 1) := by decide +kernel
theorem dX6_tear_14 : decode cX6_tear 14 = .ok (.iconst 0, 1) := by decide +kernel
theorem dX6_tear_15 : decode cX6_tear 15 = .ok (.putfield 272, 3) := by decide +kernel
theorem dX6_tear_18 : decode cX6_tear 18 = .ok (.iload_n 1, 1) := by decide +kernel
theorem dX6_tear_19 : decode cX6_tear 19 = .ok (.ireturn, 1) := by decide +kernel
theorem dX6_weights_0 : decode cX6_weights 0 = .ok (.iconst 0, 1) := by decide +kernel
theorem dX6_weights_1 : decode cX6_weights 1 = .ok (.istore_n 1, 1) := by decide +kernel
theorem dX6_weights_2 : decode cX6_weights 2 = .ok (.iconst 0, 1) := by decide +kernel
theorem dX6_weights_3 : decode cX6_weights 3 = .ok (.istore_n 2, 1) := by decide +kernel
theorem dX6_weights_4 : decode cX6_weights 4 = .ok (.iload_n 2, 1) := by decide +kernel
theorem dX6_weights_5 : decode cX6_weights 5 = .ok (.iconst 4, 1) := by decide +kernel
theorem dX6_weights_6 : decode cX6_weights 6 = .ok (.if_icmp .ge 18, 3) := by decide +kernel
theorem dX6_weights_9 : decode cX6_weights 9 = .ok (.iload_n 1, 1) := by decide +kernel
theorem dX6_weights_10 : decode cX6_weights 10 = .ok (.aload_n 0, 1) := by decide +kernel
theorem dX6_weights_11 : decode cX6_weights 11 = .ok (.iload_n 2, 1) := by decide +kernel
theorem dX6_weights_12 : decode cX6_weights 12 = .ok (.iconst 0, 1) := by decide +kernel
theorem dX6_weights_13 : decode cX6_weights 13 = .ok (.invokevirtual 57, 3) := by decide +kernel
theorem dX6_weights_16 : decode cX6_weights 16 = .ok (.iadd, 1) := by decide +kernel
theorem dX6_weights_17 : decode cX6_weights 17 = .ok (.istore_n 1, 1) := by decide +kernel
theorem dX6_weights_18 : decode cX6_weights 18 = .ok (.iinc 2 1, 3) := by decide +kernel
theorem dX6_weights_21 : decode cX6_weights 21 = .ok (.goto (-17), 3) := by decide +kernel
theorem dX6_weights_24 : decode cX6_weights 24 = .ok (.iload_n 1, 1) := by decide +kernel
theorem dX6_weights_25 : decode cX6_weights 25 = .ok (.ireturn, 1) := by decide +kernel
theorem dX6_count_0 : decode cX6_count 0 = .ok (.iload_n 1, 1) := by decide +kernel
theorem dX6_count_1 : decode cX6_count 1 = .ok (.tableswitch 54 0 3 #[31, 38, 43, 48], 31) := by decide +kernel
theorem dX6_count_32 : decode cX6_count 32 = .ok (.aload_n 0, 1) := by decide +kernel
theorem dX6_count_33 : decode cX6_count 33 = .ok (.getfield 7, 3) := by decide +kernel
theorem dX6_count_36 : decode cX6_count 36 = .ok (.iconst 1, 1) := by decide +kernel
theorem dX6_count_37 : decode cX6_count 37 = .ok (.iaload, 1) := by decide +kernel
theorem dX6_count_38 : decode cX6_count 38 = .ok (.ireturn, 1) := by decide +kernel
theorem dX6_count_39 : decode cX6_count 39 = .ok (.aload_n 0, 1) := by decide +kernel
theorem dX6_count_40 : decode cX6_count 40 = .ok (.getfield 158, 3) := by decide +kernel
theorem dX6_count_43 : decode cX6_count 43 = .ok (.ireturn, 1) := by decide +kernel
theorem dX6_count_44 : decode cX6_count 44 = .ok (.aload_n 0, 1) := by decide +kernel
theorem dX6_count_45 : decode cX6_count 45 = .ok (.invokevirtual 275, 3) := by decide +kernel
theorem dX6_count_48 : decode cX6_count 48 = .ok (.ireturn, 1) := by decide +kernel
theorem dX6_count_49 : decode cX6_count 49 = .ok (.aload_n 0, 1) := by decide +kernel
theorem dX6_count_50 : decode cX6_count 50 = .ok (.iconst 4, 1) := by decide +kernel
theorem dX6_count_51 : decode cX6_count 51 = .ok (.invokevirtual 101, 3) := by decide +kernel
theorem dX6_count_54 : decode cX6_count 54 = .ok (.ireturn, 1) := by decide +kernel
theorem dX6_count_55 : decode cX6_count 55 = .ok (.aload_n 0, 1) := by decide +kernel
theorem dX6_count_56 : decode cX6_count 56 = .ok (.ldc 48, 2) := by decide +kernel
theorem dX6_count_58 : decode cX6_count 58 = .ok (.invokevirtual 82, 3) := by decide +kernel
theorem dX6_count_61 : decode cX6_count 61 = .ok (.ireturn, 1) := by decide +kernel
theorem dX6_status_0 : decode cX6_status 0 = .ok (.iload_n 1, 1) := by decide +kernel
theorem dX6_status_1 : decode cX6_status 1 = .ok (.iconst (-1), 1) := by decide +kernel
theorem dX6_status_2 : decode cX6_status 2 = .ok (.bipush 6, 2) := by decide +kernel
theorem dX6_status_4 : decode cX6_status 4 = .ok (.invokestatic 49, 3) := by decide +kernel
theorem dX6_status_7 : decode cX6_status 7 = .ok (.ifCond .ne 10, 3) := by decide +kernel
theorem dX6_status_10 : decode cX6_status 10 = .ok (.aload_n 0, 1) := by decide +kernel
theorem dX6_status_11 : decode cX6_status 11 = .ok (.ldc 48, 2) := by decide +kernel
theorem dX6_status_13 : decode cX6_status 13 = .ok (.invokevirtual 82, 3) := by decide +kernel
theorem dX6_status_16 : decode cX6_status 16 = .ok (.ireturn, 1) := by decide +kernel
theorem dX6_status_17 : decode cX6_status 17 = .ok (.iconst 0, 1) := by decide +kernel
theorem dX6_status_18 : decode cX6_status 18 = .ok (.istore_n 2, 1) := by decide +kernel
theorem dX6_status_19 : decode cX6_status 19 = .ok (.iconst 0, 1) := by decide +kernel
theorem dX6_status_20 : decode cX6_status 20 = .ok (.istore_n 3, 1) := by decide +kernel
theorem dX6_status_21 : decode cX6_status 21 = .ok (.iload_n 3, 1) := by decide +kernel
theorem dX6_status_22 : decode cX6_status 22 = .ok (.bipush 7, 2) := by decide +kernel
theorem dX6_status_24 : decode cX6_status 24 = .ok (.if_icmp .ge 18, 3) := by decide +kernel
theorem dX6_status_27 : decode cX6_status 27 = .ok (.iload_n 2, 1) := by decide +kernel
theorem dX6_status_28 : decode cX6_status 28 = .ok (.aload_n 0, 1) := by decide +kernel
theorem dX6_status_29 : decode cX6_status 29 = .ok (.getfield 13, 3) := by decide +kernel
theorem dX6_status_32 : decode cX6_status 32 = .ok (.iload_n 3, 1) := by decide +kernel
theorem dX6_status_33 : decode cX6_status 33 = .ok (.iaload, 1) := by decide +kernel
theorem dX6_status_34 : decode cX6_status 34 = .ok (.iadd, 1) := by decide +kernel
theorem dX6_status_35 : decode cX6_status 35 = .ok (.istore_n 2, 1) := by decide +kernel
theorem dX6_status_36 : decode cX6_status 36 = .ok (.iinc 3 1, 3) := by decide +kernel
theorem dX6_status_39 : decode cX6_status 39 = .ok (.goto (-18), 3) := by decide +kernel
theorem dX6_status_42 : decode cX6_status 42 = .ok (.iload_n 1, 1) := by decide +kernel
theorem dX6_status_43 : decode cX6_status 43 = .ok (.ifCond .ge 7, 3) := by decide +kernel
theorem dX6_status_46 : decode cX6_status 46 = .ok (.iload_n 2, 1) := by decide +kernel
theorem dX6_status_47 : decode cX6_status 47 = .ok (.goto 17, 3) := by decide +kernel
theorem dX6_status_50 : decode cX6_status 50 = .ok (.aload_n 0, 1) := by decide +kernel
theorem dX6_status_51 : decode cX6_status 51 = .ok (.getfield 13, 3) := by decide +kernel
theorem dX6_status_54 : decode cX6_status 54 = .ok (.iload_n 1, 1) := by decide +kernel
theorem dX6_status_55 : decode cX6_status 55 = .ok (.ifCond .ge 7, 3) := by decide +kernel
theorem dX6_status_58 : decode cX6_status 58 = .ok (.iconst 0, 1) := by decide +kernel
theorem dX6_status_59 : decode cX6_status 59 = .ok (.goto 4, 3) := by decide +kernel
theorem dX6_status_62 : decode cX6_status 62 = .ok (.iload_n 1, 1) := by decide +kernel
theorem dX6_status_63 : decode cX6_status 63 = .ok (.iaload, 1) := by decide +kernel
theorem dX6_status_64 : decode cX6_status 64 = .ok (.ireturn, 1) := by decide +kernel
end
section
theorem dL_law_0 : decode cL_law 0 = .ok (.new 7, 3) := by decide +kernel
theorem dL_law_3 : decode cL_law 3 = .ok (.dup, 1) := by decide +kernel
theorem dL_law_4 : decode cL_law 4 = .ok (.invokespecial 9, 3) := by decide +kernel
theorem dL_law_7 : decode cL_law 7 = .ok (.astore_n 1, 1) := by decide +kernel
theorem dL_law_8 : decode cL_law 8 = .ok (.new 10, 3) := by decide +kernel
theorem dL_law_11 : decode cL_law 11 = .ok (.dup, 1) := by decide +kernel
theorem dL_law_12 : decode cL_law 12 = .ok (.invokespecial 12, 3) := by decide +kernel
theorem dL_law_15 : decode cL_law 15 = .ok (.astore_n 2, 1) := by decide +kernel
theorem dL_law_16 : decode cL_law 16 = .ok (.iconst 0, 1) := by decide +kernel
theorem dL_law_17 : decode cL_law 17 = .ok (.istore_n 3, 1) := by decide +kernel
theorem dL_law_18 : decode cL_law 18 = .ok (.iload_n 3, 1) := by decide +kernel
theorem dL_law_19 : decode cL_law 19 = .ok (.aload_n 0, 1) := by decide +kernel
theorem dL_law_20 : decode cL_law 20 = .ok (.arraylength, 1) := by decide +kernel
theorem dL_law_21 : decode cL_law 21 = .ok (.bipush 6, 2) := by decide +kernel
theorem dL_law_23 : decode cL_law 23 = .ok (.isub, 1) := by decide +kernel
theorem dL_law_24 : decode cL_law 24 = .ok (.if_icmp .gt 1324, 3) := by decide +kernel
theorem dL_law_27 : decode cL_law 27 = .ok (.aload_n 0, 1) := by decide +kernel
theorem dL_law_28 : decode cL_law 28 = .ok (.iload_n 3, 1) := by decide +kernel
theorem dL_law_29 : decode cL_law 29 = .ok (.iaload, 1) := by decide +kernel
theorem dL_law_30 : decode cL_law 30 = .ok (.bipush 63, 2) := by decide +kernel
theorem dL_law_32 : decode cL_law 32 = .ok (.iand, 1) := by decide +kernel
theorem dL_law_33 : decode cL_law 33 = .ok (.tableswitch 1309 0 38 #[171, 204, 237, 260, 293, 316, 349, 382, 425, 458, 491, 514, 537, 560, 583, 626, 659, 682, 705, 728, 751, 784, 817, 850, 873, 896, 929, 942, 955, 998, 1072, 1135, 1158, 1191, 1224, 1237, 1250, 1263, 1286], 171) := by decide +kernel
theorem dL_law_204 : decode cL_law 204 = .ok (.aload_n 1, 1) := by decide +kernel
theorem dL_law_205 : decode cL_law 205 = .ok (.aload_n 0, 1) := by decide +kernel
theorem dL_law_206 : decode cL_law 206 = .ok (.iload_n 3, 1) := by decide +kernel
theorem dL_law_207 : decode cL_law 207 = .ok (.iconst 1, 1) := by decide +kernel
theorem dL_law_208 : decode cL_law 208 = .ok (.iadd, 1) := by decide +kernel
theorem dL_law_209 : decode cL_law 209 = .ok (.iaload, 1) := by decide +kernel
theorem dL_law_210 : decode cL_law 210 = .ok (.aload_n 0, 1) := by decide +kernel
theorem dL_law_211 : decode cL_law 211 = .ok (.iload_n 3, 1) := by decide +kernel
theorem dL_law_212 : decode cL_law 212 = .ok (.iconst 2, 1) := by decide +kernel
theorem dL_law_213 : decode cL_law 213 = .ok (.iadd, 1) := by decide +kernel
theorem dL_law_214 : decode cL_law 214 = .ok (.iaload, 1) := by decide +kernel
theorem dL_law_215 : decode cL_law 215 = .ok (.invokevirtual 13, 3) := by decide +kernel
theorem dL_law_218 : decode cL_law 218 = .ok (.aload_n 2, 1) := by decide +kernel
theorem dL_law_219 : decode cL_law 219 = .ok (.aload_n 0, 1) := by decide +kernel
theorem dL_law_220 : decode cL_law 220 = .ok (.iload_n 3, 1) := by decide +kernel
theorem dL_law_221 : decode cL_law 221 = .ok (.iconst 1, 1) := by decide +kernel
theorem dL_law_222 : decode cL_law 222 = .ok (.iadd, 1) := by decide +kernel
theorem dL_law_223 : decode cL_law 223 = .ok (.iaload, 1) := by decide +kernel
theorem dL_law_224 : decode cL_law 224 = .ok (.aload_n 0, 1) := by decide +kernel
theorem dL_law_225 : decode cL_law 225 = .ok (.iload_n 3, 1) := by decide +kernel
theorem dL_law_226 : decode cL_law 226 = .ok (.iconst 2, 1) := by decide +kernel
theorem dL_law_227 : decode cL_law 227 = .ok (.iadd, 1) := by decide +kernel
theorem dL_law_228 : decode cL_law 228 = .ok (.iaload, 1) := by decide +kernel
theorem dL_law_229 : decode cL_law 229 = .ok (.invokevirtual 17, 3) := by decide +kernel
theorem dL_law_232 : decode cL_law 232 = .ok (.if_icmp .eq 1110, 3) := by decide +kernel
theorem dL_law_235 : decode cL_law 235 = .ok (.iconst 0, 1) := by decide +kernel
theorem dL_law_236 : decode cL_law 236 = .ok (.ireturn, 1) := by decide +kernel
theorem dL_law_237 : decode cL_law 237 = .ok (.aload_n 1, 1) := by decide +kernel
theorem dL_law_238 : decode cL_law 238 = .ok (.aload_n 0, 1) := by decide +kernel
theorem dL_law_239 : decode cL_law 239 = .ok (.iload_n 3, 1) := by decide +kernel
theorem dL_law_240 : decode cL_law 240 = .ok (.iconst 1, 1) := by decide +kernel
theorem dL_law_241 : decode cL_law 241 = .ok (.iadd, 1) := by decide +kernel
theorem dL_law_242 : decode cL_law 242 = .ok (.iaload, 1) := by decide +kernel
theorem dL_law_243 : decode cL_law 243 = .ok (.aload_n 0, 1) := by decide +kernel
theorem dL_law_244 : decode cL_law 244 = .ok (.iload_n 3, 1) := by decide +kernel
theorem dL_law_245 : decode cL_law 245 = .ok (.iconst 2, 1) := by decide +kernel
theorem dL_law_246 : decode cL_law 246 = .ok (.iadd, 1) := by decide +kernel
theorem dL_law_247 : decode cL_law 247 = .ok (.iaload, 1) := by decide +kernel
theorem dL_law_248 : decode cL_law 248 = .ok (.invokevirtual 18, 3) := by decide +kernel
theorem dL_law_251 : decode cL_law 251 = .ok (.aload_n 2, 1) := by decide +kernel
theorem dL_law_252 : decode cL_law 252 = .ok (.aload_n 0, 1) := by decide +kernel
theorem dL_law_253 : decode cL_law 253 = .ok (.iload_n 3, 1) := by decide +kernel
theorem dL_law_254 : decode cL_law 254 = .ok (.iconst 1, 1) := by decide +kernel
theorem dL_law_255 : decode cL_law 255 = .ok (.iadd, 1) := by decide +kernel
theorem dL_law_256 : decode cL_law 256 = .ok (.iaload, 1) := by decide +kernel
theorem dL_law_257 : decode cL_law 257 = .ok (.aload_n 0, 1) := by decide +kernel
theorem dL_law_258 : decode cL_law 258 = .ok (.iload_n 3, 1) := by decide +kernel
theorem dL_law_259 : decode cL_law 259 = .ok (.iconst 2, 1) := by decide +kernel
theorem dL_law_260 : decode cL_law 260 = .ok (.iadd, 1) := by decide +kernel
theorem dL_law_261 : decode cL_law 261 = .ok (.iaload, 1) := by decide +kernel
theorem dL_law_262 : decode cL_law 262 = .ok (.invokevirtual 21, 3) := by decide +kernel
theorem dL_law_265 : decode cL_law 265 = .ok (.if_icmp .eq 1077, 3) := by decide +kernel
theorem dL_law_268 : decode cL_law 268 = .ok (.iconst 0, 1) := by decide +kernel
theorem dL_law_269 : decode cL_law 269 = .ok (.ireturn, 1) := by decide +kernel
theorem dL_law_270 : decode cL_law 270 = .ok (.aload_n 1, 1) := by decide +kernel
theorem dL_law_271 : decode cL_law 271 = .ok (.aload_n 0, 1) := by decide +kernel
theorem dL_law_272 : decode cL_law 272 = .ok (.iload_n 3, 1) := by decide +kernel
theorem dL_law_273 : decode cL_law 273 = .ok (.iconst 1, 1) := by decide +kernel
theorem dL_law_274 : decode cL_law 274 = .ok (.iadd, 1) := by decide +kernel
theorem dL_law_275 : decode cL_law 275 = .ok (.iaload, 1) := by decide +kernel
theorem dL_law_276 : decode cL_law 276 = .ok (.invokevirtual 22, 3) := by decide +kernel
theorem dL_law_279 : decode cL_law 279 = .ok (.aload_n 2, 1) := by decide +kernel
theorem dL_law_280 : decode cL_law 280 = .ok (.aload_n 0, 1) := by decide +kernel
theorem dL_law_281 : decode cL_law 281 = .ok (.iload_n 3, 1) := by decide +kernel
theorem dL_law_282 : decode cL_law 282 = .ok (.iconst 1, 1) := by decide +kernel
theorem dL_law_283 : decode cL_law 283 = .ok (.iadd, 1) := by decide +kernel
theorem dL_law_284 : decode cL_law 284 = .ok (.iaload, 1) := by decide +kernel
theorem dL_law_285 : decode cL_law 285 = .ok (.invokevirtual 26, 3) := by decide +kernel
theorem dL_law_288 : decode cL_law 288 = .ok (.if_icmp .eq 1054, 3) := by decide +kernel
theorem dL_law_291 : decode cL_law 291 = .ok (.iconst 0, 1) := by decide +kernel
theorem dL_law_292 : decode cL_law 292 = .ok (.ireturn, 1) := by decide +kernel
theorem dL_law_293 : decode cL_law 293 = .ok (.aload_n 1, 1) := by decide +kernel
theorem dL_law_294 : decode cL_law 294 = .ok (.aload_n 0, 1) := by decide +kernel
theorem dL_law_295 : decode cL_law 295 = .ok (.iload_n 3, 1) := by decide +kernel
theorem dL_law_296 : decode cL_law 296 = .ok (.iconst 1, 1) := by decide +kernel
theorem dL_law_297 : decode cL_law 297 = .ok (.iadd, 1) := by decide +kernel
theorem dL_law_298 : decode cL_law 298 = .ok (.iaload, 1) := by decide +kernel
theorem dL_law_299 : decode cL_law 299 = .ok (.aload_n 0, 1) := by decide +kernel
theorem dL_law_300 : decode cL_law 300 = .ok (.iload_n 3, 1) := by decide +kernel
theorem dL_law_301 : decode cL_law 301 = .ok (.iconst 2, 1) := by decide +kernel
theorem dL_law_302 : decode cL_law 302 = .ok (.iadd, 1) := by decide +kernel
theorem dL_law_303 : decode cL_law 303 = .ok (.iaload, 1) := by decide +kernel
theorem dL_law_304 : decode cL_law 304 = .ok (.invokevirtual 27, 3) := by decide +kernel
theorem dL_law_307 : decode cL_law 307 = .ok (.aload_n 2, 1) := by decide +kernel
theorem dL_law_308 : decode cL_law 308 = .ok (.aload_n 0, 1) := by decide +kernel
theorem dL_law_309 : decode cL_law 309 = .ok (.iload_n 3, 1) := by decide +kernel
theorem dL_law_310 : decode cL_law 310 = .ok (.iconst 1, 1) := by decide +kernel
theorem dL_law_311 : decode cL_law 311 = .ok (.iadd, 1) := by decide +kernel
theorem dL_law_312 : decode cL_law 312 = .ok (.iaload, 1) := by decide +kernel
theorem dL_law_313 : decode cL_law 313 = .ok (.aload_n 0, 1) := by decide +kernel
theorem dL_law_314 : decode cL_law 314 = .ok (.iload_n 3, 1) := by decide +kernel
theorem dL_law_315 : decode cL_law 315 = .ok (.iconst 2, 1) := by decide +kernel
theorem dL_law_316 : decode cL_law 316 = .ok (.iadd, 1) := by decide +kernel
theorem dL_law_317 : decode cL_law 317 = .ok (.iaload, 1) := by decide +kernel
theorem dL_law_318 : decode cL_law 318 = .ok (.invokevirtual 30, 3) := by decide +kernel
theorem dL_law_321 : decode cL_law 321 = .ok (.if_icmp .eq 1021, 3) := by decide +kernel
theorem dL_law_324 : decode cL_law 324 = .ok (.iconst 0, 1) := by decide +kernel
theorem dL_law_325 : decode cL_law 325 = .ok (.ireturn, 1) := by decide +kernel
theorem dL_law_326 : decode cL_law 326 = .ok (.aload_n 1, 1) := by decide +kernel
theorem dL_law_327 : decode cL_law 327 = .ok (.aload_n 0, 1) := by decide +kernel
theorem dL_law_328 : decode cL_law 328 = .ok (.iload_n 3, 1) := by decide +kernel
theorem dL_law_329 : decode cL_law 329 = .ok (.iconst 1, 1) := by decide +kernel
theorem dL_law_330 : decode cL_law 330 = .ok (.iadd, 1) := by decide +kernel
theorem dL_law_331 : decode cL_law 331 = .ok (.iaload, 1) := by decide +kernel
theorem dL_law_332 : decode cL_law 332 = .ok (.invokevirtual 31, 3) := by decide +kernel
theorem dL_law_335 : decode cL_law 335 = .ok (.aload_n 2, 1) := by decide +kernel
theorem dL_law_336 : decode cL_law 336 = .ok (.aload_n 0, 1) := by decide +kernel
theorem dL_law_337 : decode cL_law 337 = .ok (.iload_n 3, 1) := by decide +kernel
theorem dL_law_338 : decode cL_law 338 = .ok (.iconst 1, 1) := by decide +kernel
theorem dL_law_339 : decode cL_law 339 = .ok (.iadd, 1) := by decide +kernel
theorem dL_law_340 : decode cL_law 340 = .ok (.iaload, 1) := by decide +kernel
theorem dL_law_341 : decode cL_law 341 = .ok (.invokevirtual 34, 3) := by decide +kernel
theorem dL_law_344 : decode cL_law 344 = .ok (.if_icmp .eq 998, 3) := by decide +kernel
theorem dL_law_347 : decode cL_law 347 = .ok (.iconst 0, 1) := by decide +kernel
theorem dL_law_348 : decode cL_law 348 = .ok (.ireturn, 1) := by decide +kernel
theorem dL_law_349 : decode cL_law 349 = .ok (.aload_n 1, 1) := by decide +kernel
theorem dL_law_350 : decode cL_law 350 = .ok (.aload_n 0, 1) := by decide +kernel
theorem dL_law_351 : decode cL_law 351 = .ok (.iload_n 3, 1) := by decide +kernel
theorem dL_law_352 : decode cL_law 352 = .ok (.iconst 1, 1) := by decide +kernel
theorem dL_law_353 : decode cL_law 353 = .ok (.iadd, 1) := by decide +kernel
theorem dL_law_354 : decode cL_law 354 = .ok (.iaload, 1) := by decide +kernel
theorem dL_law_355 : decode cL_law 355 = .ok (.aload_n 0, 1) := by decide +kernel
theorem dL_law_356 : decode cL_law 356 = .ok (.iload_n 3, 1) := by decide +kernel
theorem dL_law_357 : decode cL_law 357 = .ok (.iconst 2, 1) := by decide +kernel
theorem dL_law_358 : decode cL_law 358 = .ok (.iadd, 1) := by decide +kernel
theorem dL_law_359 : decode cL_law 359 = .ok (.iaload, 1) := by decide +kernel
theorem dL_law_360 : decode cL_law 360 = .ok (.invokevirtual 35, 3) := by decide +kernel
theorem dL_law_363 : decode cL_law 363 = .ok (.aload_n 2, 1) := by decide +kernel
theorem dL_law_364 : decode cL_law 364 = .ok (.aload_n 0, 1) := by decide +kernel
theorem dL_law_365 : decode cL_law 365 = .ok (.iload_n 3, 1) := by decide +kernel
theorem dL_law_366 : decode cL_law 366 = .ok (.iconst 1, 1) := by decide +kernel
theorem dL_law_367 : decode cL_law 367 = .ok (.iadd, 1) := by decide +kernel
theorem dL_law_368 : decode cL_law 368 = .ok (.iaload, 1) := by decide +kernel
theorem dL_law_369 : decode cL_law 369 = .ok (.aload_n 0, 1) := by decide +kernel
theorem dL_law_370 : decode cL_law 370 = .ok (.iload_n 3, 1) := by decide +kernel
theorem dL_law_371 : decode cL_law 371 = .ok (.iconst 2, 1) := by decide +kernel
theorem dL_law_372 : decode cL_law 372 = .ok (.iadd, 1) := by decide +kernel
theorem dL_law_373 : decode cL_law 373 = .ok (.iaload, 1) := by decide +kernel
theorem dL_law_374 : decode cL_law 374 = .ok (.invokevirtual 38, 3) := by decide +kernel
theorem dL_law_377 : decode cL_law 377 = .ok (.if_icmp .eq 965, 3) := by decide +kernel
theorem dL_law_380 : decode cL_law 380 = .ok (.iconst 0, 1) := by decide +kernel
theorem dL_law_381 : decode cL_law 381 = .ok (.ireturn, 1) := by decide +kernel
theorem dL_law_382 : decode cL_law 382 = .ok (.aload_n 1, 1) := by decide +kernel
theorem dL_law_383 : decode cL_law 383 = .ok (.aload_n 0, 1) := by decide +kernel
theorem dL_law_384 : decode cL_law 384 = .ok (.iload_n 3, 1) := by decide +kernel
theorem dL_law_385 : decode cL_law 385 = .ok (.iconst 1, 1) := by decide +kernel
theorem dL_law_386 : decode cL_law 386 = .ok (.iadd, 1) := by decide +kernel
theorem dL_law_387 : decode cL_law 387 = .ok (.iaload, 1) := by decide +kernel
theorem dL_law_388 : decode cL_law 388 = .ok (.aload_n 0, 1) := by decide +kernel
theorem dL_law_389 : decode cL_law 389 = .ok (.iload_n 3, 1) := by decide +kernel
theorem dL_law_390 : decode cL_law 390 = .ok (.iconst 2, 1) := by decide +kernel
theorem dL_law_391 : decode cL_law 391 = .ok (.iadd, 1) := by decide +kernel
theorem dL_law_392 : decode cL_law 392 = .ok (.iaload, 1) := by decide +kernel
theorem dL_law_393 : decode cL_law 393 = .ok (.invokevirtual 39, 3) := by decide +kernel
theorem dL_law_396 : decode cL_law 396 = .ok (.aload_n 2, 1) := by decide +kernel
theorem dL_law_397 : decode cL_law 397 = .ok (.aload_n 0, 1) := by decide +kernel
theorem dL_law_398 : decode cL_law 398 = .ok (.iload_n 3, 1) := by decide +kernel
theorem dL_law_399 : decode cL_law 399 = .ok (.iconst 1, 1) := by decide +kernel
theorem dL_law_400 : decode cL_law 400 = .ok (.iadd, 1) := by decide +kernel
theorem dL_law_401 : decode cL_law 401 = .ok (.iaload, 1) := by decide +kernel
theorem dL_law_402 : decode cL_law 402 = .ok (.aload_n 0, 1) := by decide +kernel
theorem dL_law_403 : decode cL_law 403 = .ok (.iload_n 3, 1) := by decide +kernel
theorem dL_law_404 : decode cL_law 404 = .ok (.iconst 2, 1) := by decide +kernel
theorem dL_law_405 : decode cL_law 405 = .ok (.iadd, 1) := by decide +kernel
theorem dL_law_406 : decode cL_law 406 = .ok (.iaload, 1) := by decide +kernel
theorem dL_law_407 : decode cL_law 407 = .ok (.invokevirtual 42, 3) := by decide +kernel
theorem dL_law_410 : decode cL_law 410 = .ok (.if_icmp .eq 932, 3) := by decide +kernel
theorem dL_law_413 : decode cL_law 413 = .ok (.iconst 0, 1) := by decide +kernel
theorem dL_law_414 : decode cL_law 414 = .ok (.ireturn, 1) := by decide +kernel
theorem dL_law_415 : decode cL_law 415 = .ok (.aload_n 1, 1) := by decide +kernel
theorem dL_law_416 : decode cL_law 416 = .ok (.aload_n 0, 1) := by decide +kernel
theorem dL_law_417 : decode cL_law 417 = .ok (.iload_n 3, 1) := by decide +kernel
theorem dL_law_418 : decode cL_law 418 = .ok (.iconst 1, 1) := by decide +kernel
theorem dL_law_419 : decode cL_law 419 = .ok (.iadd, 1) := by decide +kernel
theorem dL_law_420 : decode cL_law 420 = .ok (.iaload, 1) := by decide +kernel
theorem dL_law_421 : decode cL_law 421 = .ok (.aload_n 0, 1) := by decide +kernel
theorem dL_law_422 : decode cL_law 422 = .ok (.iload_n 3, 1) := by decide +kernel
theorem dL_law_423 : decode cL_law 423 = .ok (.iconst 2, 1) := by decide +kernel
theorem dL_law_424 : decode cL_law 424 = .ok (.iadd, 1) := by decide +kernel
theorem dL_law_425 : decode cL_law 425 = .ok (.iaload, 1) := by decide +kernel
theorem dL_law_426 : decode cL_law 426 = .ok (.aload_n 0, 1) := by decide +kernel
theorem dL_law_427 : decode cL_law 427 = .ok (.iload_n 3, 1) := by decide +kernel
theorem dL_law_428 : decode cL_law 428 = .ok (.iconst 3, 1) := by decide +kernel
theorem dL_law_429 : decode cL_law 429 = .ok (.iadd, 1) := by decide +kernel
theorem dL_law_430 : decode cL_law 430 = .ok (.iaload, 1) := by decide +kernel
theorem dL_law_431 : decode cL_law 431 = .ok (.invokevirtual 43, 3) := by decide +kernel
theorem dL_law_434 : decode cL_law 434 = .ok (.aload_n 2, 1) := by decide +kernel
theorem dL_law_435 : decode cL_law 435 = .ok (.aload_n 0, 1) := by decide +kernel
theorem dL_law_436 : decode cL_law 436 = .ok (.iload_n 3, 1) := by decide +kernel
theorem dL_law_437 : decode cL_law 437 = .ok (.iconst 1, 1) := by decide +kernel
theorem dL_law_438 : decode cL_law 438 = .ok (.iadd, 1) := by decide +kernel
theorem dL_law_439 : decode cL_law 439 = .ok (.iaload, 1) := by decide +kernel
theorem dL_law_440 : decode cL_law 440 = .ok (.aload_n 0, 1) := by decide +kernel
theorem dL_law_441 : decode cL_law 441 = .ok (.iload_n 3, 1) := by decide +kernel
theorem dL_law_442 : decode cL_law 442 = .ok (.iconst 2, 1) := by decide +kernel
theorem dL_law_443 : decode cL_law 443 = .ok (.iadd, 1) := by decide +kernel
theorem dL_law_444 : decode cL_law 444 = .ok (.iaload, 1) := by decide +kernel
theorem dL_law_445 : decode cL_law 445 = .ok (.aload_n 0, 1) := by decide +kernel
theorem dL_law_446 : decode cL_law 446 = .ok (.iload_n 3, 1) := by decide +kernel
theorem dL_law_447 : decode cL_law 447 = .ok (.iconst 3, 1) := by decide +kernel
theorem dL_law_448 : decode cL_law 448 = .ok (.iadd, 1) := by decide +kernel
theorem dL_law_449 : decode cL_law 449 = .ok (.iaload, 1) := by decide +kernel
theorem dL_law_450 : decode cL_law 450 = .ok (.invokevirtual 47, 3) := by decide +kernel
theorem dL_law_453 : decode cL_law 453 = .ok (.if_icmp .eq 889, 3) := by decide +kernel
theorem dL_law_456 : decode cL_law 456 = .ok (.iconst 0, 1) := by decide +kernel
theorem dL_law_457 : decode cL_law 457 = .ok (.ireturn, 1) := by decide +kernel
theorem dL_law_458 : decode cL_law 458 = .ok (.aload_n 1, 1) := by decide +kernel
theorem dL_law_459 : decode cL_law 459 = .ok (.aload_n 0, 1) := by decide +kernel
theorem dL_law_460 : decode cL_law 460 = .ok (.iload_n 3, 1) := by decide +kernel
theorem dL_law_461 : decode cL_law 461 = .ok (.iconst 1, 1) := by decide +kernel
theorem dL_law_462 : decode cL_law 462 = .ok (.iadd, 1) := by decide +kernel
theorem dL_law_463 : decode cL_law 463 = .ok (.iaload, 1) := by decide +kernel
theorem dL_law_464 : decode cL_law 464 = .ok (.aload_n 0, 1) := by decide +kernel
theorem dL_law_465 : decode cL_law 465 = .ok (.iload_n 3, 1) := by decide +kernel
theorem dL_law_466 : decode cL_law 466 = .ok (.iconst 2, 1) := by decide +kernel
theorem dL_law_467 : decode cL_law 467 = .ok (.iadd, 1) := by decide +kernel
theorem dL_law_468 : decode cL_law 468 = .ok (.iaload, 1) := by decide +kernel
theorem dL_law_469 : decode cL_law 469 = .ok (.invokevirtual 48, 3) := by decide +kernel
theorem dL_law_472 : decode cL_law 472 = .ok (.aload_n 2, 1) := by decide +kernel
theorem dL_law_473 : decode cL_law 473 = .ok (.aload_n 0, 1) := by decide +kernel
theorem dL_law_474 : decode cL_law 474 = .ok (.iload_n 3, 1) := by decide +kernel
theorem dL_law_475 : decode cL_law 475 = .ok (.iconst 1, 1) := by decide +kernel
theorem dL_law_476 : decode cL_law 476 = .ok (.iadd, 1) := by decide +kernel
theorem dL_law_477 : decode cL_law 477 = .ok (.iaload, 1) := by decide +kernel
theorem dL_law_478 : decode cL_law 478 = .ok (.aload_n 0, 1) := by decide +kernel
theorem dL_law_479 : decode cL_law 479 = .ok (.iload_n 3, 1) := by decide +kernel
theorem dL_law_480 : decode cL_law 480 = .ok (.iconst 2, 1) := by decide +kernel
theorem dL_law_481 : decode cL_law 481 = .ok (.iadd, 1) := by decide +kernel
theorem dL_law_482 : decode cL_law 482 = .ok (.iaload, 1) := by decide +kernel
theorem dL_law_483 : decode cL_law 483 = .ok (.invokevirtual 51, 3) := by decide +kernel
theorem dL_law_486 : decode cL_law 486 = .ok (.if_icmp .eq 856, 3) := by decide +kernel
theorem dL_law_489 : decode cL_law 489 = .ok (.iconst 0, 1) := by decide +kernel
theorem dL_law_490 : decode cL_law 490 = .ok (.ireturn, 1) := by decide +kernel
theorem dL_law_491 : decode cL_law 491 = .ok (.aload_n 1, 1) := by decide +kernel
theorem dL_law_492 : decode cL_law 492 = .ok (.aload_n 0, 1) := by decide +kernel
theorem dL_law_493 : decode cL_law 493 = .ok (.iload_n 3, 1) := by decide +kernel
theorem dL_law_494 : decode cL_law 494 = .ok (.iconst 1, 1) := by decide +kernel
theorem dL_law_495 : decode cL_law 495 = .ok (.iadd, 1) := by decide +kernel
theorem dL_law_496 : decode cL_law 496 = .ok (.iaload, 1) := by decide +kernel
theorem dL_law_497 : decode cL_law 497 = .ok (.aload_n 0, 1) := by decide +kernel
theorem dL_law_498 : decode cL_law 498 = .ok (.iload_n 3, 1) := by decide +kernel
theorem dL_law_499 : decode cL_law 499 = .ok (.iconst 2, 1) := by decide +kernel
theorem dL_law_500 : decode cL_law 500 = .ok (.iadd, 1) := by decide +kernel
theorem dL_law_501 : decode cL_law 501 = .ok (.iaload, 1) := by decide +kernel
theorem dL_law_502 : decode cL_law 502 = .ok (.invokevirtual 52, 3) := by decide +kernel
theorem dL_law_505 : decode cL_law 505 = .ok (.aload_n 2, 1) := by decide +kernel
theorem dL_law_506 : decode cL_law 506 = .ok (.aload_n 0, 1) := by decide +kernel
theorem dL_law_507 : decode cL_law 507 = .ok (.iload_n 3, 1) := by decide +kernel
theorem dL_law_508 : decode cL_law 508 = .ok (.iconst 1, 1) := by decide +kernel
theorem dL_law_509 : decode cL_law 509 = .ok (.iadd, 1) := by decide +kernel
theorem dL_law_510 : decode cL_law 510 = .ok (.iaload, 1) := by decide +kernel
theorem dL_law_511 : decode cL_law 511 = .ok (.aload_n 0, 1) := by decide +kernel
theorem dL_law_512 : decode cL_law 512 = .ok (.iload_n 3, 1) := by decide +kernel
theorem dL_law_513 : decode cL_law 513 = .ok (.iconst 2, 1) := by decide +kernel
theorem dL_law_514 : decode cL_law 514 = .ok (.iadd, 1) := by decide +kernel
theorem dL_law_515 : decode cL_law 515 = .ok (.iaload, 1) := by decide +kernel
theorem dL_law_516 : decode cL_law 516 = .ok (.invokevirtual 55, 3) := by decide +kernel
theorem dL_law_519 : decode cL_law 519 = .ok (.if_icmp .eq 823, 3) := by decide +kernel
theorem dL_law_522 : decode cL_law 522 = .ok (.iconst 0, 1) := by decide +kernel
theorem dL_law_523 : decode cL_law 523 = .ok (.ireturn, 1) := by decide +kernel
theorem dL_law_524 : decode cL_law 524 = .ok (.aload_n 1, 1) := by decide +kernel
theorem dL_law_525 : decode cL_law 525 = .ok (.aload_n 0, 1) := by decide +kernel
theorem dL_law_526 : decode cL_law 526 = .ok (.iload_n 3, 1) := by decide +kernel
theorem dL_law_527 : decode cL_law 527 = .ok (.iconst 1, 1) := by decide +kernel
theorem dL_law_528 : decode cL_law 528 = .ok (.iadd, 1) := by decide +kernel
theorem dL_law_529 : decode cL_law 529 = .ok (.iaload, 1) := by decide +kernel
theorem dL_law_530 : decode cL_law 530 = .ok (.invokevirtual 56, 3) := by decide +kernel
theorem dL_law_533 : decode cL_law 533 = .ok (.aload_n 2, 1) := by decide +kernel
theorem dL_law_534 : decode cL_law 534 = .ok (.aload_n 0, 1) := by decide +kernel
theorem dL_law_535 : decode cL_law 535 = .ok (.iload_n 3, 1) := by decide +kernel
theorem dL_law_536 : decode cL_law 536 = .ok (.iconst 1, 1) := by decide +kernel
theorem dL_law_537 : decode cL_law 537 = .ok (.iadd, 1) := by decide +kernel
theorem dL_law_538 : decode cL_law 538 = .ok (.iaload, 1) := by decide +kernel
theorem dL_law_539 : decode cL_law 539 = .ok (.invokevirtual 59, 3) := by decide +kernel
theorem dL_law_542 : decode cL_law 542 = .ok (.if_icmp .eq 800, 3) := by decide +kernel
theorem dL_law_545 : decode cL_law 545 = .ok (.iconst 0, 1) := by decide +kernel
theorem dL_law_546 : decode cL_law 546 = .ok (.ireturn, 1) := by decide +kernel
theorem dL_law_547 : decode cL_law 547 = .ok (.aload_n 1, 1) := by decide +kernel
theorem dL_law_548 : decode cL_law 548 = .ok (.aload_n 0, 1) := by decide +kernel
theorem dL_law_549 : decode cL_law 549 = .ok (.iload_n 3, 1) := by decide +kernel
theorem dL_law_550 : decode cL_law 550 = .ok (.iconst 1, 1) := by decide +kernel
theorem dL_law_551 : decode cL_law 551 = .ok (.iadd, 1) := by decide +kernel
theorem dL_law_552 : decode cL_law 552 = .ok (.iaload, 1) := by decide +kernel
theorem dL_law_553 : decode cL_law 553 = .ok (.invokevirtual 60, 3) := by decide +kernel
theorem dL_law_556 : decode cL_law 556 = .ok (.aload_n 2, 1) := by decide +kernel
theorem dL_law_557 : decode cL_law 557 = .ok (.aload_n 0, 1) := by decide +kernel
theorem dL_law_558 : decode cL_law 558 = .ok (.iload_n 3, 1) := by decide +kernel
theorem dL_law_559 : decode cL_law 559 = .ok (.iconst 1, 1) := by decide +kernel
theorem dL_law_560 : decode cL_law 560 = .ok (.iadd, 1) := by decide +kernel
theorem dL_law_561 : decode cL_law 561 = .ok (.iaload, 1) := by decide +kernel
theorem dL_law_562 : decode cL_law 562 = .ok (.invokevirtual 63, 3) := by decide +kernel
theorem dL_law_565 : decode cL_law 565 = .ok (.if_icmp .eq 777, 3) := by decide +kernel
theorem dL_law_568 : decode cL_law 568 = .ok (.iconst 0, 1) := by decide +kernel
theorem dL_law_569 : decode cL_law 569 = .ok (.ireturn, 1) := by decide +kernel
theorem dL_law_570 : decode cL_law 570 = .ok (.aload_n 1, 1) := by decide +kernel
theorem dL_law_571 : decode cL_law 571 = .ok (.aload_n 0, 1) := by decide +kernel
theorem dL_law_572 : decode cL_law 572 = .ok (.iload_n 3, 1) := by decide +kernel
theorem dL_law_573 : decode cL_law 573 = .ok (.iconst 1, 1) := by decide +kernel
theorem dL_law_574 : decode cL_law 574 = .ok (.iadd, 1) := by decide +kernel
theorem dL_law_575 : decode cL_law 575 = .ok (.iaload, 1) := by decide +kernel
theorem dL_law_576 : decode cL_law 576 = .ok (.invokevirtual 64, 3) := by decide +kernel
theorem dL_law_579 : decode cL_law 579 = .ok (.aload_n 2, 1) := by decide +kernel
theorem dL_law_580 : decode cL_law 580 = .ok (.aload_n 0, 1) := by decide +kernel
theorem dL_law_581 : decode cL_law 581 = .ok (.iload_n 3, 1) := by decide +kernel
theorem dL_law_582 : decode cL_law 582 = .ok (.iconst 1, 1) := by decide +kernel
theorem dL_law_583 : decode cL_law 583 = .ok (.iadd, 1) := by decide +kernel
theorem dL_law_584 : decode cL_law 584 = .ok (.iaload, 1) := by decide +kernel
theorem dL_law_585 : decode cL_law 585 = .ok (.invokevirtual 67, 3) := by decide +kernel
theorem dL_law_588 : decode cL_law 588 = .ok (.if_icmp .eq 754, 3) := by decide +kernel
theorem dL_law_591 : decode cL_law 591 = .ok (.iconst 0, 1) := by decide +kernel
theorem dL_law_592 : decode cL_law 592 = .ok (.ireturn, 1) := by decide +kernel
theorem dL_law_593 : decode cL_law 593 = .ok (.aload_n 1, 1) := by decide +kernel
theorem dL_law_594 : decode cL_law 594 = .ok (.aload_n 0, 1) := by decide +kernel
theorem dL_law_595 : decode cL_law 595 = .ok (.iload_n 3, 1) := by decide +kernel
theorem dL_law_596 : decode cL_law 596 = .ok (.iconst 1, 1) := by decide +kernel
theorem dL_law_597 : decode cL_law 597 = .ok (.iadd, 1) := by decide +kernel
theorem dL_law_598 : decode cL_law 598 = .ok (.iaload, 1) := by decide +kernel
theorem dL_law_599 : decode cL_law 599 = .ok (.invokevirtual 68, 3) := by decide +kernel
theorem dL_law_602 : decode cL_law 602 = .ok (.aload_n 2, 1) := by decide +kernel
theorem dL_law_603 : decode cL_law 603 = .ok (.aload_n 0, 1) := by decide +kernel
theorem dL_law_604 : decode cL_law 604 = .ok (.iload_n 3, 1) := by decide +kernel
theorem dL_law_605 : decode cL_law 605 = .ok (.iconst 1, 1) := by decide +kernel
theorem dL_law_606 : decode cL_law 606 = .ok (.iadd, 1) := by decide +kernel
theorem dL_law_607 : decode cL_law 607 = .ok (.iaload, 1) := by decide +kernel
theorem dL_law_608 : decode cL_law 608 = .ok (.invokevirtual 71, 3) := by decide +kernel
theorem dL_law_611 : decode cL_law 611 = .ok (.if_icmp .eq 731, 3) := by decide +kernel
theorem dL_law_614 : decode cL_law 614 = .ok (.iconst 0, 1) := by decide +kernel
theorem dL_law_615 : decode cL_law 615 = .ok (.ireturn, 1) := by decide +kernel
theorem dL_law_616 : decode cL_law 616 = .ok (.aload_n 1, 1) := by decide +kernel
theorem dL_law_617 : decode cL_law 617 = .ok (.aload_n 0, 1) := by decide +kernel
theorem dL_law_618 : decode cL_law 618 = .ok (.iload_n 3, 1) := by decide +kernel
theorem dL_law_619 : decode cL_law 619 = .ok (.iconst 1, 1) := by decide +kernel
theorem dL_law_620 : decode cL_law 620 = .ok (.iadd, 1) := by decide +kernel
theorem dL_law_621 : decode cL_law 621 = .ok (.iaload, 1) := by decide +kernel
theorem dL_law_622 : decode cL_law 622 = .ok (.aload_n 0, 1) := by decide +kernel
theorem dL_law_623 : decode cL_law 623 = .ok (.iload_n 3, 1) := by decide +kernel
theorem dL_law_624 : decode cL_law 624 = .ok (.iconst 2, 1) := by decide +kernel
theorem dL_law_625 : decode cL_law 625 = .ok (.iadd, 1) := by decide +kernel
theorem dL_law_626 : decode cL_law 626 = .ok (.iaload, 1) := by decide +kernel
theorem dL_law_627 : decode cL_law 627 = .ok (.aload_n 0, 1) := by decide +kernel
theorem dL_law_628 : decode cL_law 628 = .ok (.iload_n 3, 1) := by decide +kernel
theorem dL_law_629 : decode cL_law 629 = .ok (.iconst 3, 1) := by decide +kernel
theorem dL_law_630 : decode cL_law 630 = .ok (.iadd, 1) := by decide +kernel
theorem dL_law_631 : decode cL_law 631 = .ok (.iaload, 1) := by decide +kernel
theorem dL_law_632 : decode cL_law 632 = .ok (.invokevirtual 72, 3) := by decide +kernel
theorem dL_law_635 : decode cL_law 635 = .ok (.aload_n 2, 1) := by decide +kernel
theorem dL_law_636 : decode cL_law 636 = .ok (.aload_n 0, 1) := by decide +kernel
theorem dL_law_637 : decode cL_law 637 = .ok (.iload_n 3, 1) := by decide +kernel
theorem dL_law_638 : decode cL_law 638 = .ok (.iconst 1, 1) := by decide +kernel
theorem dL_law_639 : decode cL_law 639 = .ok (.iadd, 1) := by decide +kernel
theorem dL_law_640 : decode cL_law 640 = .ok (.iaload, 1) := by decide +kernel
theorem dL_law_641 : decode cL_law 641 = .ok (.aload_n 0, 1) := by decide +kernel
theorem dL_law_642 : decode cL_law 642 = .ok (.iload_n 3, 1) := by decide +kernel
theorem dL_law_643 : decode cL_law 643 = .ok (.iconst 2, 1) := by decide +kernel
theorem dL_law_644 : decode cL_law 644 = .ok (.iadd, 1) := by decide +kernel
theorem dL_law_645 : decode cL_law 645 = .ok (.iaload, 1) := by decide +kernel
theorem dL_law_646 : decode cL_law 646 = .ok (.aload_n 0, 1) := by decide +kernel
theorem dL_law_647 : decode cL_law 647 = .ok (.iload_n 3, 1) := by decide +kernel
theorem dL_law_648 : decode cL_law 648 = .ok (.iconst 3, 1) := by decide +kernel
theorem dL_law_649 : decode cL_law 649 = .ok (.iadd, 1) := by decide +kernel
theorem dL_law_650 : decode cL_law 650 = .ok (.iaload, 1) := by decide +kernel
theorem dL_law_651 : decode cL_law 651 = .ok (.invokevirtual 75, 3) := by decide +kernel
theorem dL_law_654 : decode cL_law 654 = .ok (.if_icmp .eq 688, 3) := by decide +kernel
theorem dL_law_657 : decode cL_law 657 = .ok (.iconst 0, 1) := by decide +kernel
theorem dL_law_658 : decode cL_law 658 = .ok (.ireturn, 1) := by decide +kernel
theorem dL_law_659 : decode cL_law 659 = .ok (.aload_n 1, 1) := by decide +kernel
theorem dL_law_660 : decode cL_law 660 = .ok (.aload_n 0, 1) := by decide +kernel
theorem dL_law_661 : decode cL_law 661 = .ok (.iload_n 3, 1) := by decide +kernel
theorem dL_law_662 : decode cL_law 662 = .ok (.iconst 1, 1) := by decide +kernel
theorem dL_law_663 : decode cL_law 663 = .ok (.iadd, 1) := by decide +kernel
theorem dL_law_664 : decode cL_law 664 = .ok (.iaload, 1) := by decide +kernel
theorem dL_law_665 : decode cL_law 665 = .ok (.aload_n 0, 1) := by decide +kernel
theorem dL_law_666 : decode cL_law 666 = .ok (.iload_n 3, 1) := by decide +kernel
theorem dL_law_667 : decode cL_law 667 = .ok (.iconst 2, 1) := by decide +kernel
theorem dL_law_668 : decode cL_law 668 = .ok (.iadd, 1) := by decide +kernel
theorem dL_law_669 : decode cL_law 669 = .ok (.iaload, 1) := by decide +kernel
theorem dL_law_670 : decode cL_law 670 = .ok (.invokevirtual 76, 3) := by decide +kernel
theorem dL_law_673 : decode cL_law 673 = .ok (.aload_n 2, 1) := by decide +kernel
theorem dL_law_674 : decode cL_law 674 = .ok (.aload_n 0, 1) := by decide +kernel
theorem dL_law_675 : decode cL_law 675 = .ok (.iload_n 3, 1) := by decide +kernel
theorem dL_law_676 : decode cL_law 676 = .ok (.iconst 1, 1) := by decide +kernel
theorem dL_law_677 : decode cL_law 677 = .ok (.iadd, 1) := by decide +kernel
theorem dL_law_678 : decode cL_law 678 = .ok (.iaload, 1) := by decide +kernel
theorem dL_law_679 : decode cL_law 679 = .ok (.aload_n 0, 1) := by decide +kernel
theorem dL_law_680 : decode cL_law 680 = .ok (.iload_n 3, 1) := by decide +kernel
theorem dL_law_681 : decode cL_law 681 = .ok (.iconst 2, 1) := by decide +kernel
theorem dL_law_682 : decode cL_law 682 = .ok (.iadd, 1) := by decide +kernel
theorem dL_law_683 : decode cL_law 683 = .ok (.iaload, 1) := by decide +kernel
theorem dL_law_684 : decode cL_law 684 = .ok (.invokevirtual 79, 3) := by decide +kernel
theorem dL_law_687 : decode cL_law 687 = .ok (.if_icmp .eq 655, 3) := by decide +kernel
theorem dL_law_690 : decode cL_law 690 = .ok (.iconst 0, 1) := by decide +kernel
theorem dL_law_691 : decode cL_law 691 = .ok (.ireturn, 1) := by decide +kernel
theorem dL_law_692 : decode cL_law 692 = .ok (.aload_n 1, 1) := by decide +kernel
theorem dL_law_693 : decode cL_law 693 = .ok (.aload_n 0, 1) := by decide +kernel
theorem dL_law_694 : decode cL_law 694 = .ok (.iload_n 3, 1) := by decide +kernel
theorem dL_law_695 : decode cL_law 695 = .ok (.iconst 1, 1) := by decide +kernel
theorem dL_law_696 : decode cL_law 696 = .ok (.iadd, 1) := by decide +kernel
theorem dL_law_697 : decode cL_law 697 = .ok (.iaload, 1) := by decide +kernel
theorem dL_law_698 : decode cL_law 698 = .ok (.invokevirtual 80, 3) := by decide +kernel
theorem dL_law_701 : decode cL_law 701 = .ok (.aload_n 2, 1) := by decide +kernel
theorem dL_law_702 : decode cL_law 702 = .ok (.aload_n 0, 1) := by decide +kernel
theorem dL_law_703 : decode cL_law 703 = .ok (.iload_n 3, 1) := by decide +kernel
theorem dL_law_704 : decode cL_law 704 = .ok (.iconst 1, 1) := by decide +kernel
theorem dL_law_705 : decode cL_law 705 = .ok (.iadd, 1) := by decide +kernel
theorem dL_law_706 : decode cL_law 706 = .ok (.iaload, 1) := by decide +kernel
theorem dL_law_707 : decode cL_law 707 = .ok (.invokevirtual 83, 3) := by decide +kernel
theorem dL_law_710 : decode cL_law 710 = .ok (.if_icmp .eq 632, 3) := by decide +kernel
theorem dL_law_713 : decode cL_law 713 = .ok (.iconst 0, 1) := by decide +kernel
theorem dL_law_714 : decode cL_law 714 = .ok (.ireturn, 1) := by decide +kernel
theorem dL_law_715 : decode cL_law 715 = .ok (.aload_n 1, 1) := by decide +kernel
theorem dL_law_716 : decode cL_law 716 = .ok (.aload_n 0, 1) := by decide +kernel
theorem dL_law_717 : decode cL_law 717 = .ok (.iload_n 3, 1) := by decide +kernel
theorem dL_law_718 : decode cL_law 718 = .ok (.iconst 1, 1) := by decide +kernel
theorem dL_law_719 : decode cL_law 719 = .ok (.iadd, 1) := by decide +kernel
theorem dL_law_720 : decode cL_law 720 = .ok (.iaload, 1) := by decide +kernel
theorem dL_law_721 : decode cL_law 721 = .ok (.invokevirtual 84, 3) := by decide +kernel
theorem dL_law_724 : decode cL_law 724 = .ok (.aload_n 2, 1) := by decide +kernel
theorem dL_law_725 : decode cL_law 725 = .ok (.aload_n 0, 1) := by decide +kernel
theorem dL_law_726 : decode cL_law 726 = .ok (.iload_n 3, 1) := by decide +kernel
theorem dL_law_727 : decode cL_law 727 = .ok (.iconst 1, 1) := by decide +kernel
theorem dL_law_728 : decode cL_law 728 = .ok (.iadd, 1) := by decide +kernel
theorem dL_law_729 : decode cL_law 729 = .ok (.iaload, 1) := by decide +kernel
theorem dL_law_730 : decode cL_law 730 = .ok (.invokevirtual 87, 3) := by decide +kernel
theorem dL_law_733 : decode cL_law 733 = .ok (.if_icmp .eq 609, 3) := by decide +kernel
theorem dL_law_736 : decode cL_law 736 = .ok (.iconst 0, 1) := by decide +kernel
theorem dL_law_737 : decode cL_law 737 = .ok (.ireturn, 1) := by decide +kernel
theorem dL_law_738 : decode cL_law 738 = .ok (.aload_n 1, 1) := by decide +kernel
theorem dL_law_739 : decode cL_law 739 = .ok (.aload_n 0, 1) := by decide +kernel
theorem dL_law_740 : decode cL_law 740 = .ok (.iload_n 3, 1) := by decide +kernel
theorem dL_law_741 : decode cL_law 741 = .ok (.iconst 1, 1) := by decide +kernel
theorem dL_law_742 : decode cL_law 742 = .ok (.iadd, 1) := by decide +kernel
theorem dL_law_743 : decode cL_law 743 = .ok (.iaload, 1) := by decide +kernel
theorem dL_law_744 : decode cL_law 744 = .ok (.invokevirtual 88, 3) := by decide +kernel
theorem dL_law_747 : decode cL_law 747 = .ok (.aload_n 2, 1) := by decide +kernel
theorem dL_law_748 : decode cL_law 748 = .ok (.aload_n 0, 1) := by decide +kernel
theorem dL_law_749 : decode cL_law 749 = .ok (.iload_n 3, 1) := by decide +kernel
theorem dL_law_750 : decode cL_law 750 = .ok (.iconst 1, 1) := by decide +kernel
theorem dL_law_751 : decode cL_law 751 = .ok (.iadd, 1) := by decide +kernel
theorem dL_law_752 : decode cL_law 752 = .ok (.iaload, 1) := by decide +kernel
theorem dL_law_753 : decode cL_law 753 = .ok (.invokevirtual 91, 3) := by decide +kernel
theorem dL_law_756 : decode cL_law 756 = .ok (.if_icmp .eq 586, 3) := by decide +kernel
theorem dL_law_759 : decode cL_law 759 = .ok (.iconst 0, 1) := by decide +kernel
theorem dL_law_760 : decode cL_law 760 = .ok (.ireturn, 1) := by decide +kernel
theorem dL_law_761 : decode cL_law 761 = .ok (.aload_n 1, 1) := by decide +kernel
theorem dL_law_762 : decode cL_law 762 = .ok (.aload_n 0, 1) := by decide +kernel
theorem dL_law_763 : decode cL_law 763 = .ok (.iload_n 3, 1) := by decide +kernel
theorem dL_law_764 : decode cL_law 764 = .ok (.iconst 1, 1) := by decide +kernel
theorem dL_law_765 : decode cL_law 765 = .ok (.iadd, 1) := by decide +kernel
theorem dL_law_766 : decode cL_law 766 = .ok (.iaload, 1) := by decide +kernel
theorem dL_law_767 : decode cL_law 767 = .ok (.invokevirtual 92, 3) := by decide +kernel
theorem dL_law_770 : decode cL_law 770 = .ok (.aload_n 2, 1) := by decide +kernel
theorem dL_law_771 : decode cL_law 771 = .ok (.aload_n 0, 1) := by decide +kernel
theorem dL_law_772 : decode cL_law 772 = .ok (.iload_n 3, 1) := by decide +kernel
theorem dL_law_773 : decode cL_law 773 = .ok (.iconst 1, 1) := by decide +kernel
theorem dL_law_774 : decode cL_law 774 = .ok (.iadd, 1) := by decide +kernel
theorem dL_law_775 : decode cL_law 775 = .ok (.iaload, 1) := by decide +kernel
theorem dL_law_776 : decode cL_law 776 = .ok (.invokevirtual 95, 3) := by decide +kernel
theorem dL_law_779 : decode cL_law 779 = .ok (.if_icmp .eq 563, 3) := by decide +kernel
theorem dL_law_782 : decode cL_law 782 = .ok (.iconst 0, 1) := by decide +kernel
theorem dL_law_783 : decode cL_law 783 = .ok (.ireturn, 1) := by decide +kernel
theorem dL_law_784 : decode cL_law 784 = .ok (.aload_n 1, 1) := by decide +kernel
theorem dL_law_785 : decode cL_law 785 = .ok (.aload_n 0, 1) := by decide +kernel
theorem dL_law_786 : decode cL_law 786 = .ok (.iload_n 3, 1) := by decide +kernel
theorem dL_law_787 : decode cL_law 787 = .ok (.iconst 1, 1) := by decide +kernel
theorem dL_law_788 : decode cL_law 788 = .ok (.iadd, 1) := by decide +kernel
theorem dL_law_789 : decode cL_law 789 = .ok (.iaload, 1) := by decide +kernel
theorem dL_law_790 : decode cL_law 790 = .ok (.aload_n 0, 1) := by decide +kernel
theorem dL_law_791 : decode cL_law 791 = .ok (.iload_n 3, 1) := by decide +kernel
theorem dL_law_792 : decode cL_law 792 = .ok (.iconst 2, 1) := by decide +kernel
theorem dL_law_793 : decode cL_law 793 = .ok (.iadd, 1) := by decide +kernel
theorem dL_law_794 : decode cL_law 794 = .ok (.iaload, 1) := by decide +kernel
theorem dL_law_795 : decode cL_law 795 = .ok (.invokevirtual 96, 3) := by decide +kernel
theorem dL_law_798 : decode cL_law 798 = .ok (.aload_n 2, 1) := by decide +kernel
theorem dL_law_799 : decode cL_law 799 = .ok (.aload_n 0, 1) := by decide +kernel
theorem dL_law_800 : decode cL_law 800 = .ok (.iload_n 3, 1) := by decide +kernel
theorem dL_law_801 : decode cL_law 801 = .ok (.iconst 1, 1) := by decide +kernel
theorem dL_law_802 : decode cL_law 802 = .ok (.iadd, 1) := by decide +kernel
theorem dL_law_803 : decode cL_law 803 = .ok (.iaload, 1) := by decide +kernel
theorem dL_law_804 : decode cL_law 804 = .ok (.aload_n 0, 1) := by decide +kernel
theorem dL_law_805 : decode cL_law 805 = .ok (.iload_n 3, 1) := by decide +kernel
theorem dL_law_806 : decode cL_law 806 = .ok (.iconst 2, 1) := by decide +kernel
theorem dL_law_807 : decode cL_law 807 = .ok (.iadd, 1) := by decide +kernel
theorem dL_law_808 : decode cL_law 808 = .ok (.iaload, 1) := by decide +kernel
theorem dL_law_809 : decode cL_law 809 = .ok (.invokevirtual 99, 3) := by decide +kernel
theorem dL_law_812 : decode cL_law 812 = .ok (.if_icmp .eq 530, 3) := by decide +kernel
theorem dL_law_815 : decode cL_law 815 = .ok (.iconst 0, 1) := by decide +kernel
theorem dL_law_816 : decode cL_law 816 = .ok (.ireturn, 1) := by decide +kernel
theorem dL_law_817 : decode cL_law 817 = .ok (.aload_n 1, 1) := by decide +kernel
theorem dL_law_818 : decode cL_law 818 = .ok (.aload_n 0, 1) := by decide +kernel
theorem dL_law_819 : decode cL_law 819 = .ok (.iload_n 3, 1) := by decide +kernel
theorem dL_law_820 : decode cL_law 820 = .ok (.iconst 1, 1) := by decide +kernel
theorem dL_law_821 : decode cL_law 821 = .ok (.iadd, 1) := by decide +kernel
theorem dL_law_822 : decode cL_law 822 = .ok (.iaload, 1) := by decide +kernel
theorem dL_law_823 : decode cL_law 823 = .ok (.aload_n 0, 1) := by decide +kernel
theorem dL_law_824 : decode cL_law 824 = .ok (.iload_n 3, 1) := by decide +kernel
theorem dL_law_825 : decode cL_law 825 = .ok (.iconst 2, 1) := by decide +kernel
theorem dL_law_826 : decode cL_law 826 = .ok (.iadd, 1) := by decide +kernel
theorem dL_law_827 : decode cL_law 827 = .ok (.iaload, 1) := by decide +kernel
theorem dL_law_828 : decode cL_law 828 = .ok (.invokevirtual 100, 3) := by decide +kernel
theorem dL_law_831 : decode cL_law 831 = .ok (.aload_n 2, 1) := by decide +kernel
theorem dL_law_832 : decode cL_law 832 = .ok (.aload_n 0, 1) := by decide +kernel
theorem dL_law_833 : decode cL_law 833 = .ok (.iload_n 3, 1) := by decide +kernel
theorem dL_law_834 : decode cL_law 834 = .ok (.iconst 1, 1) := by decide +kernel
theorem dL_law_835 : decode cL_law 835 = .ok (.iadd, 1) := by decide +kernel
theorem dL_law_836 : decode cL_law 836 = .ok (.iaload, 1) := by decide +kernel
theorem dL_law_837 : decode cL_law 837 = .ok (.aload_n 0, 1) := by decide +kernel
theorem dL_law_838 : decode cL_law 838 = .ok (.iload_n 3, 1) := by decide +kernel
theorem dL_law_839 : decode cL_law 839 = .ok (.iconst 2, 1) := by decide +kernel
theorem dL_law_840 : decode cL_law 840 = .ok (.iadd, 1) := by decide +kernel
theorem dL_law_841 : decode cL_law 841 = .ok (.iaload, 1) := by decide +kernel
theorem dL_law_842 : decode cL_law 842 = .ok (.invokevirtual 103, 3) := by decide +kernel
theorem dL_law_845 : decode cL_law 845 = .ok (.if_icmp .eq 497, 3) := by decide +kernel
theorem dL_law_848 : decode cL_law 848 = .ok (.iconst 0, 1) := by decide +kernel
theorem dL_law_849 : decode cL_law 849 = .ok (.ireturn, 1) := by decide +kernel
theorem dL_law_850 : decode cL_law 850 = .ok (.aload_n 1, 1) := by decide +kernel
theorem dL_law_851 : decode cL_law 851 = .ok (.aload_n 0, 1) := by decide +kernel
theorem dL_law_852 : decode cL_law 852 = .ok (.iload_n 3, 1) := by decide +kernel
theorem dL_law_853 : decode cL_law 853 = .ok (.iconst 1, 1) := by decide +kernel
theorem dL_law_854 : decode cL_law 854 = .ok (.iadd, 1) := by decide +kernel
theorem dL_law_855 : decode cL_law 855 = .ok (.iaload, 1) := by decide +kernel
theorem dL_law_856 : decode cL_law 856 = .ok (.aload_n 0, 1) := by decide +kernel
theorem dL_law_857 : decode cL_law 857 = .ok (.iload_n 3, 1) := by decide +kernel
theorem dL_law_858 : decode cL_law 858 = .ok (.iconst 2, 1) := by decide +kernel
theorem dL_law_859 : decode cL_law 859 = .ok (.iadd, 1) := by decide +kernel
theorem dL_law_860 : decode cL_law 860 = .ok (.iaload, 1) := by decide +kernel
theorem dL_law_861 : decode cL_law 861 = .ok (.invokevirtual 104, 3) := by decide +kernel
theorem dL_law_864 : decode cL_law 864 = .ok (.aload_n 2, 1) := by decide +kernel
theorem dL_law_865 : decode cL_law 865 = .ok (.aload_n 0, 1) := by decide +kernel
theorem dL_law_866 : decode cL_law 866 = .ok (.iload_n 3, 1) := by decide +kernel
theorem dL_law_867 : decode cL_law 867 = .ok (.iconst 1, 1) := by decide +kernel
theorem dL_law_868 : decode cL_law 868 = .ok (.iadd, 1) := by decide +kernel
theorem dL_law_869 : decode cL_law 869 = .ok (.iaload, 1) := by decide +kernel
theorem dL_law_870 : decode cL_law 870 = .ok (.aload_n 0, 1) := by decide +kernel
theorem dL_law_871 : decode cL_law 871 = .ok (.iload_n 3, 1) := by decide +kernel
theorem dL_law_872 : decode cL_law 872 = .ok (.iconst 2, 1) := by decide +kernel
theorem dL_law_873 : decode cL_law 873 = .ok (.iadd, 1) := by decide +kernel
theorem dL_law_874 : decode cL_law 874 = .ok (.iaload, 1) := by decide +kernel
theorem dL_law_875 : decode cL_law 875 = .ok (.invokevirtual 107, 3) := by decide +kernel
theorem dL_law_878 : decode cL_law 878 = .ok (.if_icmp .eq 464, 3) := by decide +kernel
theorem dL_law_881 : decode cL_law 881 = .ok (.iconst 0, 1) := by decide +kernel
theorem dL_law_882 : decode cL_law 882 = .ok (.ireturn, 1) := by decide +kernel
theorem dL_law_883 : decode cL_law 883 = .ok (.aload_n 1, 1) := by decide +kernel
theorem dL_law_884 : decode cL_law 884 = .ok (.aload_n 0, 1) := by decide +kernel
theorem dL_law_885 : decode cL_law 885 = .ok (.iload_n 3, 1) := by decide +kernel
theorem dL_law_886 : decode cL_law 886 = .ok (.iconst 1, 1) := by decide +kernel
theorem dL_law_887 : decode cL_law 887 = .ok (.iadd, 1) := by decide +kernel
theorem dL_law_888 : decode cL_law 888 = .ok (.iaload, 1) := by decide +kernel
theorem dL_law_889 : decode cL_law 889 = .ok (.invokevirtual 108, 3) := by decide +kernel
theorem dL_law_892 : decode cL_law 892 = .ok (.aload_n 2, 1) := by decide +kernel
theorem dL_law_893 : decode cL_law 893 = .ok (.aload_n 0, 1) := by decide +kernel
theorem dL_law_894 : decode cL_law 894 = .ok (.iload_n 3, 1) := by decide +kernel
theorem dL_law_895 : decode cL_law 895 = .ok (.iconst 1, 1) := by decide +kernel
theorem dL_law_896 : decode cL_law 896 = .ok (.iadd, 1) := by decide +kernel
theorem dL_law_897 : decode cL_law 897 = .ok (.iaload, 1) := by decide +kernel
theorem dL_law_898 : decode cL_law 898 = .ok (.invokevirtual 111, 3) := by decide +kernel
theorem dL_law_901 : decode cL_law 901 = .ok (.if_icmp .eq 441, 3) := by decide +kernel
theorem dL_law_904 : decode cL_law 904 = .ok (.iconst 0, 1) := by decide +kernel
theorem dL_law_905 : decode cL_law 905 = .ok (.ireturn, 1) := by decide +kernel
theorem dL_law_906 : decode cL_law 906 = .ok (.aload_n 1, 1) := by decide +kernel
theorem dL_law_907 : decode cL_law 907 = .ok (.aload_n 0, 1) := by decide +kernel
theorem dL_law_908 : decode cL_law 908 = .ok (.iload_n 3, 1) := by decide +kernel
theorem dL_law_909 : decode cL_law 909 = .ok (.iconst 1, 1) := by decide +kernel
theorem dL_law_910 : decode cL_law 910 = .ok (.iadd, 1) := by decide +kernel
theorem dL_law_911 : decode cL_law 911 = .ok (.iaload, 1) := by decide +kernel
theorem dL_law_912 : decode cL_law 912 = .ok (.invokevirtual 112, 3) := by decide +kernel
theorem dL_law_915 : decode cL_law 915 = .ok (.aload_n 2, 1) := by decide +kernel
theorem dL_law_916 : decode cL_law 916 = .ok (.aload_n 0, 1) := by decide +kernel
theorem dL_law_917 : decode cL_law 917 = .ok (.iload_n 3, 1) := by decide +kernel
theorem dL_law_918 : decode cL_law 918 = .ok (.iconst 1, 1) := by decide +kernel
theorem dL_law_919 : decode cL_law 919 = .ok (.iadd, 1) := by decide +kernel
theorem dL_law_920 : decode cL_law 920 = .ok (.iaload, 1) := by decide +kernel
theorem dL_law_921 : decode cL_law 921 = .ok (.invokevirtual 115, 3) := by decide +kernel
theorem dL_law_924 : decode cL_law 924 = .ok (.if_icmp .eq 418, 3) := by decide +kernel
theorem dL_law_927 : decode cL_law 927 = .ok (.iconst 0, 1) := by decide +kernel
theorem dL_law_928 : decode cL_law 928 = .ok (.ireturn, 1) := by decide +kernel
theorem dL_law_929 : decode cL_law 929 = .ok (.aload_n 1, 1) := by decide +kernel
theorem dL_law_930 : decode cL_law 930 = .ok (.aload_n 0, 1) := by decide +kernel
theorem dL_law_931 : decode cL_law 931 = .ok (.iload_n 3, 1) := by decide +kernel
theorem dL_law_932 : decode cL_law 932 = .ok (.iconst 1, 1) := by decide +kernel
theorem dL_law_933 : decode cL_law 933 = .ok (.iadd, 1) := by decide +kernel
theorem dL_law_934 : decode cL_law 934 = .ok (.iaload, 1) := by decide +kernel
theorem dL_law_935 : decode cL_law 935 = .ok (.aload_n 0, 1) := by decide +kernel
theorem dL_law_936 : decode cL_law 936 = .ok (.iload_n 3, 1) := by decide +kernel
theorem dL_law_937 : decode cL_law 937 = .ok (.iconst 2, 1) := by decide +kernel
theorem dL_law_938 : decode cL_law 938 = .ok (.iadd, 1) := by decide +kernel
theorem dL_law_939 : decode cL_law 939 = .ok (.iaload, 1) := by decide +kernel
theorem dL_law_940 : decode cL_law 940 = .ok (.invokevirtual 116, 3) := by decide +kernel
theorem dL_law_943 : decode cL_law 943 = .ok (.aload_n 2, 1) := by decide +kernel
theorem dL_law_944 : decode cL_law 944 = .ok (.aload_n 0, 1) := by decide +kernel
theorem dL_law_945 : decode cL_law 945 = .ok (.iload_n 3, 1) := by decide +kernel
theorem dL_law_946 : decode cL_law 946 = .ok (.iconst 1, 1) := by decide +kernel
theorem dL_law_947 : decode cL_law 947 = .ok (.iadd, 1) := by decide +kernel
theorem dL_law_948 : decode cL_law 948 = .ok (.iaload, 1) := by decide +kernel
theorem dL_law_949 : decode cL_law 949 = .ok (.aload_n 0, 1) := by decide +kernel
theorem dL_law_950 : decode cL_law 950 = .ok (.iload_n 3, 1) := by decide +kernel
theorem dL_law_951 : decode cL_law 951 = .ok (.iconst 2, 1) := by decide +kernel
theorem dL_law_952 : decode cL_law 952 = .ok (.iadd, 1) := by decide +kernel
theorem dL_law_953 : decode cL_law 953 = .ok (.iaload, 1) := by decide +kernel
theorem dL_law_954 : decode cL_law 954 = .ok (.invokevirtual 119, 3) := by decide +kernel
theorem dL_law_957 : decode cL_law 957 = .ok (.if_icmp .eq 385, 3) := by decide +kernel
theorem dL_law_960 : decode cL_law 960 = .ok (.iconst 0, 1) := by decide +kernel
theorem dL_law_961 : decode cL_law 961 = .ok (.ireturn, 1) := by decide +kernel
theorem dL_law_962 : decode cL_law 962 = .ok (.aload_n 1, 1) := by decide +kernel
theorem dL_law_963 : decode cL_law 963 = .ok (.invokevirtual 120, 3) := by decide +kernel
theorem dL_law_966 : decode cL_law 966 = .ok (.aload_n 2, 1) := by decide +kernel
theorem dL_law_967 : decode cL_law 967 = .ok (.invokevirtual 124, 3) := by decide +kernel
theorem dL_law_970 : decode cL_law 970 = .ok (.if_icmp .eq 372, 3) := by decide +kernel
theorem dL_law_973 : decode cL_law 973 = .ok (.iconst 0, 1) := by decide +kernel
theorem dL_law_974 : decode cL_law 974 = .ok (.ireturn, 1) := by decide +kernel
theorem dL_law_975 : decode cL_law 975 = .ok (.aload_n 1, 1) := by decide +kernel
theorem dL_law_976 : decode cL_law 976 = .ok (.invokevirtual 125, 3) := by decide +kernel
theorem dL_law_979 : decode cL_law 979 = .ok (.aload_n 2, 1) := by decide +kernel
theorem dL_law_980 : decode cL_law 980 = .ok (.invokevirtual 128, 3) := by decide +kernel
theorem dL_law_983 : decode cL_law 983 = .ok (.if_icmp .eq 359, 3) := by decide +kernel
theorem dL_law_986 : decode cL_law 986 = .ok (.iconst 0, 1) := by decide +kernel
theorem dL_law_987 : decode cL_law 987 = .ok (.ireturn, 1) := by decide +kernel
theorem dL_law_988 : decode cL_law 988 = .ok (.aload_n 1, 1) := by decide +kernel
theorem dL_law_989 : decode cL_law 989 = .ok (.aload_n 0, 1) := by decide +kernel
theorem dL_law_990 : decode cL_law 990 = .ok (.iload_n 3, 1) := by decide +kernel
theorem dL_law_991 : decode cL_law 991 = .ok (.iconst 1, 1) := by decide +kernel
theorem dL_law_992 : decode cL_law 992 = .ok (.iadd, 1) := by decide +kernel
theorem dL_law_993 : decode cL_law 993 = .ok (.iaload, 1) := by decide +kernel
theorem dL_law_994 : decode cL_law 994 = .ok (.aload_n 0, 1) := by decide +kernel
theorem dL_law_995 : decode cL_law 995 = .ok (.iload_n 3, 1) := by decide +kernel
theorem dL_law_996 : decode cL_law 996 = .ok (.iconst 2, 1) := by decide +kernel
theorem dL_law_997 : decode cL_law 997 = .ok (.iadd, 1) := by decide +kernel
theorem dL_law_998 : decode cL_law 998 = .ok (.iaload, 1) := by decide +kernel
theorem dL_law_999 : decode cL_law 999 = .ok (.aload_n 0, 1) := by decide +kernel
theorem dL_law_1000 : decode cL_law 1000 = .ok (.iload_n 3, 1) := by decide +kernel
theorem dL_law_1001 : decode cL_law 1001 = .ok (.iconst 3, 1) := by decide +kernel
theorem dL_law_1002 : decode cL_law 1002 = .ok (.iadd, 1) := by decide +kernel
theorem dL_law_1003 : decode cL_law 1003 = .ok (.iaload, 1) := by decide +kernel
theorem dL_law_1004 : decode cL_law 1004 = .ok (.invokevirtual 129, 3) := by decide +kernel
theorem dL_law_1007 : decode cL_law 1007 = .ok (.aload_n 2, 1) := by decide +kernel
theorem dL_law_1008 : decode cL_law 1008 = .ok (.aload_n 0, 1) := by decide +kernel
theorem dL_law_1009 : decode cL_law 1009 = .ok (.iload_n 3, 1) := by decide +kernel
theorem dL_law_1010 : decode cL_law 1010 = .ok (.iconst 1, 1) := by decide +kernel
theorem dL_law_1011 : decode cL_law 1011 = .ok (.iadd, 1) := by decide +kernel
theorem dL_law_1012 : decode cL_law 1012 = .ok (.iaload, 1) := by decide +kernel
theorem dL_law_1013 : decode cL_law 1013 = .ok (.aload_n 0, 1) := by decide +kernel
theorem dL_law_1014 : decode cL_law 1014 = .ok (.iload_n 3, 1) := by decide +kernel
theorem dL_law_1015 : decode cL_law 1015 = .ok (.iconst 2, 1) := by decide +kernel
theorem dL_law_1016 : decode cL_law 1016 = .ok (.iadd, 1) := by decide +kernel
theorem dL_law_1017 : decode cL_law 1017 = .ok (.iaload, 1) := by decide +kernel
theorem dL_law_1018 : decode cL_law 1018 = .ok (.aload_n 0, 1) := by decide +kernel
theorem dL_law_1019 : decode cL_law 1019 = .ok (.iload_n 3, 1) := by decide +kernel
theorem dL_law_1020 : decode cL_law 1020 = .ok (.iconst 3, 1) := by decide +kernel
theorem dL_law_1021 : decode cL_law 1021 = .ok (.iadd, 1) := by decide +kernel
theorem dL_law_1022 : decode cL_law 1022 = .ok (.iaload, 1) := by decide +kernel
theorem dL_law_1023 : decode cL_law 1023 = .ok (.invokevirtual 132, 3) := by decide +kernel
theorem dL_law_1026 : decode cL_law 1026 = .ok (.if_icmp .eq 316, 3) := by decide +kernel
theorem dL_law_1029 : decode cL_law 1029 = .ok (.iconst 0, 1) := by decide +kernel
theorem dL_law_1030 : decode cL_law 1030 = .ok (.ireturn, 1) := by decide +kernel
theorem dL_law_1031 : decode cL_law 1031 = .ok (.aload_n 1, 1) := by decide +kernel
theorem dL_law_1032 : decode cL_law 1032 = .ok (.aload_n 0, 1) := by decide +kernel
theorem dL_law_1033 : decode cL_law 1033 = .ok (.iload_n 3, 1) := by decide +kernel
theorem dL_law_1034 : decode cL_law 1034 = .ok (.iconst 1, 1) := by decide +kernel
theorem dL_law_1035 : decode cL_law 1035 = .ok (.iadd, 1) := by decide +kernel
theorem dL_law_1036 : decode cL_law 1036 = .ok (.iaload, 1) := by decide +kernel
theorem dL_law_1037 : decode cL_law 1037 = .ok (.aload_n 0, 1) := by decide +kernel
theorem dL_law_1038 : decode cL_law 1038 = .ok (.iload_n 3, 1) := by decide +kernel
theorem dL_law_1039 : decode cL_law 1039 = .ok (.iconst 2, 1) := by decide +kernel
theorem dL_law_1040 : decode cL_law 1040 = .ok (.iadd, 1) := by decide +kernel
theorem dL_law_1041 : decode cL_law 1041 = .ok (.iaload, 1) := by decide +kernel
theorem dL_law_1042 : decode cL_law 1042 = .ok (.aload_n 0, 1) := by decide +kernel
theorem dL_law_1043 : decode cL_law 1043 = .ok (.iload_n 3, 1) := by decide +kernel
theorem dL_law_1044 : decode cL_law 1044 = .ok (.iconst 3, 1) := by decide +kernel
theorem dL_law_1045 : decode cL_law 1045 = .ok (.iadd, 1) := by decide +kernel
theorem dL_law_1046 : decode cL_law 1046 = .ok (.iaload, 1) := by decide +kernel
theorem dL_law_1047 : decode cL_law 1047 = .ok (.i2l, 1) := by decide +kernel
theorem dL_law_1048 : decode cL_law 1048 = .ok (.bipush 32, 2) := by decide +kernel
theorem dL_law_1050 : decode cL_law 1050 = .ok (.lshl, 1) := by decide +kernel
theorem dL_law_1051 : decode cL_law 1051 = .ok (.aload_n 0, 1) := by decide +kernel
theorem dL_law_1052 : decode cL_law 1052 = .ok (.iload_n 3, 1) := by decide +kernel
theorem dL_law_1053 : decode cL_law 1053 = .ok (.iconst 4, 1) := by decide +kernel
theorem dL_law_1054 : decode cL_law 1054 = .ok (.iadd, 1) := by decide +kernel
theorem dL_law_1055 : decode cL_law 1055 = .ok (.iaload, 1) := by decide +kernel
theorem dL_law_1056 : decode cL_law 1056 = .ok (.i2l, 1) := by decide +kernel
theorem dL_law_1057 : decode cL_law 1057 = .ok (.ldc2_w 133, 3) := by decide +kernel
theorem dL_law_1060 : decode cL_law 1060 = .ok (.land, 1) := by decide +kernel
theorem dL_law_1061 : decode cL_law 1061 = .ok (.lor, 1) := by decide +kernel
theorem dL_law_1062 : decode cL_law 1062 = .ok (.invokevirtual 135, 3) := by decide +kernel
theorem dL_law_1065 : decode cL_law 1065 = .ok (.aload_n 2, 1) := by decide +kernel
theorem dL_law_1066 : decode cL_law 1066 = .ok (.aload_n 0, 1) := by decide +kernel
theorem dL_law_1067 : decode cL_law 1067 = .ok (.iload_n 3, 1) := by decide +kernel
theorem dL_law_1068 : decode cL_law 1068 = .ok (.iconst 1, 1) := by decide +kernel
theorem dL_law_1069 : decode cL_law 1069 = .ok (.iadd, 1) := by decide +kernel
theorem dL_law_1070 : decode cL_law 1070 = .ok (.iaload, 1) := by decide +kernel
theorem dL_law_1071 : decode cL_law 1071 = .ok (.aload_n 0, 1) := by decide +kernel
theorem dL_law_1072 : decode cL_law 1072 = .ok (.iload_n 3, 1) := by decide +kernel
theorem dL_law_1073 : decode cL_law 1073 = .ok (.iconst 2, 1) := by decide +kernel
theorem dL_law_1074 : decode cL_law 1074 = .ok (.iadd, 1) := by decide +kernel
theorem dL_law_1075 : decode cL_law 1075 = .ok (.iaload, 1) := by decide +kernel
theorem dL_law_1076 : decode cL_law 1076 = .ok (.aload_n 0, 1) := by decide +kernel
theorem dL_law_1077 : decode cL_law 1077 = .ok (.iload_n 3, 1) := by decide +kernel
theorem dL_law_1078 : decode cL_law 1078 = .ok (.iconst 3, 1) := by decide +kernel
theorem dL_law_1079 : decode cL_law 1079 = .ok (.iadd, 1) := by decide +kernel
theorem dL_law_1080 : decode cL_law 1080 = .ok (.iaload, 1) := by decide +kernel
theorem dL_law_1081 : decode cL_law 1081 = .ok (.i2l, 1) := by decide +kernel
theorem dL_law_1082 : decode cL_law 1082 = .ok (.bipush 32, 2) := by decide +kernel
theorem dL_law_1084 : decode cL_law 1084 = .ok (.lshl, 1) := by decide +kernel
theorem dL_law_1085 : decode cL_law 1085 = .ok (.aload_n 0, 1) := by decide +kernel
theorem dL_law_1086 : decode cL_law 1086 = .ok (.iload_n 3, 1) := by decide +kernel
theorem dL_law_1087 : decode cL_law 1087 = .ok (.iconst 4, 1) := by decide +kernel
theorem dL_law_1088 : decode cL_law 1088 = .ok (.iadd, 1) := by decide +kernel
theorem dL_law_1089 : decode cL_law 1089 = .ok (.iaload, 1) := by decide +kernel
theorem dL_law_1090 : decode cL_law 1090 = .ok (.i2l, 1) := by decide +kernel
theorem dL_law_1091 : decode cL_law 1091 = .ok (.ldc2_w 133, 3) := by decide +kernel
theorem dL_law_1094 : decode cL_law 1094 = .ok (.land, 1) := by decide +kernel
theorem dL_law_1095 : decode cL_law 1095 = .ok (.lor, 1) := by decide +kernel
theorem dL_law_1096 : decode cL_law 1096 = .ok (.invokevirtual 139, 3) := by decide +kernel
theorem dL_law_1099 : decode cL_law 1099 = .ok (.lcmp, 1) := by decide +kernel
theorem dL_law_1100 : decode cL_law 1100 = .ok (.ifCond .eq 242, 3) := by decide +kernel
theorem dL_law_1103 : decode cL_law 1103 = .ok (.iconst 0, 1) := by decide +kernel
theorem dL_law_1104 : decode cL_law 1104 = .ok (.ireturn, 1) := by decide +kernel
theorem dL_law_1105 : decode cL_law 1105 = .ok (.aload_n 1, 1) := by decide +kernel
theorem dL_law_1106 : decode cL_law 1106 = .ok (.aload_n 0, 1) := by decide +kernel
theorem dL_law_1107 : decode cL_law 1107 = .ok (.iload_n 3, 1) := by decide +kernel
theorem dL_law_1108 : decode cL_law 1108 = .ok (.iconst 1, 1) := by decide +kernel
theorem dL_law_1109 : decode cL_law 1109 = .ok (.iadd, 1) := by decide +kernel
theorem dL_law_1110 : decode cL_law 1110 = .ok (.iaload, 1) := by decide +kernel
theorem dL_law_1111 : decode cL_law 1111 = .ok (.aload_n 0, 1) := by decide +kernel
theorem dL_law_1112 : decode cL_law 1112 = .ok (.iload_n 3, 1) := by decide +kernel
theorem dL_law_1113 : decode cL_law 1113 = .ok (.iconst 2, 1) := by decide +kernel
theorem dL_law_1114 : decode cL_law 1114 = .ok (.iadd, 1) := by decide +kernel
theorem dL_law_1115 : decode cL_law 1115 = .ok (.iaload, 1) := by decide +kernel
theorem dL_law_1116 : decode cL_law 1116 = .ok (.aload_n 0, 1) := by decide +kernel
theorem dL_law_1117 : decode cL_law 1117 = .ok (.iload_n 3, 1) := by decide +kernel
theorem dL_law_1118 : decode cL_law 1118 = .ok (.iconst 3, 1) := by decide +kernel
theorem dL_law_1119 : decode cL_law 1119 = .ok (.iadd, 1) := by decide +kernel
theorem dL_law_1120 : decode cL_law 1120 = .ok (.iaload, 1) := by decide +kernel
theorem dL_law_1121 : decode cL_law 1121 = .ok (.aload_n 0, 1) := by decide +kernel
theorem dL_law_1122 : decode cL_law 1122 = .ok (.iload_n 3, 1) := by decide +kernel
theorem dL_law_1123 : decode cL_law 1123 = .ok (.iconst 4, 1) := by decide +kernel
theorem dL_law_1124 : decode cL_law 1124 = .ok (.iadd, 1) := by decide +kernel
theorem dL_law_1125 : decode cL_law 1125 = .ok (.iaload, 1) := by decide +kernel
theorem dL_law_1126 : decode cL_law 1126 = .ok (.aload_n 0, 1) := by decide +kernel
theorem dL_law_1127 : decode cL_law 1127 = .ok (.iload_n 3, 1) := by decide +kernel
theorem dL_law_1128 : decode cL_law 1128 = .ok (.iconst 5, 1) := by decide +kernel
theorem dL_law_1129 : decode cL_law 1129 = .ok (.iadd, 1) := by decide +kernel
theorem dL_law_1130 : decode cL_law 1130 = .ok (.iaload, 1) := by decide +kernel
theorem dL_law_1131 : decode cL_law 1131 = .ok (.invokevirtual 140, 3) := by decide +kernel
theorem dL_law_1134 : decode cL_law 1134 = .ok (.aload_n 2, 1) := by decide +kernel
theorem dL_law_1135 : decode cL_law 1135 = .ok (.aload_n 0, 1) := by decide +kernel
theorem dL_law_1136 : decode cL_law 1136 = .ok (.iload_n 3, 1) := by decide +kernel
theorem dL_law_1137 : decode cL_law 1137 = .ok (.iconst 1, 1) := by decide +kernel
theorem dL_law_1138 : decode cL_law 1138 = .ok (.iadd, 1) := by decide +kernel
theorem dL_law_1139 : decode cL_law 1139 = .ok (.iaload, 1) := by decide +kernel
theorem dL_law_1140 : decode cL_law 1140 = .ok (.aload_n 0, 1) := by decide +kernel
theorem dL_law_1141 : decode cL_law 1141 = .ok (.iload_n 3, 1) := by decide +kernel
theorem dL_law_1142 : decode cL_law 1142 = .ok (.iconst 2, 1) := by decide +kernel
theorem dL_law_1143 : decode cL_law 1143 = .ok (.iadd, 1) := by decide +kernel
theorem dL_law_1144 : decode cL_law 1144 = .ok (.iaload, 1) := by decide +kernel
theorem dL_law_1145 : decode cL_law 1145 = .ok (.aload_n 0, 1) := by decide +kernel
theorem dL_law_1146 : decode cL_law 1146 = .ok (.iload_n 3, 1) := by decide +kernel
theorem dL_law_1147 : decode cL_law 1147 = .ok (.iconst 3, 1) := by decide +kernel
theorem dL_law_1148 : decode cL_law 1148 = .ok (.iadd, 1) := by decide +kernel
theorem dL_law_1149 : decode cL_law 1149 = .ok (.iaload, 1) := by decide +kernel
theorem dL_law_1150 : decode cL_law 1150 = .ok (.aload_n 0, 1) := by decide +kernel
theorem dL_law_1151 : decode cL_law 1151 = .ok (.iload_n 3, 1) := by decide +kernel
theorem dL_law_1152 : decode cL_law 1152 = .ok (.iconst 4, 1) := by decide +kernel
theorem dL_law_1153 : decode cL_law 1153 = .ok (.iadd, 1) := by decide +kernel
theorem dL_law_1154 : decode cL_law 1154 = .ok (.iaload, 1) := by decide +kernel
theorem dL_law_1155 : decode cL_law 1155 = .ok (.aload_n 0, 1) := by decide +kernel
theorem dL_law_1156 : decode cL_law 1156 = .ok (.iload_n 3, 1) := by decide +kernel
theorem dL_law_1157 : decode cL_law 1157 = .ok (.iconst 5, 1) := by decide +kernel
theorem dL_law_1158 : decode cL_law 1158 = .ok (.iadd, 1) := by decide +kernel
theorem dL_law_1159 : decode cL_law 1159 = .ok (.iaload, 1) := by decide +kernel
theorem dL_law_1160 : decode cL_law 1160 = .ok (.invokevirtual 144, 3) := by decide +kernel
theorem dL_law_1163 : decode cL_law 1163 = .ok (.if_icmp .eq 179, 3) := by decide +kernel
theorem dL_law_1166 : decode cL_law 1166 = .ok (.iconst 0, 1) := by decide +kernel
theorem dL_law_1167 : decode cL_law 1167 = .ok (.ireturn, 1) := by decide +kernel
theorem dL_law_1168 : decode cL_law 1168 = .ok (.aload_n 1, 1) := by decide +kernel
theorem dL_law_1169 : decode cL_law 1169 = .ok (.aload_n 0, 1) := by decide +kernel
theorem dL_law_1170 : decode cL_law 1170 = .ok (.iload_n 3, 1) := by decide +kernel
theorem dL_law_1171 : decode cL_law 1171 = .ok (.iconst 1, 1) := by decide +kernel
theorem dL_law_1172 : decode cL_law 1172 = .ok (.iadd, 1) := by decide +kernel
theorem dL_law_1173 : decode cL_law 1173 = .ok (.iaload, 1) := by decide +kernel
theorem dL_law_1174 : decode cL_law 1174 = .ok (.invokevirtual 145, 3) := by decide +kernel
theorem dL_law_1177 : decode cL_law 1177 = .ok (.aload_n 2, 1) := by decide +kernel
theorem dL_law_1178 : decode cL_law 1178 = .ok (.aload_n 0, 1) := by decide +kernel
theorem dL_law_1179 : decode cL_law 1179 = .ok (.iload_n 3, 1) := by decide +kernel
theorem dL_law_1180 : decode cL_law 1180 = .ok (.iconst 1, 1) := by decide +kernel
theorem dL_law_1181 : decode cL_law 1181 = .ok (.iadd, 1) := by decide +kernel
theorem dL_law_1182 : decode cL_law 1182 = .ok (.iaload, 1) := by decide +kernel
theorem dL_law_1183 : decode cL_law 1183 = .ok (.invokevirtual 148, 3) := by decide +kernel
theorem dL_law_1186 : decode cL_law 1186 = .ok (.if_icmp .eq 156, 3) := by decide +kernel
theorem dL_law_1189 : decode cL_law 1189 = .ok (.iconst 0, 1) := by decide +kernel
theorem dL_law_1190 : decode cL_law 1190 = .ok (.ireturn, 1) := by decide +kernel
theorem dL_law_1191 : decode cL_law 1191 = .ok (.aload_n 1, 1) := by decide +kernel
theorem dL_law_1192 : decode cL_law 1192 = .ok (.aload_n 0, 1) := by decide +kernel
theorem dL_law_1193 : decode cL_law 1193 = .ok (.iload_n 3, 1) := by decide +kernel
theorem dL_law_1194 : decode cL_law 1194 = .ok (.iconst 1, 1) := by decide +kernel
theorem dL_law_1195 : decode cL_law 1195 = .ok (.iadd, 1) := by decide +kernel
theorem dL_law_1196 : decode cL_law 1196 = .ok (.iaload, 1) := by decide +kernel
theorem dL_law_1197 : decode cL_law 1197 = .ok (.aload_n 0, 1) := by decide +kernel
theorem dL_law_1198 : decode cL_law 1198 = .ok (.iload_n 3, 1) := by decide +kernel
theorem dL_law_1199 : decode cL_law 1199 = .ok (.iconst 2, 1) := by decide +kernel
theorem dL_law_1200 : decode cL_law 1200 = .ok (.iadd, 1) := by decide +kernel
theorem dL_law_1201 : decode cL_law 1201 = .ok (.iaload, 1) := by decide +kernel
theorem dL_law_1202 : decode cL_law 1202 = .ok (.invokevirtual 149, 3) := by decide +kernel
theorem dL_law_1205 : decode cL_law 1205 = .ok (.aload_n 2, 1) := by decide +kernel
theorem dL_law_1206 : decode cL_law 1206 = .ok (.aload_n 0, 1) := by decide +kernel
theorem dL_law_1207 : decode cL_law 1207 = .ok (.iload_n 3, 1) := by decide +kernel
theorem dL_law_1208 : decode cL_law 1208 = .ok (.iconst 1, 1) := by decide +kernel
theorem dL_law_1209 : decode cL_law 1209 = .ok (.iadd, 1) := by decide +kernel
theorem dL_law_1210 : decode cL_law 1210 = .ok (.iaload, 1) := by decide +kernel
theorem dL_law_1211 : decode cL_law 1211 = .ok (.aload_n 0, 1) := by decide +kernel
theorem dL_law_1212 : decode cL_law 1212 = .ok (.iload_n 3, 1) := by decide +kernel
theorem dL_law_1213 : decode cL_law 1213 = .ok (.iconst 2, 1) := by decide +kernel
theorem dL_law_1214 : decode cL_law 1214 = .ok (.iadd, 1) := by decide +kernel
theorem dL_law_1215 : decode cL_law 1215 = .ok (.iaload, 1) := by decide +kernel
theorem dL_law_1216 : decode cL_law 1216 = .ok (.invokevirtual 152, 3) := by decide +kernel
theorem dL_law_1219 : decode cL_law 1219 = .ok (.if_icmp .eq 123, 3) := by decide +kernel
theorem dL_law_1222 : decode cL_law 1222 = .ok (.iconst 0, 1) := by decide +kernel
theorem dL_law_1223 : decode cL_law 1223 = .ok (.ireturn, 1) := by decide +kernel
theorem dL_law_1224 : decode cL_law 1224 = .ok (.aload_n 1, 1) := by decide +kernel
theorem dL_law_1225 : decode cL_law 1225 = .ok (.aload_n 0, 1) := by decide +kernel
theorem dL_law_1226 : decode cL_law 1226 = .ok (.iload_n 3, 1) := by decide +kernel
theorem dL_law_1227 : decode cL_law 1227 = .ok (.iconst 1, 1) := by decide +kernel
theorem dL_law_1228 : decode cL_law 1228 = .ok (.iadd, 1) := by decide +kernel
theorem dL_law_1229 : decode cL_law 1229 = .ok (.iaload, 1) := by decide +kernel
theorem dL_law_1230 : decode cL_law 1230 = .ok (.aload_n 0, 1) := by decide +kernel
theorem dL_law_1231 : decode cL_law 1231 = .ok (.iload_n 3, 1) := by decide +kernel
theorem dL_law_1232 : decode cL_law 1232 = .ok (.iconst 2, 1) := by decide +kernel
theorem dL_law_1233 : decode cL_law 1233 = .ok (.iadd, 1) := by decide +kernel
theorem dL_law_1234 : decode cL_law 1234 = .ok (.iaload, 1) := by decide +kernel
theorem dL_law_1235 : decode cL_law 1235 = .ok (.invokevirtual 153, 3) := by decide +kernel
theorem dL_law_1238 : decode cL_law 1238 = .ok (.aload_n 2, 1) := by decide +kernel
theorem dL_law_1239 : decode cL_law 1239 = .ok (.aload_n 0, 1) := by decide +kernel
theorem dL_law_1240 : decode cL_law 1240 = .ok (.iload_n 3, 1) := by decide +kernel
theorem dL_law_1241 : decode cL_law 1241 = .ok (.iconst 1, 1) := by decide +kernel
theorem dL_law_1242 : decode cL_law 1242 = .ok (.iadd, 1) := by decide +kernel
theorem dL_law_1243 : decode cL_law 1243 = .ok (.iaload, 1) := by decide +kernel
theorem dL_law_1244 : decode cL_law 1244 = .ok (.aload_n 0, 1) := by decide +kernel
theorem dL_law_1245 : decode cL_law 1245 = .ok (.iload_n 3, 1) := by decide +kernel
theorem dL_law_1246 : decode cL_law 1246 = .ok (.iconst 2, 1) := by decide +kernel
theorem dL_law_1247 : decode cL_law 1247 = .ok (.iadd, 1) := by decide +kernel
theorem dL_law_1248 : decode cL_law 1248 = .ok (.iaload, 1) := by decide +kernel
theorem dL_law_1249 : decode cL_law 1249 = .ok (.invokevirtual 156, 3) := by decide +kernel
theorem dL_law_1252 : decode cL_law 1252 = .ok (.if_icmp .eq 90, 3) := by decide +kernel
theorem dL_law_1255 : decode cL_law 1255 = .ok (.iconst 0, 1) := by decide +kernel
theorem dL_law_1256 : decode cL_law 1256 = .ok (.ireturn, 1) := by decide +kernel
theorem dL_law_1257 : decode cL_law 1257 = .ok (.aload_n 1, 1) := by decide +kernel
theorem dL_law_1258 : decode cL_law 1258 = .ok (.invokevirtual 157, 3) := by decide +kernel
theorem dL_law_1261 : decode cL_law 1261 = .ok (.aload_n 2, 1) := by decide +kernel
theorem dL_law_1262 : decode cL_law 1262 = .ok (.invokevirtual 160, 3) := by decide +kernel
theorem dL_law_1265 : decode cL_law 1265 = .ok (.if_icmp .eq 77, 3) := by decide +kernel
theorem dL_law_1268 : decode cL_law 1268 = .ok (.iconst 0, 1) := by decide +kernel
theorem dL_law_1269 : decode cL_law 1269 = .ok (.ireturn, 1) := by decide +kernel
theorem dL_law_1270 : decode cL_law 1270 = .ok (.aload_n 1, 1) := by decide +kernel
theorem dL_law_1271 : decode cL_law 1271 = .ok (.invokevirtual 161, 3) := by decide +kernel
theorem dL_law_1274 : decode cL_law 1274 = .ok (.aload_n 2, 1) := by decide +kernel
theorem dL_law_1275 : decode cL_law 1275 = .ok (.invokevirtual 164, 3) := by decide +kernel
theorem dL_law_1278 : decode cL_law 1278 = .ok (.if_icmp .eq 64, 3) := by decide +kernel
theorem dL_law_1281 : decode cL_law 1281 = .ok (.iconst 0, 1) := by decide +kernel
theorem dL_law_1282 : decode cL_law 1282 = .ok (.ireturn, 1) := by decide +kernel
theorem dL_law_1283 : decode cL_law 1283 = .ok (.aload_n 1, 1) := by decide +kernel
theorem dL_law_1284 : decode cL_law 1284 = .ok (.invokevirtual 165, 3) := by decide +kernel
theorem dL_law_1287 : decode cL_law 1287 = .ok (.aload_n 2, 1) := by decide +kernel
theorem dL_law_1288 : decode cL_law 1288 = .ok (.invokevirtual 168, 3) := by decide +kernel
theorem dL_law_1291 : decode cL_law 1291 = .ok (.if_icmp .eq 51, 3) := by decide +kernel
theorem dL_law_1294 : decode cL_law 1294 = .ok (.iconst 0, 1) := by decide +kernel
theorem dL_law_1295 : decode cL_law 1295 = .ok (.ireturn, 1) := by decide +kernel
theorem dL_law_1296 : decode cL_law 1296 = .ok (.aload_n 1, 1) := by decide +kernel
theorem dL_law_1297 : decode cL_law 1297 = .ok (.aload_n 0, 1) := by decide +kernel
theorem dL_law_1298 : decode cL_law 1298 = .ok (.iload_n 3, 1) := by decide +kernel
theorem dL_law_1299 : decode cL_law 1299 = .ok (.iconst 1, 1) := by decide +kernel
theorem dL_law_1300 : decode cL_law 1300 = .ok (.iadd, 1) := by decide +kernel
theorem dL_law_1301 : decode cL_law 1301 = .ok (.iaload, 1) := by decide +kernel
theorem dL_law_1302 : decode cL_law 1302 = .ok (.invokevirtual 169, 3) := by decide +kernel
theorem dL_law_1305 : decode cL_law 1305 = .ok (.aload_n 2, 1) := by decide +kernel
theorem dL_law_1306 : decode cL_law 1306 = .ok (.aload_n 0, 1) := by decide +kernel
theorem dL_law_1307 : decode cL_law 1307 = .ok (.iload_n 3, 1) := by decide +kernel
theorem dL_law_1308 : decode cL_law 1308 = .ok (.iconst 1, 1) := by decide +kernel
theorem dL_law_1309 : decode cL_law 1309 = .ok (.iadd, 1) := by decide +kernel
theorem dL_law_1310 : decode cL_law 1310 = .ok (.iaload, 1) := by decide +kernel
theorem dL_law_1311 : decode cL_law 1311 = .ok (.invokevirtual 172, 3) := by decide +kernel
theorem dL_law_1314 : decode cL_law 1314 = .ok (.if_icmp .eq 28, 3) := by decide +kernel
theorem dL_law_1317 : decode cL_law 1317 = .ok (.iconst 0, 1) := by decide +kernel
theorem dL_law_1318 : decode cL_law 1318 = .ok (.ireturn, 1) := by decide +kernel
theorem dL_law_1319 : decode cL_law 1319 = .ok (.aload_n 1, 1) := by decide +kernel
theorem dL_law_1320 : decode cL_law 1320 = .ok (.aload_n 0, 1) := by decide +kernel
theorem dL_law_1321 : decode cL_law 1321 = .ok (.iload_n 3, 1) := by decide +kernel
theorem dL_law_1322 : decode cL_law 1322 = .ok (.iconst 1, 1) := by decide +kernel
theorem dL_law_1323 : decode cL_law 1323 = .ok (.iadd, 1) := by decide +kernel
theorem dL_law_1324 : decode cL_law 1324 = .ok (.iaload, 1) := by decide +kernel
theorem dL_law_1325 : decode cL_law 1325 = .ok (.invokevirtual 173, 3) := by decide +kernel
theorem dL_law_1328 : decode cL_law 1328 = .ok (.aload_n 2, 1) := by decide +kernel
theorem dL_law_1329 : decode cL_law 1329 = .ok (.aload_n 0, 1) := by decide +kernel
theorem dL_law_1330 : decode cL_law 1330 = .ok (.iload_n 3, 1) := by decide +kernel
theorem dL_law_1331 : decode cL_law 1331 = .ok (.iconst 1, 1) := by decide +kernel
theorem dL_law_1332 : decode cL_law 1332 = .ok (.iadd, 1) := by decide +kernel
theorem dL_law_1333 : decode cL_law 1333 = .ok (.iaload, 1) := by decide +kernel
theorem dL_law_1334 : decode cL_law 1334 = .ok (.invokevirtual 176, 3) := by decide +kernel
theorem dL_law_1337 : decode cL_law 1337 = .ok (.if_icmp .eq 5, 3) := by decide +kernel
theorem dL_law_1340 : decode cL_law 1340 = .ok (.iconst 0, 1) := by decide +kernel
theorem dL_law_1341 : decode cL_law 1341 = .ok (.ireturn, 1) := by decide +kernel
theorem dL_law_1342 : decode cL_law 1342 = .ok (.iinc 3 6, 3) := by decide +kernel
theorem dL_law_1345 : decode cL_law 1345 = .ok (.goto (-1327), 3) := by decide +kernel
theorem dL_law_1348 : decode cL_law 1348 = .ok (.iconst 1, 1) := by decide +kernel
theorem dL_law_1349 : decode cL_law 1349 = .ok (.ireturn, 1) := by decide +kernel
end
section
def kw : List Cond := lw_tbl.filter goodWord
theorem kw_tbl {w : Cond} (h : w ∈ kw) : w ∈ lw_tbl := (List.mem_filter.mp h).1
theorem kw_good {w : Cond} (h : w ∈ kw) : goodWord w = true := (List.mem_filter.mp h).2
theorem kw_of {w : Cond} (h : w ∈ lw_tbl) (g : goodWord w = true) : w ∈ kw := List.mem_filter.mpr ⟨h, g⟩
theorem km0 {w : Cond} (i : Nat) (h : (k2_sels lw_privs)[i]? = some w) (g : goodWord w = true) : w ∈ kw := kw_of (List.mem_append_left _ (List.mem_of_getElem? h)) g
theorem km1 {w : Cond} (i : Nat) (h : tables_1_1[i]? = some w) (g : goodWord w = true) : w ∈ kw := kw_of (List.mem_append_right _ (List.mem_append_left _ (List.mem_of_getElem? h))) g
theorem km2 {w : Cond} (i : Nat) (h : tables_1_2[i]? = some w) (g : goodWord w = true) : w ∈ kw := kw_of (List.mem_append_right _ (List.mem_append_right _ (List.mem_append_left _ (List.mem_of_getElem? h)))) g
theorem km3 {w : Cond} (i : Nat) (h : tables_1_3[i]? = some w) (g : goodWord w = true) : w ∈ kw := kw_of (List.mem_append_right _ (List.mem_append_right _ (List.mem_append_right _ (List.mem_append_left _ (List.mem_of_getElem? h))))) g
theorem km4 {w : Cond} (i : Nat) (h : tables_1_4[i]? = some w) (g : goodWord w = true) : w ∈ kw := kw_of (List.mem_append_right _ (List.mem_append_right _ (List.mem_append_right _ (List.mem_append_right _ (List.mem_append_left _ (List.mem_of_getElem? h)))))) g
theorem km5 {w : Cond} (i : Nat) (h : tables_1_5[i]? = some w) (g : goodWord w = true) : w ∈ kw := kw_of (List.mem_append_right _ (List.mem_append_right _ (List.mem_append_right _ (List.mem_append_right _ (List.mem_append_right _ (List.mem_of_getElem? h)))))) g
theorem kw_1_0 : Jvm.Cond.initialized "TalkKnotsLaw" ∈ kw := km1 0 rfl rfl
theorem kw_1_1 : Jvm.Cond.initialized "TalkKnots" ∈ kw := km1 1 rfl rfl
theorem kw_1_2 : Jvm.Cond.initialized "TalkKnots$Yard" ∈ kw := km1 2 rfl rfl
theorem kw_1_3 : Jvm.Cond.initialized "TalkKnots$Knot" ∈ kw := km1 3 rfl rfl
theorem kw_1_4 : Jvm.Cond.initialized "TalkKnots$Tape" ∈ kw := km1 4 rfl rfl
theorem kw_1_5 : Jvm.Cond.initialized "TalkKnots$TextReader" ∈ kw := km1 5 rfl rfl
theorem kw_1_6 : Jvm.Cond.initialized "TalkKnots$Sheet" ∈ kw := km1 6 rfl rfl
theorem kw_1_7 : Jvm.Cond.initialized "TalkKnotsModel" ∈ kw := km1 7 rfl rfl
theorem kw_1_8 : Jvm.Cond.initialized "java/lang/Math" ∈ kw := km1 8 rfl rfl
theorem kw_1_9 : Jvm.Cond.initialized "java/lang/System" ∈ kw := km1 9 rfl rfl
theorem kw_1_10 : Jvm.Cond.initialized "java/lang/Integer" ∈ kw := km1 10 rfl rfl
theorem kw_1_11 : Jvm.Cond.initialized "java/lang/String" ∈ kw := km1 11 rfl rfl
theorem kw_1_12 : Jvm.Cond.initialized "java/lang/StringLatin1" ∈ kw := km1 12 rfl rfl
theorem kw_1_13 : Jvm.Cond.initialized "jdk/internal/util/Preconditions" ∈ kw := km1 13 rfl rfl
theorem kw_1_14 : Jvm.Cond.initialized "java/lang/StringUTF16" ∈ kw := km1 14 rfl rfl
theorem kw_1_15 : Jvm.Cond.classLink "TalkKnotsLaw" (7 : Nat) "TalkKnots" ∈ kw := km1 15 rfl rfl
theorem kw_1_16 : Jvm.Cond.instantiable "TalkKnots" (8 : Nat) ∈ kw := km1 16 rfl rfl
theorem kw_1_17 : Jvm.Cond.methodLink "TalkKnotsLaw" (9 : Nat) ({ cls := "TalkKnots", name := "<init>", desc := "()V" } : Jvm.MethodName) ∈ kw := km1 17 rfl rfl
theorem kw_1_18 : Jvm.Cond.instanceMethod ({ cls := "TalkKnots", name := "<init>", desc := "()V" } : Jvm.MethodName) ∈ kw := km1 18 rfl rfl
theorem kw_1_19 : Jvm.Cond.code ({ cls := "TalkKnots", name := "<init>", desc := "()V" } : Jvm.MethodName) prog_1_method_1_code (2 : Nat) (Option.none : Option Jvm.ClassFile.FieldType) ∈ kw := km1 19 rfl rfl
theorem kw_1_20 : Jvm.Cond.methodLink "TalkKnots" (1 : Nat) ({ cls := "java/lang/Object", name := "<init>", desc := "()V" } : Jvm.MethodName) ∈ kw := km1 20 rfl rfl
theorem kw_1_21 : Jvm.Cond.instanceMethod ({ cls := "java/lang/Object", name := "<init>", desc := "()V" } : Jvm.MethodName) ∈ kw := km1 21 rfl rfl
theorem kw_1_22 : Jvm.Cond.code ({ cls := "java/lang/Object", name := "<init>", desc := "()V" } : Jvm.MethodName) object_method_1_code (1 : Nat) (Option.none : Option Jvm.ClassFile.FieldType) ∈ kw := km1 22 rfl rfl
theorem kw_1_23 : Jvm.Cond.classLink "TalkKnots" (7 : Nat) "TalkKnots$Yard" ∈ kw := km1 23 rfl rfl
theorem kw_1_24 : Jvm.Cond.instantiable "TalkKnots$Yard" (7 : Nat) ∈ kw := km1 24 rfl rfl
theorem kw_1_25 : Jvm.Cond.methodLink "TalkKnots" (9 : Nat) ({ cls := "TalkKnots$Yard", name := "<init>", desc := "()V" } : Jvm.MethodName) ∈ kw := km1 25 rfl rfl
theorem kw_1_26 : Jvm.Cond.instanceMethod ({ cls := "TalkKnots$Yard", name := "<init>", desc := "()V" } : Jvm.MethodName) ∈ kw := km1 26 rfl rfl
theorem kw_1_27 : Jvm.Cond.code ({ cls := "TalkKnots$Yard", name := "<init>", desc := "()V" } : Jvm.MethodName) prog_6_method_1_code (2 : Nat) (Option.none : Option Jvm.ClassFile.FieldType) ∈ kw := km1 27 rfl rfl
theorem kw_1_28 : Jvm.Cond.methodLink "TalkKnots$Yard" (3 : Nat) ({ cls := "java/lang/Object", name := "<init>", desc := "()V" } : Jvm.MethodName) ∈ kw := km1 28 rfl rfl
theorem kw_1_29 : Jvm.Cond.classLink "TalkKnots$Yard" (28 : Nat) "TalkKnots$Knot" ∈ kw := km1 29 rfl rfl
theorem kw_1_31 : Jvm.Cond.instantiable "TalkKnots$Knot" (5 : Nat) ∈ kw := km1 31 rfl rfl
theorem kw_1_32 : Jvm.Cond.methodLink "TalkKnots$Yard" (37 : Nat) ({ cls := "TalkKnots$Knot", name := "<init>", desc := "()V" } : Jvm.MethodName) ∈ kw := km1 32 rfl rfl
theorem kw_1_33 : Jvm.Cond.instanceMethod ({ cls := "TalkKnots$Knot", name := "<init>", desc := "()V" } : Jvm.MethodName) ∈ kw := km1 33 rfl rfl
theorem kw_1_34 : Jvm.Cond.code ({ cls := "TalkKnots$Knot", name := "<init>", desc := "()V" } : Jvm.MethodName) prog_2_method_1_code (1 : Nat) (Option.none : Option Jvm.ClassFile.FieldType) ∈ kw := km1 34 rfl rfl
theorem kw_1_35 : Jvm.Cond.methodLink "TalkKnots$Knot" (3 : Nat) ({ cls := "java/lang/Object", name := "<init>", desc := "()V" } : Jvm.MethodName) ∈ kw := km1 35 rfl rfl
theorem kw_1_36 : Jvm.Cond.fieldLink "TalkKnots$Knot" (9 : Nat) "TalkKnots$Knot" "kind" "I" ∈ kw := km1 36 rfl rfl
theorem kw_1_37 : Jvm.Cond.fieldLink "TalkKnots" (127 : Nat) "TalkKnots$Knot" "kind" "I" ∈ kw := km1 37 rfl rfl
theorem kw_1_38 : Jvm.Cond.fieldLink "TalkKnots$Knot" (15 : Nat) "TalkKnots$Knot" "mast" "I" ∈ kw := km1 38 rfl rfl
theorem kw_1_39 : Jvm.Cond.fieldLink "TalkKnots" (132 : Nat) "TalkKnots$Knot" "mast" "I" ∈ kw := km1 39 rfl rfl
theorem kw_1_40 : Jvm.Cond.fieldLink "TalkKnots$Yard" (56 : Nat) "TalkKnots$Knot" "mast" "I" ∈ kw := km1 40 rfl rfl
theorem kw_1_41 : Jvm.Cond.fieldLink "TalkKnots$Knot" (18 : Nat) "TalkKnots$Knot" "open" "I" ∈ kw := km1 41 rfl rfl
theorem kw_1_42 : Jvm.Cond.fieldLink "TalkKnots$TextReader" (108 : Nat) "TalkKnots$Knot" "open" "I" ∈ kw := km1 42 rfl rfl
theorem kw_1_43 : Jvm.Cond.fieldLink "TalkKnots" (135 : Nat) "TalkKnots$Knot" "open" "I" ∈ kw := km1 43 rfl rfl
theorem kw_1_44 : Jvm.Cond.fieldLink "TalkKnots$Yard" (63 : Nat) "TalkKnots$Knot" "open" "I" ∈ kw := km1 44 rfl rfl
theorem kw_1_45 : Jvm.Cond.fieldLink "TalkKnots$Knot" (21 : Nat) "TalkKnots$Knot" "age" "I" ∈ kw := km1 45 rfl rfl
theorem kw_1_46 : Jvm.Cond.fieldLink "TalkKnots" (141 : Nat) "TalkKnots$Knot" "age" "I" ∈ kw := km1 46 rfl rfl
theorem kw_1_47 : Jvm.Cond.fieldLink "TalkKnots$Yard" (66 : Nat) "TalkKnots$Knot" "age" "I" ∈ kw := km1 47 rfl rfl
theorem kw_1_48 : Jvm.Cond.fieldLink "TalkKnots$Knot" (24 : Nat) "TalkKnots$Knot" "fast" "Z" ∈ kw := km1 48 rfl rfl
theorem kw_1_49 : Jvm.Cond.fieldLink "TalkKnots$TextReader" (112 : Nat) "TalkKnots$Knot" "fast" "Z" ∈ kw := km1 49 rfl rfl
theorem kw_1_50 : Jvm.Cond.fieldLink "TalkKnots" (138 : Nat) "TalkKnots$Knot" "fast" "Z" ∈ kw := km1 50 rfl rfl
theorem kw_1_51 : Jvm.Cond.fieldLink "TalkKnots$Yard" (59 : Nat) "TalkKnots$Knot" "fast" "Z" ∈ kw := km1 51 rfl rfl
theorem kw_1_52 : Jvm.Cond.lays "TalkKnots$Knot" "TalkKnots$Knot" "kind" "I" ∈ kw := km1 52 rfl rfl
theorem kw_1_53 : Jvm.Cond.soleField "TalkKnots$Knot" "kind" ∈ kw := km1 53 rfl rfl
theorem kw_1_54 : Jvm.Cond.lays "TalkKnots$Knot" "TalkKnots$Knot" "mast" "I" ∈ kw := km1 54 rfl rfl
theorem kw_1_55 : Jvm.Cond.soleField "TalkKnots$Knot" "mast" ∈ kw := km1 55 rfl rfl
theorem kw_1_56 : Jvm.Cond.lays "TalkKnots$Knot" "TalkKnots$Knot" "open" "I" ∈ kw := km1 56 rfl rfl
theorem kw_1_57 : Jvm.Cond.soleField "TalkKnots$Knot" "open" ∈ kw := km1 57 rfl rfl
theorem kw_1_58 : Jvm.Cond.lays "TalkKnots$Knot" "TalkKnots$Knot" "age" "I" ∈ kw := km1 58 rfl rfl
theorem kw_1_59 : Jvm.Cond.soleField "TalkKnots$Knot" "age" ∈ kw := km1 59 rfl rfl
theorem kw_1_60 : Jvm.Cond.lays "TalkKnots$Knot" "TalkKnots$Knot" "fast" "Z" ∈ kw := km1 60 rfl rfl
theorem kw_1_61 : Jvm.Cond.soleField "TalkKnots$Knot" "fast" ∈ kw := km1 61 rfl rfl
theorem kw_1_62 : Jvm.Cond.superclass "TalkKnots$Knot" "java/lang/Object" ∈ kw := km1 62 rfl rfl
theorem kw_1_63 : Jvm.Cond.arrayClass Jvm.ClassFile.FieldType.int ∈ kw := km1 63 rfl rfl
theorem kw_1_64 : Jvm.Cond.fieldLink "TalkKnots$Yard" (9 : Nat) "TalkKnots$Yard" "hour" "I" ∈ kw := km1 64 rfl rfl
theorem kw_1_65 : Jvm.Cond.fieldLink "TalkKnots" (92 : Nat) "TalkKnots$Yard" "hour" "I" ∈ kw := km1 65 rfl rfl
theorem kw_1_66 : Jvm.Cond.fieldLink "TalkKnots$Yard" (15 : Nat) "TalkKnots$Yard" "count" "I" ∈ kw := km1 66 rfl rfl
theorem kw_1_67 : Jvm.Cond.fieldLink "TalkKnots$TextReader" (83 : Nat) "TalkKnots$Yard" "count" "I" ∈ kw := km1 67 rfl rfl
theorem kw_1_68 : Jvm.Cond.fieldLink "TalkKnots" (182 : Nat) "TalkKnots$Yard" "count" "I" ∈ kw := km1 68 rfl rfl
theorem kw_1_69 : Jvm.Cond.fieldLink "TalkKnots$Yard" (18 : Nat) "TalkKnots$Yard" "up" "I" ∈ kw := km1 69 rfl rfl
theorem kw_1_70 : Jvm.Cond.fieldLink "TalkKnots" (102 : Nat) "TalkKnots$Yard" "up" "I" ∈ kw := km1 70 rfl rfl
theorem kw_1_71 : Jvm.Cond.fieldLink "TalkKnots$Yard" (21 : Nat) "TalkKnots$Yard" "winds" "[I" ∈ kw := km1 71 rfl rfl
theorem kw_1_72 : Jvm.Cond.fieldLink "TalkKnots" (62 : Nat) "TalkKnots$Yard" "winds" "[I" ∈ kw := km1 72 rfl rfl
theorem kw_1_73 : Jvm.Cond.fieldLink "TalkKnots$TextReader" (80 : Nat) "TalkKnots$Yard" "winds" "[I" ∈ kw := km1 73 rfl rfl
theorem kw_1_74 : Jvm.Cond.fieldLink "TalkKnots$Yard" (25 : Nat) "TalkKnots$Yard" "weights" "[I" ∈ kw := km1 74 rfl rfl
theorem kw_1_75 : Jvm.Cond.fieldLink "TalkKnots" (69 : Nat) "TalkKnots$Yard" "weights" "[I" ∈ kw := km1 75 rfl rfl
theorem kw_1_76 : Jvm.Cond.fieldLink "TalkKnots$TextReader" (68 : Nat) "TalkKnots$Yard" "weights" "[I" ∈ kw := km1 76 rfl rfl
theorem kw_1_77 : Jvm.Cond.fieldLink "TalkKnots$Yard" (30 : Nat) "TalkKnots$Yard" "knots" "[LTalkKnots$Knot;" ∈ kw := km1 77 rfl rfl
theorem kw_1_78 : Jvm.Cond.fieldLink "TalkKnots$TextReader" (86 : Nat) "TalkKnots$Yard" "knots" "[LTalkKnots$Knot;" ∈ kw := km1 78 rfl rfl
theorem kw_1_79 : Jvm.Cond.fieldLink "TalkKnots" (123 : Nat) "TalkKnots$Yard" "knots" "[LTalkKnots$Knot;" ∈ kw := km1 79 rfl rfl
theorem kw_1_80 : Jvm.Cond.fieldLink "TalkKnots$Yard" (34 : Nat) "TalkKnots$Yard" "fastOn" "[I" ∈ kw := km1 80 rfl rfl
theorem kw_1_81 : Jvm.Cond.lays "TalkKnots$Yard" "TalkKnots$Yard" "hour" "I" ∈ kw := km1 81 rfl rfl
theorem kw_1_82 : Jvm.Cond.soleField "TalkKnots$Yard" "hour" ∈ kw := km1 82 rfl rfl
theorem kw_1_83 : Jvm.Cond.lays "TalkKnots$Yard" "TalkKnots$Yard" "count" "I" ∈ kw := km1 83 rfl rfl
theorem kw_1_84 : Jvm.Cond.soleField "TalkKnots$Yard" "count" ∈ kw := km1 84 rfl rfl
theorem kw_1_85 : Jvm.Cond.lays "TalkKnots$Yard" "TalkKnots$Yard" "up" "I" ∈ kw := km1 85 rfl rfl
theorem kw_1_86 : Jvm.Cond.soleField "TalkKnots$Yard" "up" ∈ kw := km1 86 rfl rfl
theorem kw_1_87 : Jvm.Cond.laysFinal "TalkKnots$Yard" "TalkKnots$Yard" "winds" "[I" ∈ kw := km1 87 rfl rfl
theorem kw_1_88 : Jvm.Cond.soleField "TalkKnots$Yard" "winds" ∈ kw := km1 88 rfl rfl
theorem kw_1_89 : Jvm.Cond.laysFinal "TalkKnots$Yard" "TalkKnots$Yard" "weights" "[I" ∈ kw := km1 89 rfl rfl
theorem kw_1_90 : Jvm.Cond.soleField "TalkKnots$Yard" "weights" ∈ kw := km1 90 rfl rfl
theorem kw_1_91 : Jvm.Cond.laysFinal "TalkKnots$Yard" "TalkKnots$Yard" "knots" "[LTalkKnots$Knot;" ∈ kw := km1 91 rfl rfl
theorem kw_1_92 : Jvm.Cond.soleField "TalkKnots$Yard" "knots" ∈ kw := km1 92 rfl rfl
theorem kw_1_93 : Jvm.Cond.laysFinal "TalkKnots$Yard" "TalkKnots$Yard" "fastOn" "[I" ∈ kw := km1 93 rfl rfl
theorem kw_1_94 : Jvm.Cond.soleField "TalkKnots$Yard" "fastOn" ∈ kw := km1 94 rfl rfl
theorem kw_1_95 : Jvm.Cond.superclass "TalkKnots$Yard" "java/lang/Object" ∈ kw := km1 95 rfl rfl
theorem kw_1_96 : Jvm.Cond.classLink "TalkKnots" (26 : Nat) "TalkKnots$Tape" ∈ kw := km1 96 rfl rfl
theorem kw_1_97 : Jvm.Cond.instantiable "TalkKnots$Tape" (2 : Nat) ∈ kw := km1 97 rfl rfl
theorem kw_1_98 : Jvm.Cond.methodLink "TalkKnots" (28 : Nat) ({ cls := "TalkKnots$Tape", name := "<init>", desc := "()V" } : Jvm.MethodName) ∈ kw := km1 98 rfl rfl
theorem kw_1_99 : Jvm.Cond.instanceMethod ({ cls := "TalkKnots$Tape", name := "<init>", desc := "()V" } : Jvm.MethodName) ∈ kw := km1 99 rfl rfl
theorem kw_1_100 : Jvm.Cond.code ({ cls := "TalkKnots$Tape", name := "<init>", desc := "()V" } : Jvm.MethodName) prog_4_method_1_code (1 : Nat) (Option.none : Option Jvm.ClassFile.FieldType) ∈ kw := km1 100 rfl rfl
theorem kw_1_101 : Jvm.Cond.methodLink "TalkKnots$Tape" (3 : Nat) ({ cls := "java/lang/Object", name := "<init>", desc := "()V" } : Jvm.MethodName) ∈ kw := km1 101 rfl rfl
theorem kw_1_102 : Jvm.Cond.fieldLink "TalkKnots$Tape" (9 : Nat) "TalkKnots$Tape" "bytes" "[I" ∈ kw := km1 102 rfl rfl
theorem kw_1_103 : Jvm.Cond.fieldLink "TalkKnots$Tape" (15 : Nat) "TalkKnots$Tape" "length" "I" ∈ kw := km1 103 rfl rfl
theorem kw_1_104 : Jvm.Cond.fieldLink "TalkKnots$TextReader" (150 : Nat) "TalkKnots$Tape" "length" "I" ∈ kw := km1 104 rfl rfl
theorem kw_1_105 : Jvm.Cond.fieldLink "TalkKnots" (198 : Nat) "TalkKnots$Tape" "length" "I" ∈ kw := km1 105 rfl rfl
theorem kw_1_106 : Jvm.Cond.laysFinal "TalkKnots$Tape" "TalkKnots$Tape" "bytes" "[I" ∈ kw := km1 106 rfl rfl
theorem kw_1_107 : Jvm.Cond.soleField "TalkKnots$Tape" "bytes" ∈ kw := km1 107 rfl rfl
theorem kw_1_108 : Jvm.Cond.lays "TalkKnots$Tape" "TalkKnots$Tape" "length" "I" ∈ kw := km1 108 rfl rfl
theorem kw_1_109 : Jvm.Cond.soleField "TalkKnots$Tape" "length" ∈ kw := km1 109 rfl rfl
theorem kw_1_110 : Jvm.Cond.superclass "TalkKnots$Tape" "java/lang/Object" ∈ kw := km1 110 rfl rfl
theorem kw_1_111 : Jvm.Cond.classLink "TalkKnots" (33 : Nat) "TalkKnots$TextReader" ∈ kw := km1 111 rfl rfl
theorem kw_1_112 : Jvm.Cond.instantiable "TalkKnots$TextReader" (7 : Nat) ∈ kw := km1 112 rfl rfl
theorem kw_1_113 : Jvm.Cond.methodLink "TalkKnots" (35 : Nat) ({ cls := "TalkKnots$TextReader", name := "<init>", desc := "(LTalkKnots$Tape;LTalkKnots$Yard;)V" } : Jvm.MethodName) ∈ kw := km1 113 rfl rfl
theorem kw_1_114 : Jvm.Cond.instanceMethod ({ cls := "TalkKnots$TextReader", name := "<init>", desc := "(LTalkKnots$Tape;LTalkKnots$Yard;)V" } : Jvm.MethodName) ∈ kw := km1 114 rfl rfl
theorem kw_1_115 : Jvm.Cond.code ({ cls := "TalkKnots$TextReader", name := "<init>", desc := "(LTalkKnots$Tape;LTalkKnots$Yard;)V" } : Jvm.MethodName) prog_5_method_1_code (3 : Nat) (Option.none : Option Jvm.ClassFile.FieldType) ∈ kw := km1 115 rfl rfl
theorem kw_1_116 : Jvm.Cond.methodLink "TalkKnots$TextReader" (3 : Nat) ({ cls := "java/lang/Object", name := "<init>", desc := "()V" } : Jvm.MethodName) ∈ kw := km1 116 rfl rfl
theorem kw_1_117 : Jvm.Cond.fieldLink "TalkKnots$TextReader" (27 : Nat) "TalkKnots$TextReader" "tape" "LTalkKnots$Tape;" ∈ kw := km1 117 rfl rfl
theorem kw_1_118 : Jvm.Cond.fieldLink "TalkKnots$TextReader" (31 : Nat) "TalkKnots$TextReader" "yard" "LTalkKnots$Yard;" ∈ kw := km1 118 rfl rfl
theorem kw_1_119 : Jvm.Cond.fieldLink "TalkKnots$TextReader" (9 : Nat) "TalkKnots$TextReader" "at" "I" ∈ kw := km1 119 rfl rfl
theorem kw_1_120 : Jvm.Cond.fieldLink "TalkKnots$TextReader" (15 : Nat) "TalkKnots$TextReader" "token" "I" ∈ kw := km1 120 rfl rfl
theorem kw_1_121 : Jvm.Cond.fieldLink "TalkKnots$TextReader" (18 : Nat) "TalkKnots$TextReader" "start" "I" ∈ kw := km1 121 rfl rfl
theorem kw_1_122 : Jvm.Cond.fieldLink "TalkKnots$TextReader" (21 : Nat) "TalkKnots$TextReader" "value" "I" ∈ kw := km1 122 rfl rfl
theorem kw_1_123 : Jvm.Cond.fieldLink "TalkKnots$TextReader" (24 : Nat) "TalkKnots$TextReader" "taken" "I" ∈ kw := km1 123 rfl rfl
theorem kw_1_124 : Jvm.Cond.laysFinal "TalkKnots$TextReader" "TalkKnots$TextReader" "tape" "LTalkKnots$Tape;" ∈ kw := km1 124 rfl rfl
theorem kw_1_125 : Jvm.Cond.soleField "TalkKnots$TextReader" "tape" ∈ kw := km1 125 rfl rfl
theorem kw_1_126 : Jvm.Cond.laysFinal "TalkKnots$TextReader" "TalkKnots$TextReader" "yard" "LTalkKnots$Yard;" ∈ kw := km1 126 rfl rfl
theorem kw_1_127 : Jvm.Cond.soleField "TalkKnots$TextReader" "yard" ∈ kw := km1 127 rfl rfl
theorem kw_1_128 : Jvm.Cond.lays "TalkKnots$TextReader" "TalkKnots$TextReader" "at" "I" ∈ kw := km1 128 rfl rfl
theorem kw_1_129 : Jvm.Cond.soleField "TalkKnots$TextReader" "at" ∈ kw := km1 129 rfl rfl
theorem kw_1_130 : Jvm.Cond.lays "TalkKnots$TextReader" "TalkKnots$TextReader" "token" "I" ∈ kw := km1 130 rfl rfl
theorem kw_1_131 : Jvm.Cond.soleField "TalkKnots$TextReader" "token" ∈ kw := km1 131 rfl rfl
theorem kw_1_132 : Jvm.Cond.lays "TalkKnots$TextReader" "TalkKnots$TextReader" "start" "I" ∈ kw := km1 132 rfl rfl
theorem kw_1_133 : Jvm.Cond.soleField "TalkKnots$TextReader" "start" ∈ kw := km1 133 rfl rfl
theorem kw_1_134 : Jvm.Cond.lays "TalkKnots$TextReader" "TalkKnots$TextReader" "value" "I" ∈ kw := km1 134 rfl rfl
theorem kw_1_135 : Jvm.Cond.soleField "TalkKnots$TextReader" "value" ∈ kw := km1 135 rfl rfl
theorem kw_1_136 : Jvm.Cond.lays "TalkKnots$TextReader" "TalkKnots$TextReader" "taken" "I" ∈ kw := km1 136 rfl rfl
theorem kw_1_137 : Jvm.Cond.soleField "TalkKnots$TextReader" "taken" ∈ kw := km1 137 rfl rfl
theorem kw_1_138 : Jvm.Cond.superclass "TalkKnots$TextReader" "java/lang/Object" ∈ kw := km1 138 rfl rfl
theorem kw_1_139 : Jvm.Cond.classLink "TalkKnots" (42 : Nat) "TalkKnots$Sheet" ∈ kw := km1 139 rfl rfl
theorem kw_1_141 : Jvm.Cond.instantiable "TalkKnots$Sheet" (3 : Nat) ∈ kw := km1 141 rfl rfl
theorem kw_1_142 : Jvm.Cond.methodLink "TalkKnots" (52 : Nat) ({ cls := "TalkKnots$Sheet", name := "<init>", desc := "()V" } : Jvm.MethodName) ∈ kw := km1 142 rfl rfl
theorem kw_1_143 : Jvm.Cond.instanceMethod ({ cls := "TalkKnots$Sheet", name := "<init>", desc := "()V" } : Jvm.MethodName) ∈ kw := km1 143 rfl rfl
theorem kw_1_144 : Jvm.Cond.code ({ cls := "TalkKnots$Sheet", name := "<init>", desc := "()V" } : Jvm.MethodName) prog_3_method_1_code (1 : Nat) (Option.none : Option Jvm.ClassFile.FieldType) ∈ kw := km1 144 rfl rfl
theorem kw_1_145 : Jvm.Cond.methodLink "TalkKnots$Sheet" (3 : Nat) ({ cls := "java/lang/Object", name := "<init>", desc := "()V" } : Jvm.MethodName) ∈ kw := km1 145 rfl rfl
theorem kw_1_146 : Jvm.Cond.fieldLink "TalkKnots$Sheet" (9 : Nat) "TalkKnots$Sheet" "bits" "I" ∈ kw := km1 146 rfl rfl
theorem kw_1_147 : Jvm.Cond.fieldLink "TalkKnots" (233 : Nat) "TalkKnots$Sheet" "bits" "I" ∈ kw := km1 147 rfl rfl
theorem kw_1_148 : Jvm.Cond.fieldLink "TalkKnots$Sheet" (15 : Nat) "TalkKnots$Sheet" "size" "I" ∈ kw := km1 148 rfl rfl
theorem kw_1_149 : Jvm.Cond.fieldLink "TalkKnots" (222 : Nat) "TalkKnots$Sheet" "size" "I" ∈ kw := km1 149 rfl rfl
theorem kw_1_150 : Jvm.Cond.fieldLink "TalkKnots$Sheet" (18 : Nat) "TalkKnots$Sheet" "numbers" "[J" ∈ kw := km1 150 rfl rfl
theorem kw_1_151 : Jvm.Cond.fieldLink "TalkKnots" (225 : Nat) "TalkKnots$Sheet" "numbers" "[J" ∈ kw := km1 151 rfl rfl
theorem kw_1_152 : Jvm.Cond.lays "TalkKnots$Sheet" "TalkKnots$Sheet" "bits" "I" ∈ kw := km1 152 rfl rfl
theorem kw_1_153 : Jvm.Cond.soleField "TalkKnots$Sheet" "bits" ∈ kw := km1 153 rfl rfl
theorem kw_1_154 : Jvm.Cond.lays "TalkKnots$Sheet" "TalkKnots$Sheet" "size" "I" ∈ kw := km1 154 rfl rfl
theorem kw_1_155 : Jvm.Cond.soleField "TalkKnots$Sheet" "size" ∈ kw := km1 155 rfl rfl
theorem kw_1_156 : Jvm.Cond.laysFinal "TalkKnots$Sheet" "TalkKnots$Sheet" "numbers" "[J" ∈ kw := km1 156 rfl rfl
theorem kw_1_157 : Jvm.Cond.soleField "TalkKnots$Sheet" "numbers" ∈ kw := km1 157 rfl rfl
theorem kw_1_158 : Jvm.Cond.superclass "TalkKnots$Sheet" "java/lang/Object" ∈ kw := km1 158 rfl rfl
theorem kw_1_159 : Jvm.Cond.arrayClass Jvm.ClassFile.FieldType.long ∈ kw := km1 159 rfl rfl
theorem kw_1_160 : Jvm.Cond.fieldLink "TalkKnots" (10 : Nat) "TalkKnots" "present" "LTalkKnots$Yard;" ∈ kw := km1 160 rfl rfl
theorem kw_1_161 : Jvm.Cond.fieldLink "TalkKnots" (16 : Nat) "TalkKnots" "trial" "LTalkKnots$Yard;" ∈ kw := km1 161 rfl rfl
theorem kw_1_162 : Jvm.Cond.fieldLink "TalkKnots" (19 : Nat) "TalkKnots" "kept" "LTalkKnots$Yard;" ∈ kw := km1 162 rfl rfl
theorem kw_1_163 : Jvm.Cond.fieldLink "TalkKnots" (22 : Nat) "TalkKnots" "isKept" "Z" ∈ kw := km1 163 rfl rfl
theorem kw_1_164 : Jvm.Cond.fieldLink "TalkKnots" (29 : Nat) "TalkKnots" "tape" "LTalkKnots$Tape;" ∈ kw := km1 164 rfl rfl
theorem kw_1_165 : Jvm.Cond.fieldLink "TalkKnots" (38 : Nat) "TalkKnots" "reader" "LTalkKnots$TextReader;" ∈ kw := km1 165 rfl rfl
theorem kw_1_166 : Jvm.Cond.fieldLink "TalkKnots" (44 : Nat) "TalkKnots" "sheets" "[LTalkKnots$Sheet;" ∈ kw := km1 166 rfl rfl
theorem kw_1_167 : Jvm.Cond.fieldLink "TalkKnots" (48 : Nat) "TalkKnots" "told" "[I" ∈ kw := km1 167 rfl rfl
theorem kw_1_168 : Jvm.Cond.laysFinal "TalkKnots" "TalkKnots" "present" "LTalkKnots$Yard;" ∈ kw := km1 168 rfl rfl
theorem kw_1_169 : Jvm.Cond.soleField "TalkKnots" "present" ∈ kw := km1 169 rfl rfl
theorem kw_1_170 : Jvm.Cond.laysFinal "TalkKnots" "TalkKnots" "trial" "LTalkKnots$Yard;" ∈ kw := km1 170 rfl rfl
theorem kw_1_171 : Jvm.Cond.soleField "TalkKnots" "trial" ∈ kw := km1 171 rfl rfl
theorem kw_1_172 : Jvm.Cond.laysFinal "TalkKnots" "TalkKnots" "kept" "LTalkKnots$Yard;" ∈ kw := km1 172 rfl rfl
theorem kw_1_173 : Jvm.Cond.soleField "TalkKnots" "kept" ∈ kw := km1 173 rfl rfl
theorem kw_1_174 : Jvm.Cond.lays "TalkKnots" "TalkKnots" "isKept" "Z" ∈ kw := km1 174 rfl rfl
theorem kw_1_175 : Jvm.Cond.soleField "TalkKnots" "isKept" ∈ kw := km1 175 rfl rfl
theorem kw_1_176 : Jvm.Cond.laysFinal "TalkKnots" "TalkKnots" "tape" "LTalkKnots$Tape;" ∈ kw := km1 176 rfl rfl
theorem kw_1_177 : Jvm.Cond.soleField "TalkKnots" "tape" ∈ kw := km1 177 rfl rfl
theorem kw_1_178 : Jvm.Cond.laysFinal "TalkKnots" "TalkKnots" "reader" "LTalkKnots$TextReader;" ∈ kw := km1 178 rfl rfl
theorem kw_1_179 : Jvm.Cond.soleField "TalkKnots" "reader" ∈ kw := km1 179 rfl rfl
theorem kw_1_180 : Jvm.Cond.laysFinal "TalkKnots" "TalkKnots" "sheets" "[LTalkKnots$Sheet;" ∈ kw := km1 180 rfl rfl
theorem kw_1_181 : Jvm.Cond.soleField "TalkKnots" "sheets" ∈ kw := km1 181 rfl rfl
theorem kw_1_182 : Jvm.Cond.laysFinal "TalkKnots" "TalkKnots" "told" "[I" ∈ kw := km1 182 rfl rfl
theorem kw_1_183 : Jvm.Cond.soleField "TalkKnots" "told" ∈ kw := km1 183 rfl rfl
theorem kw_1_184 : Jvm.Cond.superclass "TalkKnots" "java/lang/Object" ∈ kw := km1 184 rfl rfl
theorem kw_1_185 : Jvm.Cond.methodLink "TalkKnotsLaw" (13 : Nat) ({ cls := "TalkKnots", name := "wind", desc := "(II)I" } : Jvm.MethodName) ∈ kw := km1 185 rfl rfl
theorem kw_1_186 : Jvm.Cond.instanceMethod ({ cls := "TalkKnots", name := "wind", desc := "(II)I" } : Jvm.MethodName) ∈ kw := km1 186 rfl rfl
theorem kw_1_187 : Jvm.Cond.selects "TalkKnots" ({ cls := "TalkKnots", name := "wind", desc := "(II)I" } : Jvm.MethodName) ({ cls := "TalkKnots", name := "wind", desc := "(II)I" } : Jvm.MethodName) ∈ kw := km1 187 rfl rfl
theorem kw_1_188 : Jvm.Cond.code ({ cls := "TalkKnots", name := "wind", desc := "(II)I" } : Jvm.MethodName) prog_1_method_2_code (4 : Nat) (Option.some Jvm.ClassFile.FieldType.int) ∈ kw := km1 188 rfl rfl
theorem kw_1_189 : Jvm.Cond.methodLink "TalkKnots" (53 : Nat) ({ cls := "TalkKnots", name := "isWithin", desc := "(III)Z" } : Jvm.MethodName) ∈ kw := km1 189 rfl rfl
theorem kw_1_190 : Jvm.Cond.static ({ cls := "TalkKnots", name := "isWithin", desc := "(III)Z" } : Jvm.MethodName) ∈ kw := km1 190 rfl rfl
theorem kw_1_191 : Jvm.Cond.code ({ cls := "TalkKnots", name := "isWithin", desc := "(III)Z" } : Jvm.MethodName) prog_1_method_45_code (3 : Nat) (Option.some Jvm.ClassFile.FieldType.boolean) ∈ kw := km1 191 rfl rfl
theorem kw_1_192 : Jvm.Cond.constant "TalkKnots" (57 : Nat) (-1000000001 : Int32) ∈ kw := km1 192 rfl rfl
theorem kw_1_193 : Jvm.Cond.methodLink "TalkKnots" (58 : Nat) ({ cls := "TalkKnots", name := "tell", desc := "(I)I" } : Jvm.MethodName) ∈ kw := km1 193 rfl rfl
theorem kw_1_195 : Jvm.Cond.instanceMethod ({ cls := "TalkKnots", name := "tell", desc := "(I)I" } : Jvm.MethodName) ∈ kw := km1 195 rfl rfl
theorem kw_1_196 : Jvm.Cond.code ({ cls := "TalkKnots", name := "tell", desc := "(I)I" } : Jvm.MethodName) prog_1_method_41_code (3 : Nat) (Option.some Jvm.ClassFile.FieldType.int) ∈ kw := km1 196 rfl rfl
theorem kw_1_197 : Jvm.Cond.methodLink "TalkKnotsLaw" (18 : Nat) ({ cls := "TalkKnots", name := "weight", desc := "(II)I" } : Jvm.MethodName) ∈ kw := km1 197 rfl rfl
theorem kw_1_198 : Jvm.Cond.instanceMethod ({ cls := "TalkKnots", name := "weight", desc := "(II)I" } : Jvm.MethodName) ∈ kw := km1 198 rfl rfl
theorem kw_1_199 : Jvm.Cond.selects "TalkKnots" ({ cls := "TalkKnots", name := "weight", desc := "(II)I" } : Jvm.MethodName) ({ cls := "TalkKnots", name := "weight", desc := "(II)I" } : Jvm.MethodName) ∈ kw := km1 199 rfl rfl
theorem kw_1_200 : Jvm.Cond.code ({ cls := "TalkKnots", name := "weight", desc := "(II)I" } : Jvm.MethodName) prog_1_method_3_code (4 : Nat) (Option.some Jvm.ClassFile.FieldType.int) ∈ kw := km1 200 rfl rfl
theorem kw_1_201 : Jvm.Cond.methodLink "TalkKnots" (65 : Nat) ({ cls := "TalkKnots", name := "isMast", desc := "(I)Z" } : Jvm.MethodName) ∈ kw := km1 201 rfl rfl
theorem kw_1_202 : Jvm.Cond.static ({ cls := "TalkKnots", name := "isMast", desc := "(I)Z" } : Jvm.MethodName) ∈ kw := km1 202 rfl rfl
theorem kw_1_203 : Jvm.Cond.code ({ cls := "TalkKnots", name := "isMast", desc := "(I)Z" } : Jvm.MethodName) prog_1_method_46_code (1 : Nat) (Option.some Jvm.ClassFile.FieldType.boolean) ∈ kw := km1 203 rfl rfl
theorem kw_1_204 : Jvm.Cond.methodLink "TalkKnotsLaw" (22 : Nat) ({ cls := "TalkKnots", name := "raise", desc := "(I)I" } : Jvm.MethodName) ∈ kw := km1 204 rfl rfl
theorem kw_1_205 : Jvm.Cond.instanceMethod ({ cls := "TalkKnots", name := "raise", desc := "(I)I" } : Jvm.MethodName) ∈ kw := km1 205 rfl rfl
theorem kw_1_206 : Jvm.Cond.selects "TalkKnots" ({ cls := "TalkKnots", name := "raise", desc := "(I)I" } : Jvm.MethodName) ({ cls := "TalkKnots", name := "raise", desc := "(I)I" } : Jvm.MethodName) ∈ kw := km1 206 rfl rfl
theorem kw_1_207 : Jvm.Cond.code ({ cls := "TalkKnots", name := "raise", desc := "(I)I" } : Jvm.MethodName) prog_1_method_4_code (3 : Nat) (Option.some Jvm.ClassFile.FieldType.int) ∈ kw := km1 207 rfl rfl
theorem kw_1_208 : Jvm.Cond.methodLink "TalkKnots" (72 : Nat) ({ cls := "TalkKnots$Yard", name := "isUp", desc := "(I)Z" } : Jvm.MethodName) ∈ kw := km1 208 rfl rfl
theorem kw_1_209 : Jvm.Cond.instanceMethod ({ cls := "TalkKnots$Yard", name := "isUp", desc := "(I)Z" } : Jvm.MethodName) ∈ kw := km1 209 rfl rfl
theorem kw_1_210 : Jvm.Cond.selects "TalkKnots$Yard" ({ cls := "TalkKnots$Yard", name := "isUp", desc := "(I)Z" } : Jvm.MethodName) ({ cls := "TalkKnots$Yard", name := "isUp", desc := "(I)Z" } : Jvm.MethodName) ∈ kw := km1 210 rfl rfl
theorem kw_1_211 : Jvm.Cond.code ({ cls := "TalkKnots$Yard", name := "isUp", desc := "(I)Z" } : Jvm.MethodName) prog_6_method_5_code (2 : Nat) (Option.some Jvm.ClassFile.FieldType.boolean) ∈ kw := km1 211 rfl rfl
theorem kw_1_212 : Jvm.Cond.methodLink "TalkKnots" (75 : Nat) ({ cls := "TalkKnots$Yard", name := "putUp", desc := "(IZ)V" } : Jvm.MethodName) ∈ kw := km1 212 rfl rfl
theorem kw_1_213 : Jvm.Cond.instanceMethod ({ cls := "TalkKnots$Yard", name := "putUp", desc := "(IZ)V" } : Jvm.MethodName) ∈ kw := km1 213 rfl rfl
theorem kw_1_214 : Jvm.Cond.selects "TalkKnots$Yard" ({ cls := "TalkKnots$Yard", name := "putUp", desc := "(IZ)V" } : Jvm.MethodName) ({ cls := "TalkKnots$Yard", name := "putUp", desc := "(IZ)V" } : Jvm.MethodName) ∈ kw := km1 214 rfl rfl
theorem kw_1_215 : Jvm.Cond.code ({ cls := "TalkKnots$Yard", name := "putUp", desc := "(IZ)V" } : Jvm.MethodName) prog_6_method_6_code (4 : Nat) (Option.none : Option Jvm.ClassFile.FieldType) ∈ kw := km1 215 rfl rfl
theorem kw_1_216 : Jvm.Cond.methodLink "TalkKnotsLaw" (27 : Nat) ({ cls := "TalkKnots", name := "mastOf", desc := "(II)I" } : Jvm.MethodName) ∈ kw := km1 216 rfl rfl
theorem kw_1_217 : Jvm.Cond.instanceMethod ({ cls := "TalkKnots", name := "mastOf", desc := "(II)I" } : Jvm.MethodName) ∈ kw := km1 217 rfl rfl
theorem kw_1_218 : Jvm.Cond.selects "TalkKnots" ({ cls := "TalkKnots", name := "mastOf", desc := "(II)I" } : Jvm.MethodName) ({ cls := "TalkKnots", name := "mastOf", desc := "(II)I" } : Jvm.MethodName) ∈ kw := km1 218 rfl rfl
theorem kw_1_219 : Jvm.Cond.code ({ cls := "TalkKnots", name := "mastOf", desc := "(II)I" } : Jvm.MethodName) prog_1_method_5_code (3 : Nat) (Option.some Jvm.ClassFile.FieldType.int) ∈ kw := km1 219 rfl rfl
theorem kw_1_220 : Jvm.Cond.methodLink "TalkKnots" (79 : Nat) ({ cls := "TalkKnots$Yard", name := "knotsOf", desc := "(I)I" } : Jvm.MethodName) ∈ kw := km1 220 rfl rfl
theorem kw_1_221 : Jvm.Cond.instanceMethod ({ cls := "TalkKnots$Yard", name := "knotsOf", desc := "(I)I" } : Jvm.MethodName) ∈ kw := km1 221 rfl rfl
theorem kw_1_222 : Jvm.Cond.selects "TalkKnots$Yard" ({ cls := "TalkKnots$Yard", name := "knotsOf", desc := "(I)I" } : Jvm.MethodName) ({ cls := "TalkKnots$Yard", name := "knotsOf", desc := "(I)I" } : Jvm.MethodName) ∈ kw := km1 222 rfl rfl
theorem kw_1_223 : Jvm.Cond.code ({ cls := "TalkKnots$Yard", name := "knotsOf", desc := "(I)I" } : Jvm.MethodName) prog_6_method_9_code (4 : Nat) (Option.some Jvm.ClassFile.FieldType.int) ∈ kw := km1 223 rfl rfl
theorem kw_1_224 : Jvm.Cond.methodLink "TalkKnots" (82 : Nat) ({ cls := "TalkKnots$Yard", name := "fastKnots", desc := "()I" } : Jvm.MethodName) ∈ kw := km1 224 rfl rfl
theorem kw_1_225 : Jvm.Cond.instanceMethod ({ cls := "TalkKnots$Yard", name := "fastKnots", desc := "()I" } : Jvm.MethodName) ∈ kw := km1 225 rfl rfl
theorem kw_1_226 : Jvm.Cond.selects "TalkKnots$Yard" ({ cls := "TalkKnots$Yard", name := "fastKnots", desc := "()I" } : Jvm.MethodName) ({ cls := "TalkKnots$Yard", name := "fastKnots", desc := "()I" } : Jvm.MethodName) ∈ kw := km1 226 rfl rfl
theorem kw_1_227 : Jvm.Cond.code ({ cls := "TalkKnots$Yard", name := "fastKnots", desc := "()I" } : Jvm.MethodName) prog_6_method_10_code (3 : Nat) (Option.some Jvm.ClassFile.FieldType.int) ∈ kw := km1 227 rfl rfl
theorem kw_1_228 : Jvm.Cond.methodLink "TalkKnots" (86 : Nat) ({ cls := "TalkKnots$Yard", name := "strainOn", desc := "(I)I" } : Jvm.MethodName) ∈ kw := km1 228 rfl rfl
theorem kw_1_229 : Jvm.Cond.instanceMethod ({ cls := "TalkKnots$Yard", name := "strainOn", desc := "(I)I" } : Jvm.MethodName) ∈ kw := km1 229 rfl rfl
theorem kw_1_230 : Jvm.Cond.selects "TalkKnots$Yard" ({ cls := "TalkKnots$Yard", name := "strainOn", desc := "(I)I" } : Jvm.MethodName) ({ cls := "TalkKnots$Yard", name := "strainOn", desc := "(I)I" } : Jvm.MethodName) ∈ kw := km1 230 rfl rfl
theorem kw_1_231 : Jvm.Cond.code ({ cls := "TalkKnots$Yard", name := "strainOn", desc := "(I)I" } : Jvm.MethodName) prog_6_method_14_code (2 : Nat) (Option.some Jvm.ClassFile.FieldType.int) ∈ kw := km1 231 rfl rfl
theorem kw_1_232 : Jvm.Cond.methodLink "TalkKnots$Yard" (69 : Nat) ({ cls := "TalkKnots$Yard", name := "countFast", desc := "()V" } : Jvm.MethodName) ∈ kw := km1 232 rfl rfl
theorem kw_1_234 : Jvm.Cond.instanceMethod ({ cls := "TalkKnots$Yard", name := "countFast", desc := "()V" } : Jvm.MethodName) ∈ kw := km1 234 rfl rfl
theorem kw_1_235 : Jvm.Cond.code ({ cls := "TalkKnots$Yard", name := "countFast", desc := "()V" } : Jvm.MethodName) prog_6_method_24_code (2 : Nat) (Option.none : Option Jvm.ClassFile.FieldType) ∈ kw := km1 235 rfl rfl
theorem kw_1_236 : Jvm.Cond.methodLink "TalkKnots$Yard" (72 : Nat) ({ cls := "TalkKnots$Yard", name := "windNow", desc := "()I" } : Jvm.MethodName) ∈ kw := km1 236 rfl rfl
theorem kw_1_237 : Jvm.Cond.instanceMethod ({ cls := "TalkKnots$Yard", name := "windNow", desc := "()I" } : Jvm.MethodName) ∈ kw := km1 237 rfl rfl
theorem kw_1_238 : Jvm.Cond.selects "TalkKnots$Yard" ({ cls := "TalkKnots$Yard", name := "windNow", desc := "()I" } : Jvm.MethodName) ({ cls := "TalkKnots$Yard", name := "windNow", desc := "()I" } : Jvm.MethodName) ∈ kw := km1 238 rfl rfl
theorem kw_1_239 : Jvm.Cond.code ({ cls := "TalkKnots$Yard", name := "windNow", desc := "()I" } : Jvm.MethodName) prog_6_method_4_code (1 : Nat) (Option.some Jvm.ClassFile.FieldType.int) ∈ kw := km1 239 rfl rfl
theorem kw_2_0 : Jvm.Cond.methodLink "TalkKnots$Yard" (48 : Nat) ({ cls := "TalkKnots$Yard", name := "place", desc := "()I" } : Jvm.MethodName) ∈ kw := km2 0 rfl rfl
theorem kw_2_1 : Jvm.Cond.instanceMethod ({ cls := "TalkKnots$Yard", name := "place", desc := "()I" } : Jvm.MethodName) ∈ kw := km2 1 rfl rfl
theorem kw_2_2 : Jvm.Cond.selects "TalkKnots$Yard" ({ cls := "TalkKnots$Yard", name := "place", desc := "()I" } : Jvm.MethodName) ({ cls := "TalkKnots$Yard", name := "place", desc := "()I" } : Jvm.MethodName) ∈ kw := km2 2 rfl rfl
theorem kw_2_3 : Jvm.Cond.code ({ cls := "TalkKnots$Yard", name := "place", desc := "()I" } : Jvm.MethodName) prog_6_method_3_code (1 : Nat) (Option.some Jvm.ClassFile.FieldType.int) ∈ kw := km2 3 rfl rfl
theorem kw_2_4 : Jvm.Cond.methodLink "TalkKnots$Yard" (75 : Nat) ({ cls := "TalkKnots$Yard", name := "strain", desc := "(II)I" } : Jvm.MethodName) ∈ kw := km2 4 rfl rfl
theorem kw_2_6 : Jvm.Cond.instanceMethod ({ cls := "TalkKnots$Yard", name := "strain", desc := "(II)I" } : Jvm.MethodName) ∈ kw := km2 6 rfl rfl
theorem kw_2_7 : Jvm.Cond.code ({ cls := "TalkKnots$Yard", name := "strain", desc := "(II)I" } : Jvm.MethodName) prog_6_method_25_code (4 : Nat) (Option.some Jvm.ClassFile.FieldType.int) ∈ kw := km2 7 rfl rfl
theorem kw_2_8 : Jvm.Cond.methodLink "TalkKnots" (89 : Nat) ({ cls := "TalkKnots$Yard", name := "allHolding", desc := "(I)I" } : Jvm.MethodName) ∈ kw := km2 8 rfl rfl
theorem kw_2_9 : Jvm.Cond.instanceMethod ({ cls := "TalkKnots$Yard", name := "allHolding", desc := "(I)I" } : Jvm.MethodName) ∈ kw := km2 9 rfl rfl
theorem kw_2_10 : Jvm.Cond.selects "TalkKnots$Yard" ({ cls := "TalkKnots$Yard", name := "allHolding", desc := "(I)I" } : Jvm.MethodName) ({ cls := "TalkKnots$Yard", name := "allHolding", desc := "(I)I" } : Jvm.MethodName) ∈ kw := km2 10 rfl rfl
theorem kw_2_11 : Jvm.Cond.code ({ cls := "TalkKnots$Yard", name := "allHolding", desc := "(I)I" } : Jvm.MethodName) prog_6_method_16_code (4 : Nat) (Option.some Jvm.ClassFile.FieldType.int) ∈ kw := km2 11 rfl rfl
theorem kw_2_12 : Jvm.Cond.methodLink "TalkKnots$Yard" (83 : Nat) ({ cls := "TalkKnots$Yard", name := "holdingOf", desc := "(LTalkKnots$Knot;)I" } : Jvm.MethodName) ∈ kw := km2 12 rfl rfl
theorem kw_2_13 : Jvm.Cond.instanceMethod ({ cls := "TalkKnots$Yard", name := "holdingOf", desc := "(LTalkKnots$Knot;)I" } : Jvm.MethodName) ∈ kw := km2 13 rfl rfl
theorem kw_2_14 : Jvm.Cond.selects "TalkKnots$Yard" ({ cls := "TalkKnots$Yard", name := "holdingOf", desc := "(LTalkKnots$Knot;)I" } : Jvm.MethodName) ({ cls := "TalkKnots$Yard", name := "holdingOf", desc := "(LTalkKnots$Knot;)I" } : Jvm.MethodName) ∈ kw := km2 14 rfl rfl
theorem kw_2_15 : Jvm.Cond.code ({ cls := "TalkKnots$Yard", name := "holdingOf", desc := "(LTalkKnots$Knot;)I" } : Jvm.MethodName) prog_6_method_15_code (2 : Nat) (Option.some Jvm.ClassFile.FieldType.int) ∈ kw := km2 15 rfl rfl
theorem kw_2_16 : Jvm.Cond.methodLink "TalkKnots$Yard" (79 : Nat) ({ cls := "TalkKnots$Yard", name := "heldBy", desc := "(LTalkKnots$Knot;I)I" } : Jvm.MethodName) ∈ kw := km2 16 rfl rfl
theorem kw_2_18 : Jvm.Cond.instanceMethod ({ cls := "TalkKnots$Yard", name := "heldBy", desc := "(LTalkKnots$Knot;I)I" } : Jvm.MethodName) ∈ kw := km2 18 rfl rfl
theorem kw_2_19 : Jvm.Cond.code ({ cls := "TalkKnots$Yard", name := "heldBy", desc := "(LTalkKnots$Knot;I)I" } : Jvm.MethodName) prog_6_method_26_code (3 : Nat) (Option.some Jvm.ClassFile.FieldType.int) ∈ kw := km2 19 rfl rfl
theorem kw_2_20 : Jvm.Cond.methodLink "TalkKnots$Yard" (108 : Nat) ({ cls := "TalkKnots$Knot", name := "holding", desc := "(II)I" } : Jvm.MethodName) ∈ kw := km2 20 rfl rfl
theorem kw_2_21 : Jvm.Cond.instanceMethod ({ cls := "TalkKnots$Knot", name := "holding", desc := "(II)I" } : Jvm.MethodName) ∈ kw := km2 21 rfl rfl
theorem kw_2_22 : Jvm.Cond.selects "TalkKnots$Knot" ({ cls := "TalkKnots$Knot", name := "holding", desc := "(II)I" } : Jvm.MethodName) ({ cls := "TalkKnots$Knot", name := "holding", desc := "(II)I" } : Jvm.MethodName) ∈ kw := km2 22 rfl rfl
theorem kw_2_23 : Jvm.Cond.code ({ cls := "TalkKnots$Knot", name := "holding", desc := "(II)I" } : Jvm.MethodName) prog_2_method_5_code (3 : Nat) (Option.some Jvm.ClassFile.FieldType.int) ∈ kw := km2 23 rfl rfl
theorem kw_2_24 : Jvm.Cond.methodLink "TalkKnots$Knot" (28 : Nat) ({ cls := "TalkKnots$Knot", name := "spliceHolding", desc := "()I" } : Jvm.MethodName) ∈ kw := km2 24 rfl rfl
theorem kw_2_26 : Jvm.Cond.instanceMethod ({ cls := "TalkKnots$Knot", name := "spliceHolding", desc := "()I" } : Jvm.MethodName) ∈ kw := km2 26 rfl rfl
theorem kw_2_27 : Jvm.Cond.code ({ cls := "TalkKnots$Knot", name := "spliceHolding", desc := "()I" } : Jvm.MethodName) prog_2_method_6_code (1 : Nat) (Option.some Jvm.ClassFile.FieldType.int) ∈ kw := km2 27 rfl rfl
theorem kw_2_28 : Jvm.Cond.methodLink "TalkKnots$Knot" (32 : Nat) ({ cls := "java/lang/Math", name := "max", desc := "(II)I" } : Jvm.MethodName) ∈ kw := km2 28 rfl rfl
theorem kw_2_29 : Jvm.Cond.static ({ cls := "java/lang/Math", name := "max", desc := "(II)I" } : Jvm.MethodName) ∈ kw := km2 29 rfl rfl
theorem kw_2_30 : Jvm.Cond.code ({ cls := "java/lang/Math", name := "max", desc := "(II)I" } : Jvm.MethodName) prog_10_method_65_code (2 : Nat) (Option.some Jvm.ClassFile.FieldType.int) ∈ kw := km2 30 rfl rfl
theorem kw_2_31 : Jvm.Cond.methodLink "TalkKnotsLaw" (31 : Nat) ({ cls := "TalkKnots", name := "now", desc := "(I)I" } : Jvm.MethodName) ∈ kw := km2 31 rfl rfl
theorem kw_2_32 : Jvm.Cond.instanceMethod ({ cls := "TalkKnots", name := "now", desc := "(I)I" } : Jvm.MethodName) ∈ kw := km2 32 rfl rfl
theorem kw_2_33 : Jvm.Cond.selects "TalkKnots" ({ cls := "TalkKnots", name := "now", desc := "(I)I" } : Jvm.MethodName) ({ cls := "TalkKnots", name := "now", desc := "(I)I" } : Jvm.MethodName) ∈ kw := km2 33 rfl rfl
theorem kw_2_34 : Jvm.Cond.code ({ cls := "TalkKnots", name := "now", desc := "(I)I" } : Jvm.MethodName) prog_1_method_6_code (2 : Nat) (Option.some Jvm.ClassFile.FieldType.int) ∈ kw := km2 34 rfl rfl
theorem kw_2_35 : Jvm.Cond.methodLink "TalkKnots" (96 : Nat) ({ cls := "TalkKnots$Yard", name := "place", desc := "()I" } : Jvm.MethodName) ∈ kw := km2 35 rfl rfl
theorem kw_2_36 : Jvm.Cond.methodLink "TalkKnots" (99 : Nat) ({ cls := "TalkKnots$Yard", name := "windNow", desc := "()I" } : Jvm.MethodName) ∈ kw := km2 36 rfl rfl
theorem kw_2_37 : Jvm.Cond.methodLink "TalkKnots" (105 : Nat) ({ cls := "TalkKnots$Yard", name := "allOpen", desc := "()I" } : Jvm.MethodName) ∈ kw := km2 37 rfl rfl
theorem kw_2_38 : Jvm.Cond.instanceMethod ({ cls := "TalkKnots$Yard", name := "allOpen", desc := "()I" } : Jvm.MethodName) ∈ kw := km2 38 rfl rfl
theorem kw_2_39 : Jvm.Cond.selects "TalkKnots$Yard" ({ cls := "TalkKnots$Yard", name := "allOpen", desc := "()I" } : Jvm.MethodName) ({ cls := "TalkKnots$Yard", name := "allOpen", desc := "()I" } : Jvm.MethodName) ∈ kw := km2 39 rfl rfl
theorem kw_2_40 : Jvm.Cond.code ({ cls := "TalkKnots$Yard", name := "allOpen", desc := "()I" } : Jvm.MethodName) prog_6_method_11_code (3 : Nat) (Option.some Jvm.ClassFile.FieldType.int) ∈ kw := km2 40 rfl rfl
theorem kw_2_41 : Jvm.Cond.methodLink "TalkKnotsLaw" (35 : Nat) ({ cls := "TalkKnots", name := "knot", desc := "(II)I" } : Jvm.MethodName) ∈ kw := km2 41 rfl rfl
theorem kw_2_42 : Jvm.Cond.instanceMethod ({ cls := "TalkKnots", name := "knot", desc := "(II)I" } : Jvm.MethodName) ∈ kw := km2 42 rfl rfl
theorem kw_2_43 : Jvm.Cond.selects "TalkKnots" ({ cls := "TalkKnots", name := "knot", desc := "(II)I" } : Jvm.MethodName) ({ cls := "TalkKnots", name := "knot", desc := "(II)I" } : Jvm.MethodName) ∈ kw := km2 43 rfl rfl
theorem kw_2_44 : Jvm.Cond.code ({ cls := "TalkKnots", name := "knot", desc := "(II)I" } : Jvm.MethodName) prog_1_method_7_code (3 : Nat) (Option.some Jvm.ClassFile.FieldType.int) ∈ kw := km2 44 rfl rfl
theorem kw_2_45 : Jvm.Cond.methodLink "TalkKnots" (108 : Nat) ({ cls := "TalkKnots", name := "isKind", desc := "(I)Z" } : Jvm.MethodName) ∈ kw := km2 45 rfl rfl
theorem kw_2_46 : Jvm.Cond.static ({ cls := "TalkKnots", name := "isKind", desc := "(I)Z" } : Jvm.MethodName) ∈ kw := km2 46 rfl rfl
theorem kw_2_47 : Jvm.Cond.code ({ cls := "TalkKnots", name := "isKind", desc := "(I)Z" } : Jvm.MethodName) prog_1_method_47_code (1 : Nat) (Option.some Jvm.ClassFile.FieldType.boolean) ∈ kw := km2 47 rfl rfl
theorem kw_2_48 : Jvm.Cond.methodLink "TalkKnots" (111 : Nat) ({ cls := "TalkKnots$Yard", name := "isFull", desc := "()Z" } : Jvm.MethodName) ∈ kw := km2 48 rfl rfl
theorem kw_2_49 : Jvm.Cond.instanceMethod ({ cls := "TalkKnots$Yard", name := "isFull", desc := "()Z" } : Jvm.MethodName) ∈ kw := km2 49 rfl rfl
theorem kw_2_50 : Jvm.Cond.selects "TalkKnots$Yard" ({ cls := "TalkKnots$Yard", name := "isFull", desc := "()Z" } : Jvm.MethodName) ({ cls := "TalkKnots$Yard", name := "isFull", desc := "()Z" } : Jvm.MethodName) ∈ kw := km2 50 rfl rfl
theorem kw_2_51 : Jvm.Cond.code ({ cls := "TalkKnots$Yard", name := "isFull", desc := "()Z" } : Jvm.MethodName) prog_6_method_7_code (1 : Nat) (Option.some Jvm.ClassFile.FieldType.boolean) ∈ kw := km2 51 rfl rfl
theorem kw_2_52 : Jvm.Cond.constant "TalkKnots" (115 : Nat) (-1000000002 : Int32) ∈ kw := km2 52 rfl rfl
theorem kw_2_53 : Jvm.Cond.methodLink "TalkKnots" (116 : Nat) ({ cls := "TalkKnots$Yard", name := "addKnot", desc := "(II)I" } : Jvm.MethodName) ∈ kw := km2 53 rfl rfl
theorem kw_2_54 : Jvm.Cond.instanceMethod ({ cls := "TalkKnots$Yard", name := "addKnot", desc := "(II)I" } : Jvm.MethodName) ∈ kw := km2 54 rfl rfl
theorem kw_2_55 : Jvm.Cond.selects "TalkKnots$Yard" ({ cls := "TalkKnots$Yard", name := "addKnot", desc := "(II)I" } : Jvm.MethodName) ({ cls := "TalkKnots$Yard", name := "addKnot", desc := "(II)I" } : Jvm.MethodName) ∈ kw := km2 55 rfl rfl
theorem kw_2_56 : Jvm.Cond.code ({ cls := "TalkKnots$Yard", name := "addKnot", desc := "(II)I" } : Jvm.MethodName) prog_6_method_8_code (3 : Nat) (Option.some Jvm.ClassFile.FieldType.int) ∈ kw := km2 56 rfl rfl
theorem kw_2_57 : Jvm.Cond.methodLink "TalkKnots$Yard" (52 : Nat) ({ cls := "TalkKnots$Knot", name := "begin", desc := "(II)V" } : Jvm.MethodName) ∈ kw := km2 57 rfl rfl
theorem kw_2_58 : Jvm.Cond.instanceMethod ({ cls := "TalkKnots$Knot", name := "begin", desc := "(II)V" } : Jvm.MethodName) ∈ kw := km2 58 rfl rfl
theorem kw_2_59 : Jvm.Cond.selects "TalkKnots$Knot" ({ cls := "TalkKnots$Knot", name := "begin", desc := "(II)V" } : Jvm.MethodName) ({ cls := "TalkKnots$Knot", name := "begin", desc := "(II)V" } : Jvm.MethodName) ∈ kw := km2 59 rfl rfl
theorem kw_2_60 : Jvm.Cond.code ({ cls := "TalkKnots$Knot", name := "begin", desc := "(II)V" } : Jvm.MethodName) prog_2_method_2_code (3 : Nat) (Option.none : Option Jvm.ClassFile.FieldType) ∈ kw := km2 60 rfl rfl
theorem kw_2_61 : Jvm.Cond.methodLink "TalkKnotsLaw" (39 : Nat) ({ cls := "TalkKnots", name := "of", desc := "(II)I" } : Jvm.MethodName) ∈ kw := km2 61 rfl rfl
theorem kw_2_62 : Jvm.Cond.instanceMethod ({ cls := "TalkKnots", name := "of", desc := "(II)I" } : Jvm.MethodName) ∈ kw := km2 62 rfl rfl
theorem kw_2_63 : Jvm.Cond.selects "TalkKnots" ({ cls := "TalkKnots", name := "of", desc := "(II)I" } : Jvm.MethodName) ({ cls := "TalkKnots", name := "of", desc := "(II)I" } : Jvm.MethodName) ∈ kw := km2 63 rfl rfl
theorem kw_2_64 : Jvm.Cond.code ({ cls := "TalkKnots", name := "of", desc := "(II)I" } : Jvm.MethodName) prog_1_method_8_code (4 : Nat) (Option.some Jvm.ClassFile.FieldType.int) ∈ kw := km2 64 rfl rfl
theorem kw_2_65 : Jvm.Cond.methodLink "TalkKnots" (120 : Nat) ({ cls := "TalkKnots", name := "isKnot", desc := "(I)Z" } : Jvm.MethodName) ∈ kw := km2 65 rfl rfl
theorem kw_2_67 : Jvm.Cond.instanceMethod ({ cls := "TalkKnots", name := "isKnot", desc := "(I)Z" } : Jvm.MethodName) ∈ kw := km2 67 rfl rfl
theorem kw_2_68 : Jvm.Cond.code ({ cls := "TalkKnots", name := "isKnot", desc := "(I)Z" } : Jvm.MethodName) prog_1_method_43_code (2 : Nat) (Option.some Jvm.ClassFile.FieldType.boolean) ∈ kw := km2 68 rfl rfl
theorem kw_2_69 : Jvm.Cond.methodLink "TalkKnots" (144 : Nat) ({ cls := "TalkKnots$Yard", name := "holdingOf", desc := "(LTalkKnots$Knot;)I" } : Jvm.MethodName) ∈ kw := km2 69 rfl rfl
theorem kw_2_70 : Jvm.Cond.methodLink "TalkKnots" (148 : Nat) ({ cls := "TalkKnots$Knot", name := "settling", desc := "(I)I" } : Jvm.MethodName) ∈ kw := km2 70 rfl rfl
theorem kw_2_71 : Jvm.Cond.instanceMethod ({ cls := "TalkKnots$Knot", name := "settling", desc := "(I)I" } : Jvm.MethodName) ∈ kw := km2 71 rfl rfl
theorem kw_2_72 : Jvm.Cond.selects "TalkKnots$Knot" ({ cls := "TalkKnots$Knot", name := "settling", desc := "(I)I" } : Jvm.MethodName) ({ cls := "TalkKnots$Knot", name := "settling", desc := "(I)I" } : Jvm.MethodName) ∈ kw := km2 72 rfl rfl
theorem kw_2_73 : Jvm.Cond.code ({ cls := "TalkKnots$Knot", name := "settling", desc := "(I)I" } : Jvm.MethodName) prog_2_method_7_code (2 : Nat) (Option.some Jvm.ClassFile.FieldType.int) ∈ kw := km2 73 rfl rfl
theorem kw_2_74 : Jvm.Cond.methodLink "TalkKnots" (151 : Nat) ({ cls := "TalkKnots$Knot", name := "teasing", desc := "()I" } : Jvm.MethodName) ∈ kw := km2 74 rfl rfl
theorem kw_2_75 : Jvm.Cond.instanceMethod ({ cls := "TalkKnots$Knot", name := "teasing", desc := "()I" } : Jvm.MethodName) ∈ kw := km2 75 rfl rfl
theorem kw_2_76 : Jvm.Cond.selects "TalkKnots$Knot" ({ cls := "TalkKnots$Knot", name := "teasing", desc := "()I" } : Jvm.MethodName) ({ cls := "TalkKnots$Knot", name := "teasing", desc := "()I" } : Jvm.MethodName) ∈ kw := km2 76 rfl rfl
theorem kw_2_77 : Jvm.Cond.code ({ cls := "TalkKnots$Knot", name := "teasing", desc := "()I" } : Jvm.MethodName) prog_2_method_8_code (1 : Nat) (Option.some Jvm.ClassFile.FieldType.int) ∈ kw := km2 77 rfl rfl
theorem kw_2_78 : Jvm.Cond.methodLink "TalkKnots" (154 : Nat) ({ cls := "TalkKnots$Yard", name := "wouldGive", desc := "(LTalkKnots$Knot;)Z" } : Jvm.MethodName) ∈ kw := km2 78 rfl rfl
theorem kw_2_79 : Jvm.Cond.instanceMethod ({ cls := "TalkKnots$Yard", name := "wouldGive", desc := "(LTalkKnots$Knot;)Z" } : Jvm.MethodName) ∈ kw := km2 79 rfl rfl
theorem kw_2_80 : Jvm.Cond.selects "TalkKnots$Yard" ({ cls := "TalkKnots$Yard", name := "wouldGive", desc := "(LTalkKnots$Knot;)Z" } : Jvm.MethodName) ({ cls := "TalkKnots$Yard", name := "wouldGive", desc := "(LTalkKnots$Knot;)Z" } : Jvm.MethodName) ∈ kw := km2 80 rfl rfl
theorem kw_2_81 : Jvm.Cond.code ({ cls := "TalkKnots$Yard", name := "wouldGive", desc := "(LTalkKnots$Knot;)Z" } : Jvm.MethodName) prog_6_method_17_code (3 : Nat) (Option.some Jvm.ClassFile.FieldType.boolean) ∈ kw := km2 81 rfl rfl
theorem kw_2_82 : Jvm.Cond.methodLink "TalkKnots$Yard" (87 : Nat) ({ cls := "TalkKnots$Knot", name := "givesWay", desc := "(II)Z" } : Jvm.MethodName) ∈ kw := km2 82 rfl rfl
theorem kw_2_83 : Jvm.Cond.instanceMethod ({ cls := "TalkKnots$Knot", name := "givesWay", desc := "(II)Z" } : Jvm.MethodName) ∈ kw := km2 83 rfl rfl
theorem kw_2_84 : Jvm.Cond.selects "TalkKnots$Knot" ({ cls := "TalkKnots$Knot", name := "givesWay", desc := "(II)Z" } : Jvm.MethodName) ({ cls := "TalkKnots$Knot", name := "givesWay", desc := "(II)Z" } : Jvm.MethodName) ∈ kw := km2 84 rfl rfl
theorem kw_2_85 : Jvm.Cond.code ({ cls := "TalkKnots$Knot", name := "givesWay", desc := "(II)Z" } : Jvm.MethodName) prog_2_method_9_code (4 : Nat) (Option.some Jvm.ClassFile.FieldType.boolean) ∈ kw := km2 85 rfl rfl
theorem kw_2_86 : Jvm.Cond.methodLink "TalkKnotsLaw" (43 : Nat) ({ cls := "TalkKnots", name := "set", desc := "(III)I" } : Jvm.MethodName) ∈ kw := km2 86 rfl rfl
theorem kw_2_87 : Jvm.Cond.instanceMethod ({ cls := "TalkKnots", name := "set", desc := "(III)I" } : Jvm.MethodName) ∈ kw := km2 87 rfl rfl
theorem kw_2_88 : Jvm.Cond.selects "TalkKnots" ({ cls := "TalkKnots", name := "set", desc := "(III)I" } : Jvm.MethodName) ({ cls := "TalkKnots", name := "set", desc := "(III)I" } : Jvm.MethodName) ∈ kw := km2 88 rfl rfl
theorem kw_2_89 : Jvm.Cond.code ({ cls := "TalkKnots", name := "set", desc := "(III)I" } : Jvm.MethodName) prog_1_method_9_code (6 : Nat) (Option.some Jvm.ClassFile.FieldType.int) ∈ kw := km2 89 rfl rfl
theorem kw_2_90 : Jvm.Cond.methodLink "TalkKnotsLaw" (48 : Nat) ({ cls := "TalkKnots", name := "turn", desc := "(II)I" } : Jvm.MethodName) ∈ kw := km2 90 rfl rfl
theorem kw_2_91 : Jvm.Cond.instanceMethod ({ cls := "TalkKnots", name := "turn", desc := "(II)I" } : Jvm.MethodName) ∈ kw := km2 91 rfl rfl
theorem kw_2_92 : Jvm.Cond.selects "TalkKnots" ({ cls := "TalkKnots", name := "turn", desc := "(II)I" } : Jvm.MethodName) ({ cls := "TalkKnots", name := "turn", desc := "(II)I" } : Jvm.MethodName) ∈ kw := km2 92 rfl rfl
theorem kw_2_93 : Jvm.Cond.code ({ cls := "TalkKnots", name := "turn", desc := "(II)I" } : Jvm.MethodName) prog_1_method_10_code (4 : Nat) (Option.some Jvm.ClassFile.FieldType.int) ∈ kw := km2 93 rfl rfl
theorem kw_2_94 : Jvm.Cond.methodLink "TalkKnotsLaw" (52 : Nat) ({ cls := "TalkKnots", name := "as", desc := "(II)I" } : Jvm.MethodName) ∈ kw := km2 94 rfl rfl
theorem kw_2_95 : Jvm.Cond.instanceMethod ({ cls := "TalkKnots", name := "as", desc := "(II)I" } : Jvm.MethodName) ∈ kw := km2 95 rfl rfl
theorem kw_2_96 : Jvm.Cond.selects "TalkKnots" ({ cls := "TalkKnots", name := "as", desc := "(II)I" } : Jvm.MethodName) ({ cls := "TalkKnots", name := "as", desc := "(II)I" } : Jvm.MethodName) ∈ kw := km2 96 rfl rfl
theorem kw_2_97 : Jvm.Cond.code ({ cls := "TalkKnots", name := "as", desc := "(II)I" } : Jvm.MethodName) prog_1_method_11_code (4 : Nat) (Option.some Jvm.ClassFile.FieldType.int) ∈ kw := km2 97 rfl rfl
theorem kw_2_98 : Jvm.Cond.methodLink "TalkKnots" (158 : Nat) ({ cls := "TalkKnots$Knot", name := "isOf", desc := "(I)Z" } : Jvm.MethodName) ∈ kw := km2 98 rfl rfl
theorem kw_2_99 : Jvm.Cond.instanceMethod ({ cls := "TalkKnots$Knot", name := "isOf", desc := "(I)Z" } : Jvm.MethodName) ∈ kw := km2 99 rfl rfl
theorem kw_2_100 : Jvm.Cond.selects "TalkKnots$Knot" ({ cls := "TalkKnots$Knot", name := "isOf", desc := "(I)Z" } : Jvm.MethodName) ({ cls := "TalkKnots$Knot", name := "isOf", desc := "(I)Z" } : Jvm.MethodName) ∈ kw := km2 100 rfl rfl
theorem kw_2_101 : Jvm.Cond.code ({ cls := "TalkKnots$Knot", name := "isOf", desc := "(I)Z" } : Jvm.MethodName) prog_2_method_4_code (2 : Nat) (Option.some Jvm.ClassFile.FieldType.boolean) ∈ kw := km2 101 rfl rfl
theorem kw_2_102 : Jvm.Cond.constant "TalkKnots" (161 : Nat) (-1000000003 : Int32) ∈ kw := km2 102 rfl rfl
theorem kw_2_103 : Jvm.Cond.methodLink "TalkKnotsLaw" (56 : Nat) ({ cls := "TalkKnots", name := "tease", desc := "(I)I" } : Jvm.MethodName) ∈ kw := km2 103 rfl rfl
theorem kw_2_104 : Jvm.Cond.instanceMethod ({ cls := "TalkKnots", name := "tease", desc := "(I)I" } : Jvm.MethodName) ∈ kw := km2 104 rfl rfl
theorem kw_2_105 : Jvm.Cond.selects "TalkKnots" ({ cls := "TalkKnots", name := "tease", desc := "(I)I" } : Jvm.MethodName) ({ cls := "TalkKnots", name := "tease", desc := "(I)I" } : Jvm.MethodName) ∈ kw := km2 105 rfl rfl
theorem kw_2_106 : Jvm.Cond.code ({ cls := "TalkKnots", name := "tease", desc := "(I)I" } : Jvm.MethodName) prog_1_method_12_code (2 : Nat) (Option.some Jvm.ClassFile.FieldType.int) ∈ kw := km2 106 rfl rfl
theorem kw_2_107 : Jvm.Cond.methodLink "TalkKnots" (162 : Nat) ({ cls := "TalkKnots$Knot", name := "beTeased", desc := "()V" } : Jvm.MethodName) ∈ kw := km2 107 rfl rfl
theorem kw_2_108 : Jvm.Cond.instanceMethod ({ cls := "TalkKnots$Knot", name := "beTeased", desc := "()V" } : Jvm.MethodName) ∈ kw := km2 108 rfl rfl
theorem kw_2_109 : Jvm.Cond.selects "TalkKnots$Knot" ({ cls := "TalkKnots$Knot", name := "beTeased", desc := "()V" } : Jvm.MethodName) ({ cls := "TalkKnots$Knot", name := "beTeased", desc := "()V" } : Jvm.MethodName) ∈ kw := km2 109 rfl rfl
theorem kw_2_110 : Jvm.Cond.code ({ cls := "TalkKnots$Knot", name := "beTeased", desc := "()V" } : Jvm.MethodName) prog_2_method_10_code (1 : Nat) (Option.none : Option Jvm.ClassFile.FieldType) ∈ kw := km2 110 rfl rfl
theorem kw_2_111 : Jvm.Cond.methodLink "TalkKnots$Knot" (38 : Nat) ({ cls := "TalkKnots$Knot", name := "teasing", desc := "()I" } : Jvm.MethodName) ∈ kw := km2 111 rfl rfl
theorem kw_2_112 : Jvm.Cond.methodLink "TalkKnots$Knot" (41 : Nat) ({ cls := "TalkKnots$Knot", name := "openBy", desc := "(I)V" } : Jvm.MethodName) ∈ kw := km2 112 rfl rfl
theorem kw_2_114 : Jvm.Cond.instanceMethod ({ cls := "TalkKnots$Knot", name := "openBy", desc := "(I)V" } : Jvm.MethodName) ∈ kw := km2 114 rfl rfl
theorem kw_2_115 : Jvm.Cond.code ({ cls := "TalkKnots$Knot", name := "openBy", desc := "(I)V" } : Jvm.MethodName) prog_2_method_12_code (2 : Nat) (Option.none : Option Jvm.ClassFile.FieldType) ∈ kw := km2 115 rfl rfl
theorem kw_2_116 : Jvm.Cond.methodLink "TalkKnots$Knot" (49 : Nat) ({ cls := "java/lang/Math", name := "min", desc := "(II)I" } : Jvm.MethodName) ∈ kw := km2 116 rfl rfl
theorem kw_2_117 : Jvm.Cond.static ({ cls := "java/lang/Math", name := "min", desc := "(II)I" } : Jvm.MethodName) ∈ kw := km2 117 rfl rfl
theorem kw_2_118 : Jvm.Cond.code ({ cls := "java/lang/Math", name := "min", desc := "(II)I" } : Jvm.MethodName) prog_10_method_69_code (2 : Nat) (Option.some Jvm.ClassFile.FieldType.int) ∈ kw := km2 118 rfl rfl
theorem kw_2_119 : Jvm.Cond.methodLink "TalkKnotsLaw" (60 : Nat) ({ cls := "TalkKnots", name := "tie", desc := "(I)I" } : Jvm.MethodName) ∈ kw := km2 119 rfl rfl
theorem kw_2_120 : Jvm.Cond.instanceMethod ({ cls := "TalkKnots", name := "tie", desc := "(I)I" } : Jvm.MethodName) ∈ kw := km2 120 rfl rfl
theorem kw_2_121 : Jvm.Cond.selects "TalkKnots" ({ cls := "TalkKnots", name := "tie", desc := "(I)I" } : Jvm.MethodName) ({ cls := "TalkKnots", name := "tie", desc := "(I)I" } : Jvm.MethodName) ∈ kw := km2 121 rfl rfl
theorem kw_2_122 : Jvm.Cond.code ({ cls := "TalkKnots", name := "tie", desc := "(I)I" } : Jvm.MethodName) prog_1_method_13_code (3 : Nat) (Option.some Jvm.ClassFile.FieldType.int) ∈ kw := km2 122 rfl rfl
theorem kw_2_123 : Jvm.Cond.constant "TalkKnots" (165 : Nat) (-1000000005 : Int32) ∈ kw := km2 123 rfl rfl
theorem kw_2_124 : Jvm.Cond.methodLink "TalkKnotsLaw" (64 : Nat) ({ cls := "TalkKnots", name := "cast", desc := "(I)I" } : Jvm.MethodName) ∈ kw := km2 124 rfl rfl
theorem kw_2_125 : Jvm.Cond.instanceMethod ({ cls := "TalkKnots", name := "cast", desc := "(I)I" } : Jvm.MethodName) ∈ kw := km2 125 rfl rfl
theorem kw_2_126 : Jvm.Cond.selects "TalkKnots" ({ cls := "TalkKnots", name := "cast", desc := "(I)I" } : Jvm.MethodName) ({ cls := "TalkKnots", name := "cast", desc := "(I)I" } : Jvm.MethodName) ∈ kw := km2 126 rfl rfl
theorem kw_2_127 : Jvm.Cond.code ({ cls := "TalkKnots", name := "cast", desc := "(I)I" } : Jvm.MethodName) prog_1_method_14_code (3 : Nat) (Option.some Jvm.ClassFile.FieldType.int) ∈ kw := km2 127 rfl rfl
theorem kw_2_128 : Jvm.Cond.methodLink "TalkKnotsLaw" (68 : Nat) ({ cls := "TalkKnots", name := "hours", desc := "(I)I" } : Jvm.MethodName) ∈ kw := km2 128 rfl rfl
theorem kw_2_129 : Jvm.Cond.instanceMethod ({ cls := "TalkKnots", name := "hours", desc := "(I)I" } : Jvm.MethodName) ∈ kw := km2 129 rfl rfl
theorem kw_2_130 : Jvm.Cond.selects "TalkKnots" ({ cls := "TalkKnots", name := "hours", desc := "(I)I" } : Jvm.MethodName) ({ cls := "TalkKnots", name := "hours", desc := "(I)I" } : Jvm.MethodName) ∈ kw := km2 130 rfl rfl
theorem kw_2_131 : Jvm.Cond.code ({ cls := "TalkKnots", name := "hours", desc := "(I)I" } : Jvm.MethodName) prog_1_method_15_code (2 : Nat) (Option.some Jvm.ClassFile.FieldType.int) ∈ kw := km2 131 rfl rfl
theorem kw_2_132 : Jvm.Cond.constant "TalkKnots" (166 : Nat) (99999 : Int32) ∈ kw := km2 132 rfl rfl
theorem kw_2_133 : Jvm.Cond.methodLink "TalkKnots" (167 : Nat) ({ cls := "TalkKnots$Yard", name := "passHours", desc := "(I)V" } : Jvm.MethodName) ∈ kw := km2 133 rfl rfl
theorem kw_2_134 : Jvm.Cond.instanceMethod ({ cls := "TalkKnots$Yard", name := "passHours", desc := "(I)V" } : Jvm.MethodName) ∈ kw := km2 134 rfl rfl
theorem kw_2_135 : Jvm.Cond.selects "TalkKnots$Yard" ({ cls := "TalkKnots$Yard", name := "passHours", desc := "(I)V" } : Jvm.MethodName) ({ cls := "TalkKnots$Yard", name := "passHours", desc := "(I)V" } : Jvm.MethodName) ∈ kw := km2 135 rfl rfl
theorem kw_2_136 : Jvm.Cond.code ({ cls := "TalkKnots$Yard", name := "passHours", desc := "(I)V" } : Jvm.MethodName) prog_6_method_18_code (3 : Nat) (Option.none : Option Jvm.ClassFile.FieldType) ∈ kw := km2 136 rfl rfl
theorem kw_2_137 : Jvm.Cond.methodLink "TalkKnots$Yard" (91 : Nat) ({ cls := "TalkKnots$Yard", name := "passHour", desc := "()V" } : Jvm.MethodName) ∈ kw := km2 137 rfl rfl
theorem kw_2_138 : Jvm.Cond.instanceMethod ({ cls := "TalkKnots$Yard", name := "passHour", desc := "()V" } : Jvm.MethodName) ∈ kw := km2 138 rfl rfl
theorem kw_2_139 : Jvm.Cond.selects "TalkKnots$Yard" ({ cls := "TalkKnots$Yard", name := "passHour", desc := "()V" } : Jvm.MethodName) ({ cls := "TalkKnots$Yard", name := "passHour", desc := "()V" } : Jvm.MethodName) ∈ kw := km2 139 rfl rfl
theorem kw_2_140 : Jvm.Cond.code ({ cls := "TalkKnots$Yard", name := "passHour", desc := "()V" } : Jvm.MethodName) prog_6_method_19_code (2 : Nat) (Option.none : Option Jvm.ClassFile.FieldType) ∈ kw := km2 140 rfl rfl
theorem kw_2_141 : Jvm.Cond.methodLink "TalkKnots$Yard" (94 : Nat) ({ cls := "TalkKnots$Yard", name := "letGo", desc := "(I)V" } : Jvm.MethodName) ∈ kw := km2 141 rfl rfl
theorem kw_2_143 : Jvm.Cond.instanceMethod ({ cls := "TalkKnots$Yard", name := "letGo", desc := "(I)V" } : Jvm.MethodName) ∈ kw := km2 143 rfl rfl
theorem kw_2_144 : Jvm.Cond.code ({ cls := "TalkKnots$Yard", name := "letGo", desc := "(I)V" } : Jvm.MethodName) prog_6_method_27_code (4 : Nat) (Option.none : Option Jvm.ClassFile.FieldType) ∈ kw := km2 144 rfl rfl
theorem kw_2_145 : Jvm.Cond.methodLink "TalkKnots$Yard" (104 : Nat) ({ cls := "TalkKnots$Yard", name := "isUp", desc := "(I)Z" } : Jvm.MethodName) ∈ kw := km2 145 rfl rfl
theorem kw_2_146 : Jvm.Cond.methodLink "TalkKnots$Yard" (98 : Nat) ({ cls := "TalkKnots$Yard", name := "dropMasts", desc := "()V" } : Jvm.MethodName) ∈ kw := km2 146 rfl rfl
theorem kw_2_148 : Jvm.Cond.instanceMethod ({ cls := "TalkKnots$Yard", name := "dropMasts", desc := "()V" } : Jvm.MethodName) ∈ kw := km2 148 rfl rfl
theorem kw_2_149 : Jvm.Cond.code ({ cls := "TalkKnots$Yard", name := "dropMasts", desc := "()V" } : Jvm.MethodName) prog_6_method_28_code (2 : Nat) (Option.none : Option Jvm.ClassFile.FieldType) ∈ kw := km2 149 rfl rfl
theorem kw_2_150 : Jvm.Cond.methodLink "TalkKnots$Yard" (111 : Nat) ({ cls := "TalkKnots$Yard", name := "putUp", desc := "(IZ)V" } : Jvm.MethodName) ∈ kw := km2 150 rfl rfl
theorem kw_2_151 : Jvm.Cond.methodLink "TalkKnots$Yard" (101 : Nat) ({ cls := "TalkKnots$Yard", name := "settleKnots", desc := "(I)V" } : Jvm.MethodName) ∈ kw := km2 151 rfl rfl
theorem kw_2_153 : Jvm.Cond.instanceMethod ({ cls := "TalkKnots$Yard", name := "settleKnots", desc := "(I)V" } : Jvm.MethodName) ∈ kw := km2 153 rfl rfl
theorem kw_2_154 : Jvm.Cond.code ({ cls := "TalkKnots$Yard", name := "settleKnots", desc := "(I)V" } : Jvm.MethodName) prog_6_method_29_code (3 : Nat) (Option.none : Option Jvm.ClassFile.FieldType) ∈ kw := km2 154 rfl rfl
theorem kw_2_155 : Jvm.Cond.methodLink "TalkKnots$Yard" (115 : Nat) ({ cls := "TalkKnots$Knot", name := "settle", desc := "(I)V" } : Jvm.MethodName) ∈ kw := km2 155 rfl rfl
theorem kw_2_156 : Jvm.Cond.instanceMethod ({ cls := "TalkKnots$Knot", name := "settle", desc := "(I)V" } : Jvm.MethodName) ∈ kw := km2 156 rfl rfl
theorem kw_2_157 : Jvm.Cond.selects "TalkKnots$Knot" ({ cls := "TalkKnots$Knot", name := "settle", desc := "(I)V" } : Jvm.MethodName) ({ cls := "TalkKnots$Knot", name := "settle", desc := "(I)V" } : Jvm.MethodName) ∈ kw := km2 157 rfl rfl
theorem kw_2_158 : Jvm.Cond.code ({ cls := "TalkKnots$Knot", name := "settle", desc := "(I)V" } : Jvm.MethodName) prog_2_method_11_code (2 : Nat) (Option.none : Option Jvm.ClassFile.FieldType) ∈ kw := km2 158 rfl rfl
theorem kw_2_159 : Jvm.Cond.methodLink "TalkKnots$Knot" (45 : Nat) ({ cls := "TalkKnots$Knot", name := "settling", desc := "(I)I" } : Jvm.MethodName) ∈ kw := km2 159 rfl rfl
theorem kw_2_160 : Jvm.Cond.methodLink "TalkKnotsLaw" (72 : Nat) ({ cls := "TalkKnots", name := "on", desc := "(III)I" } : Jvm.MethodName) ∈ kw := km2 160 rfl rfl
theorem kw_2_161 : Jvm.Cond.instanceMethod ({ cls := "TalkKnots", name := "on", desc := "(III)I" } : Jvm.MethodName) ∈ kw := km2 161 rfl rfl
theorem kw_2_162 : Jvm.Cond.selects "TalkKnots" ({ cls := "TalkKnots", name := "on", desc := "(III)I" } : Jvm.MethodName) ({ cls := "TalkKnots", name := "on", desc := "(III)I" } : Jvm.MethodName) ∈ kw := km2 162 rfl rfl
theorem kw_2_163 : Jvm.Cond.code ({ cls := "TalkKnots", name := "on", desc := "(III)I" } : Jvm.MethodName) prog_1_method_16_code (5 : Nat) (Option.some Jvm.ClassFile.FieldType.int) ∈ kw := km2 163 rfl rfl
theorem kw_2_164 : Jvm.Cond.methodLink "TalkKnots" (171 : Nat) ({ cls := "TalkKnots$Yard", name := "become", desc := "(LTalkKnots$Yard;)V" } : Jvm.MethodName) ∈ kw := km2 164 rfl rfl
theorem kw_2_165 : Jvm.Cond.instanceMethod ({ cls := "TalkKnots$Yard", name := "become", desc := "(LTalkKnots$Yard;)V" } : Jvm.MethodName) ∈ kw := km2 165 rfl rfl
theorem kw_2_166 : Jvm.Cond.selects "TalkKnots$Yard" ({ cls := "TalkKnots$Yard", name := "become", desc := "(LTalkKnots$Yard;)V" } : Jvm.MethodName) ({ cls := "TalkKnots$Yard", name := "become", desc := "(LTalkKnots$Yard;)V" } : Jvm.MethodName) ∈ kw := km2 166 rfl rfl
theorem kw_2_167 : Jvm.Cond.code ({ cls := "TalkKnots$Yard", name := "become", desc := "(LTalkKnots$Yard;)V" } : Jvm.MethodName) prog_6_method_2_code (3 : Nat) (Option.none : Option Jvm.ClassFile.FieldType) ∈ kw := km2 167 rfl rfl
theorem kw_2_168 : Jvm.Cond.methodLink "TalkKnots$Yard" (38 : Nat) ({ cls := "java/lang/System", name := "arraycopy", desc := "(Ljava/lang/Object;ILjava/lang/Object;II)V" } : Jvm.MethodName) ∈ kw := km2 168 rfl rfl
theorem kw_2_169 : Jvm.Cond.static ({ cls := "java/lang/System", name := "arraycopy", desc := "(Ljava/lang/Object;ILjava/lang/Object;II)V" } : Jvm.MethodName) ∈ kw := km2 169 rfl rfl
theorem kw_2_170 : Jvm.Cond.native ({ cls := "java/lang/System", name := "arraycopy", desc := "(Ljava/lang/Object;ILjava/lang/Object;II)V" } : Jvm.MethodName) ∈ kw := km2 170 rfl rfl
theorem kw_2_171 : Jvm.Cond.methodLink "TalkKnots$Yard" (44 : Nat) ({ cls := "TalkKnots$Knot", name := "beLike", desc := "(LTalkKnots$Knot;)V" } : Jvm.MethodName) ∈ kw := km2 171 rfl rfl
theorem kw_2_172 : Jvm.Cond.instanceMethod ({ cls := "TalkKnots$Knot", name := "beLike", desc := "(LTalkKnots$Knot;)V" } : Jvm.MethodName) ∈ kw := km2 172 rfl rfl
theorem kw_2_173 : Jvm.Cond.selects "TalkKnots$Knot" ({ cls := "TalkKnots$Knot", name := "beLike", desc := "(LTalkKnots$Knot;)V" } : Jvm.MethodName) ({ cls := "TalkKnots$Knot", name := "beLike", desc := "(LTalkKnots$Knot;)V" } : Jvm.MethodName) ∈ kw := km2 173 rfl rfl
theorem kw_2_174 : Jvm.Cond.code ({ cls := "TalkKnots$Knot", name := "beLike", desc := "(LTalkKnots$Knot;)V" } : Jvm.MethodName) prog_2_method_3_code (2 : Nat) (Option.none : Option Jvm.ClassFile.FieldType) ∈ kw := km2 174 rfl rfl
theorem kw_2_175 : Jvm.Cond.methodLink "TalkKnotsLaw" (76 : Nat) ({ cls := "TalkKnots", name := "then", desc := "(II)I" } : Jvm.MethodName) ∈ kw := km2 175 rfl rfl
theorem kw_2_176 : Jvm.Cond.instanceMethod ({ cls := "TalkKnots", name := "then", desc := "(II)I" } : Jvm.MethodName) ∈ kw := km2 176 rfl rfl
theorem kw_2_177 : Jvm.Cond.selects "TalkKnots" ({ cls := "TalkKnots", name := "then", desc := "(II)I" } : Jvm.MethodName) ({ cls := "TalkKnots", name := "then", desc := "(II)I" } : Jvm.MethodName) ∈ kw := km2 177 rfl rfl
theorem kw_2_178 : Jvm.Cond.code ({ cls := "TalkKnots", name := "then", desc := "(II)I" } : Jvm.MethodName) prog_1_method_17_code (3 : Nat) (Option.some Jvm.ClassFile.FieldType.int) ∈ kw := km2 178 rfl rfl
theorem kw_2_179 : Jvm.Cond.methodLink "TalkKnotsLaw" (80 : Nat) ({ cls := "TalkKnots", name := "falls", desc := "(I)I" } : Jvm.MethodName) ∈ kw := km2 179 rfl rfl
theorem kw_2_180 : Jvm.Cond.instanceMethod ({ cls := "TalkKnots", name := "falls", desc := "(I)I" } : Jvm.MethodName) ∈ kw := km2 180 rfl rfl
theorem kw_2_181 : Jvm.Cond.selects "TalkKnots" ({ cls := "TalkKnots", name := "falls", desc := "(I)I" } : Jvm.MethodName) ({ cls := "TalkKnots", name := "falls", desc := "(I)I" } : Jvm.MethodName) ∈ kw := km2 181 rfl rfl
theorem kw_2_182 : Jvm.Cond.code ({ cls := "TalkKnots", name := "falls", desc := "(I)I" } : Jvm.MethodName) prog_1_method_18_code (3 : Nat) (Option.some Jvm.ClassFile.FieldType.int) ∈ kw := km2 182 rfl rfl
theorem kw_2_183 : Jvm.Cond.methodLink "TalkKnots" (175 : Nat) ({ cls := "TalkKnots$Yard", name := "hoursTillFallen", desc := "(I)I" } : Jvm.MethodName) ∈ kw := km2 183 rfl rfl
theorem kw_2_184 : Jvm.Cond.instanceMethod ({ cls := "TalkKnots$Yard", name := "hoursTillFallen", desc := "(I)I" } : Jvm.MethodName) ∈ kw := km2 184 rfl rfl
theorem kw_2_185 : Jvm.Cond.selects "TalkKnots$Yard" ({ cls := "TalkKnots$Yard", name := "hoursTillFallen", desc := "(I)I" } : Jvm.MethodName) ({ cls := "TalkKnots$Yard", name := "hoursTillFallen", desc := "(I)I" } : Jvm.MethodName) ∈ kw := km2 185 rfl rfl
theorem kw_2_186 : Jvm.Cond.code ({ cls := "TalkKnots$Yard", name := "hoursTillFallen", desc := "(I)I" } : Jvm.MethodName) prog_6_method_22_code (3 : Nat) (Option.some Jvm.ClassFile.FieldType.int) ∈ kw := km2 186 rfl rfl
theorem kw_2_187 : Jvm.Cond.constant "TalkKnots" (178 : Nat) (-1000000004 : Int32) ∈ kw := km2 187 rfl rfl
theorem kw_2_188 : Jvm.Cond.methodLink "TalkKnotsLaw" (84 : Nat) ({ cls := "TalkKnots", name := "gives", desc := "(I)I" } : Jvm.MethodName) ∈ kw := km2 188 rfl rfl
theorem kw_2_189 : Jvm.Cond.instanceMethod ({ cls := "TalkKnots", name := "gives", desc := "(I)I" } : Jvm.MethodName) ∈ kw := km2 189 rfl rfl
theorem kw_2_190 : Jvm.Cond.selects "TalkKnots" ({ cls := "TalkKnots", name := "gives", desc := "(I)I" } : Jvm.MethodName) ({ cls := "TalkKnots", name := "gives", desc := "(I)I" } : Jvm.MethodName) ∈ kw := km2 190 rfl rfl
theorem kw_2_191 : Jvm.Cond.code ({ cls := "TalkKnots", name := "gives", desc := "(I)I" } : Jvm.MethodName) prog_1_method_19_code (3 : Nat) (Option.some Jvm.ClassFile.FieldType.int) ∈ kw := km2 191 rfl rfl
theorem kw_2_192 : Jvm.Cond.methodLink "TalkKnots" (179 : Nat) ({ cls := "TalkKnots$Yard", name := "hoursTillLoose", desc := "(LTalkKnots$Knot;)I" } : Jvm.MethodName) ∈ kw := km2 192 rfl rfl
theorem kw_2_193 : Jvm.Cond.instanceMethod ({ cls := "TalkKnots$Yard", name := "hoursTillLoose", desc := "(LTalkKnots$Knot;)I" } : Jvm.MethodName) ∈ kw := km2 193 rfl rfl
theorem kw_2_194 : Jvm.Cond.selects "TalkKnots$Yard" ({ cls := "TalkKnots$Yard", name := "hoursTillLoose", desc := "(LTalkKnots$Knot;)I" } : Jvm.MethodName) ({ cls := "TalkKnots$Yard", name := "hoursTillLoose", desc := "(LTalkKnots$Knot;)I" } : Jvm.MethodName) ∈ kw := km2 194 rfl rfl
theorem kw_2_195 : Jvm.Cond.code ({ cls := "TalkKnots$Yard", name := "hoursTillLoose", desc := "(LTalkKnots$Knot;)I" } : Jvm.MethodName) prog_6_method_23_code (3 : Nat) (Option.some Jvm.ClassFile.FieldType.int) ∈ kw := km2 195 rfl rfl
theorem kw_2_196 : Jvm.Cond.methodLink "TalkKnotsLaw" (88 : Nat) ({ cls := "TalkKnots", name := "best", desc := "(I)I" } : Jvm.MethodName) ∈ kw := km2 196 rfl rfl
theorem kw_2_197 : Jvm.Cond.instanceMethod ({ cls := "TalkKnots", name := "best", desc := "(I)I" } : Jvm.MethodName) ∈ kw := km2 197 rfl rfl
theorem kw_2_198 : Jvm.Cond.selects "TalkKnots" ({ cls := "TalkKnots", name := "best", desc := "(I)I" } : Jvm.MethodName) ({ cls := "TalkKnots", name := "best", desc := "(I)I" } : Jvm.MethodName) ∈ kw := km2 198 rfl rfl
theorem kw_2_199 : Jvm.Cond.code ({ cls := "TalkKnots", name := "best", desc := "(I)I" } : Jvm.MethodName) prog_1_method_20_code (6 : Nat) (Option.some Jvm.ClassFile.FieldType.int) ∈ kw := km2 199 rfl rfl
theorem kw_2_200 : Jvm.Cond.methodLink "TalkKnotsLaw" (92 : Nat) ({ cls := "TalkKnots", name := "kind", desc := "(I)I" } : Jvm.MethodName) ∈ kw := km2 200 rfl rfl
theorem kw_2_201 : Jvm.Cond.instanceMethod ({ cls := "TalkKnots", name := "kind", desc := "(I)I" } : Jvm.MethodName) ∈ kw := km2 201 rfl rfl
theorem kw_2_202 : Jvm.Cond.selects "TalkKnots" ({ cls := "TalkKnots", name := "kind", desc := "(I)I" } : Jvm.MethodName) ({ cls := "TalkKnots", name := "kind", desc := "(I)I" } : Jvm.MethodName) ∈ kw := km2 202 rfl rfl
theorem kw_2_203 : Jvm.Cond.code ({ cls := "TalkKnots", name := "kind", desc := "(I)I" } : Jvm.MethodName) prog_1_method_21_code (6 : Nat) (Option.some Jvm.ClassFile.FieldType.int) ∈ kw := km2 203 rfl rfl
theorem kw_2_204 : Jvm.Cond.methodLink "TalkKnotsLaw" (96 : Nat) ({ cls := "TalkKnots", name := "open", desc := "(II)I" } : Jvm.MethodName) ∈ kw := km2 204 rfl rfl
theorem kw_2_205 : Jvm.Cond.instanceMethod ({ cls := "TalkKnots", name := "open", desc := "(II)I" } : Jvm.MethodName) ∈ kw := km2 205 rfl rfl
theorem kw_2_206 : Jvm.Cond.selects "TalkKnots" ({ cls := "TalkKnots", name := "open", desc := "(II)I" } : Jvm.MethodName) ({ cls := "TalkKnots", name := "open", desc := "(II)I" } : Jvm.MethodName) ∈ kw := km2 206 rfl rfl
theorem kw_2_207 : Jvm.Cond.code ({ cls := "TalkKnots", name := "open", desc := "(II)I" } : Jvm.MethodName) prog_1_method_22_code (4 : Nat) (Option.some Jvm.ClassFile.FieldType.int) ∈ kw := km2 207 rfl rfl
theorem kw_2_208 : Jvm.Cond.methodLink "TalkKnots" (185 : Nat) ({ cls := "TalkKnots$Yard", name := "staysFast", desc := "(LTalkKnots$Knot;I)Z" } : Jvm.MethodName) ∈ kw := km2 208 rfl rfl
theorem kw_2_209 : Jvm.Cond.instanceMethod ({ cls := "TalkKnots$Yard", name := "staysFast", desc := "(LTalkKnots$Knot;I)Z" } : Jvm.MethodName) ∈ kw := km2 209 rfl rfl
theorem kw_2_210 : Jvm.Cond.selects "TalkKnots$Yard" ({ cls := "TalkKnots$Yard", name := "staysFast", desc := "(LTalkKnots$Knot;I)Z" } : Jvm.MethodName) ({ cls := "TalkKnots$Yard", name := "staysFast", desc := "(LTalkKnots$Knot;I)Z" } : Jvm.MethodName) ∈ kw := km2 210 rfl rfl
theorem kw_2_211 : Jvm.Cond.code ({ cls := "TalkKnots$Yard", name := "staysFast", desc := "(LTalkKnots$Knot;I)Z" } : Jvm.MethodName) prog_6_method_21_code (4 : Nat) (Option.some Jvm.ClassFile.FieldType.boolean) ∈ kw := km2 211 rfl rfl
theorem kw_2_212 : Jvm.Cond.methodLink "TalkKnotsLaw" (100 : Nat) ({ cls := "TalkKnots", name := "bears", desc := "(II)I" } : Jvm.MethodName) ∈ kw := km2 212 rfl rfl
theorem kw_2_213 : Jvm.Cond.instanceMethod ({ cls := "TalkKnots", name := "bears", desc := "(II)I" } : Jvm.MethodName) ∈ kw := km2 213 rfl rfl
theorem kw_2_214 : Jvm.Cond.selects "TalkKnots" ({ cls := "TalkKnots", name := "bears", desc := "(II)I" } : Jvm.MethodName) ({ cls := "TalkKnots", name := "bears", desc := "(II)I" } : Jvm.MethodName) ∈ kw := km2 214 rfl rfl
theorem kw_2_215 : Jvm.Cond.code ({ cls := "TalkKnots", name := "bears", desc := "(II)I" } : Jvm.MethodName) prog_1_method_23_code (7 : Nat) (Option.some Jvm.ClassFile.FieldType.int) ∈ kw := km2 215 rfl rfl
theorem kw_2_216 : Jvm.Cond.methodLink "TalkKnots" (189 : Nat) ({ cls := "TalkKnots$Yard", name := "staysUp", desc := "(II)Z" } : Jvm.MethodName) ∈ kw := km2 216 rfl rfl
theorem kw_2_217 : Jvm.Cond.instanceMethod ({ cls := "TalkKnots$Yard", name := "staysUp", desc := "(II)Z" } : Jvm.MethodName) ∈ kw := km2 217 rfl rfl
theorem kw_2_218 : Jvm.Cond.selects "TalkKnots$Yard" ({ cls := "TalkKnots$Yard", name := "staysUp", desc := "(II)Z" } : Jvm.MethodName) ({ cls := "TalkKnots$Yard", name := "staysUp", desc := "(II)Z" } : Jvm.MethodName) ∈ kw := km2 218 rfl rfl
theorem kw_2_219 : Jvm.Cond.code ({ cls := "TalkKnots$Yard", name := "staysUp", desc := "(II)Z" } : Jvm.MethodName) prog_6_method_20_code (4 : Nat) (Option.some Jvm.ClassFile.FieldType.boolean) ∈ kw := km2 219 rfl rfl
theorem kw_2_220 : Jvm.Cond.methodLink "TalkKnotsLaw" (104 : Nat) ({ cls := "TalkKnots", name := "move", desc := "(II)I" } : Jvm.MethodName) ∈ kw := km2 220 rfl rfl
theorem kw_2_221 : Jvm.Cond.instanceMethod ({ cls := "TalkKnots", name := "move", desc := "(II)I" } : Jvm.MethodName) ∈ kw := km2 221 rfl rfl
theorem kw_2_222 : Jvm.Cond.selects "TalkKnots" ({ cls := "TalkKnots", name := "move", desc := "(II)I" } : Jvm.MethodName) ({ cls := "TalkKnots", name := "move", desc := "(II)I" } : Jvm.MethodName) ∈ kw := km2 222 rfl rfl
theorem kw_2_223 : Jvm.Cond.code ({ cls := "TalkKnots", name := "move", desc := "(II)I" } : Jvm.MethodName) prog_1_method_24_code (7 : Nat) (Option.some Jvm.ClassFile.FieldType.int) ∈ kw := km2 223 rfl rfl
theorem kw_2_224 : Jvm.Cond.methodLink "TalkKnots" (193 : Nat) ({ cls := "java/lang/Integer", name := "bitCount", desc := "(I)I" } : Jvm.MethodName) ∈ kw := km2 224 rfl rfl
theorem kw_2_225 : Jvm.Cond.static ({ cls := "java/lang/Integer", name := "bitCount", desc := "(I)I" } : Jvm.MethodName) ∈ kw := km2 225 rfl rfl
theorem kw_2_226 : Jvm.Cond.code ({ cls := "java/lang/Integer", name := "bitCount", desc := "(I)I" } : Jvm.MethodName) prog_9_method_49_code (1 : Nat) (Option.some Jvm.ClassFile.FieldType.int) ∈ kw := km2 226 rfl rfl
theorem kw_2_227 : Jvm.Cond.constant "java/lang/Integer" (265 : Nat) (1431655765 : Int32) ∈ kw := km2 227 rfl rfl
theorem kw_2_228 : Jvm.Cond.constant "java/lang/Integer" (266 : Nat) (858993459 : Int32) ∈ kw := km2 228 rfl rfl
theorem kw_2_229 : Jvm.Cond.constant "java/lang/Integer" (267 : Nat) (252645135 : Int32) ∈ kw := km2 229 rfl rfl
theorem kw_2_230 : Jvm.Cond.methodLink "TalkKnotsLaw" (108 : Nat) ({ cls := "TalkKnots", name := "calm", desc := "(I)I" } : Jvm.MethodName) ∈ kw := km2 230 rfl rfl
theorem kw_2_231 : Jvm.Cond.instanceMethod ({ cls := "TalkKnots", name := "calm", desc := "(I)I" } : Jvm.MethodName) ∈ kw := km2 231 rfl rfl
theorem kw_2_232 : Jvm.Cond.selects "TalkKnots" ({ cls := "TalkKnots", name := "calm", desc := "(I)I" } : Jvm.MethodName) ({ cls := "TalkKnots", name := "calm", desc := "(I)I" } : Jvm.MethodName) ∈ kw := km2 232 rfl rfl
theorem kw_2_233 : Jvm.Cond.code ({ cls := "TalkKnots", name := "calm", desc := "(I)I" } : Jvm.MethodName) prog_1_method_25_code (6 : Nat) (Option.some Jvm.ClassFile.FieldType.int) ∈ kw := km2 233 rfl rfl
theorem kw_2_234 : Jvm.Cond.methodLink "TalkKnotsLaw" (112 : Nat) ({ cls := "TalkKnots", name := "firmest", desc := "(I)I" } : Jvm.MethodName) ∈ kw := km2 234 rfl rfl
theorem kw_2_235 : Jvm.Cond.instanceMethod ({ cls := "TalkKnots", name := "firmest", desc := "(I)I" } : Jvm.MethodName) ∈ kw := km2 235 rfl rfl
theorem kw_2_236 : Jvm.Cond.selects "TalkKnots" ({ cls := "TalkKnots", name := "firmest", desc := "(I)I" } : Jvm.MethodName) ({ cls := "TalkKnots", name := "firmest", desc := "(I)I" } : Jvm.MethodName) ∈ kw := km2 236 rfl rfl
theorem kw_2_237 : Jvm.Cond.code ({ cls := "TalkKnots", name := "firmest", desc := "(I)I" } : Jvm.MethodName) prog_1_method_26_code (6 : Nat) (Option.some Jvm.ClassFile.FieldType.int) ∈ kw := km2 237 rfl rfl
theorem kw_2_238 : Jvm.Cond.methodLink "TalkKnotsLaw" (116 : Nat) ({ cls := "TalkKnots", name := "feed", desc := "(II)I" } : Jvm.MethodName) ∈ kw := km2 238 rfl rfl
theorem kw_2_239 : Jvm.Cond.instanceMethod ({ cls := "TalkKnots", name := "feed", desc := "(II)I" } : Jvm.MethodName) ∈ kw := km2 239 rfl rfl
theorem kw_3_0 : Jvm.Cond.selects "TalkKnots" ({ cls := "TalkKnots", name := "feed", desc := "(II)I" } : Jvm.MethodName) ({ cls := "TalkKnots", name := "feed", desc := "(II)I" } : Jvm.MethodName) ∈ kw := km3 0 rfl rfl
theorem kw_3_1 : Jvm.Cond.code ({ cls := "TalkKnots", name := "feed", desc := "(II)I" } : Jvm.MethodName) prog_1_method_27_code (4 : Nat) (Option.some Jvm.ClassFile.FieldType.int) ∈ kw := km3 1 rfl rfl
theorem kw_3_2 : Jvm.Cond.methodLink "TalkKnots" (201 : Nat) ({ cls := "TalkKnots$Tape", name := "add", desc := "(I)V" } : Jvm.MethodName) ∈ kw := km3 2 rfl rfl
theorem kw_3_3 : Jvm.Cond.instanceMethod ({ cls := "TalkKnots$Tape", name := "add", desc := "(I)V" } : Jvm.MethodName) ∈ kw := km3 3 rfl rfl
theorem kw_3_4 : Jvm.Cond.selects "TalkKnots$Tape" ({ cls := "TalkKnots$Tape", name := "add", desc := "(I)V" } : Jvm.MethodName) ({ cls := "TalkKnots$Tape", name := "add", desc := "(I)V" } : Jvm.MethodName) ∈ kw := km3 4 rfl rfl
theorem kw_3_5 : Jvm.Cond.code ({ cls := "TalkKnots$Tape", name := "add", desc := "(I)V" } : Jvm.MethodName) prog_4_method_2_code (2 : Nat) (Option.none : Option Jvm.ClassFile.FieldType) ∈ kw := km3 5 rfl rfl
theorem kw_3_6 : Jvm.Cond.methodLink "TalkKnotsLaw" (120 : Nat) ({ cls := "TalkKnots", name := "wipe", desc := "()I" } : Jvm.MethodName) ∈ kw := km3 6 rfl rfl
theorem kw_3_7 : Jvm.Cond.instanceMethod ({ cls := "TalkKnots", name := "wipe", desc := "()I" } : Jvm.MethodName) ∈ kw := km3 7 rfl rfl
theorem kw_3_8 : Jvm.Cond.selects "TalkKnots" ({ cls := "TalkKnots", name := "wipe", desc := "()I" } : Jvm.MethodName) ({ cls := "TalkKnots", name := "wipe", desc := "()I" } : Jvm.MethodName) ∈ kw := km3 8 rfl rfl
theorem kw_3_9 : Jvm.Cond.code ({ cls := "TalkKnots", name := "wipe", desc := "()I" } : Jvm.MethodName) prog_1_method_28_code (2 : Nat) (Option.some Jvm.ClassFile.FieldType.int) ∈ kw := km3 9 rfl rfl
theorem kw_3_10 : Jvm.Cond.methodLink "TalkKnotsLaw" (125 : Nat) ({ cls := "TalkKnots", name := "yard", desc := "()I" } : Jvm.MethodName) ∈ kw := km3 10 rfl rfl
theorem kw_3_11 : Jvm.Cond.instanceMethod ({ cls := "TalkKnots", name := "yard", desc := "()I" } : Jvm.MethodName) ∈ kw := km3 11 rfl rfl
theorem kw_3_12 : Jvm.Cond.selects "TalkKnots" ({ cls := "TalkKnots", name := "yard", desc := "()I" } : Jvm.MethodName) ({ cls := "TalkKnots", name := "yard", desc := "()I" } : Jvm.MethodName) ∈ kw := km3 12 rfl rfl
theorem kw_3_13 : Jvm.Cond.code ({ cls := "TalkKnots", name := "yard", desc := "()I" } : Jvm.MethodName) prog_1_method_29_code (2 : Nat) (Option.some Jvm.ClassFile.FieldType.int) ∈ kw := km3 13 rfl rfl
theorem kw_3_14 : Jvm.Cond.methodLink "TalkKnots" (204 : Nat) ({ cls := "TalkKnots$TextReader", name := "readText", desc := "()I" } : Jvm.MethodName) ∈ kw := km3 14 rfl rfl
theorem kw_3_15 : Jvm.Cond.instanceMethod ({ cls := "TalkKnots$TextReader", name := "readText", desc := "()I" } : Jvm.MethodName) ∈ kw := km3 15 rfl rfl
theorem kw_3_16 : Jvm.Cond.selects "TalkKnots$TextReader" ({ cls := "TalkKnots$TextReader", name := "readText", desc := "()I" } : Jvm.MethodName) ({ cls := "TalkKnots$TextReader", name := "readText", desc := "()I" } : Jvm.MethodName) ∈ kw := km3 16 rfl rfl
theorem kw_3_17 : Jvm.Cond.code ({ cls := "TalkKnots$TextReader", name := "readText", desc := "()I" } : Jvm.MethodName) prog_5_method_2_code (2 : Nat) (Option.some Jvm.ClassFile.FieldType.int) ∈ kw := km3 17 rfl rfl
theorem kw_3_18 : Jvm.Cond.methodLink "TalkKnots$TextReader" (35 : Nat) ({ cls := "TalkKnots$TextReader", name := "readToken", desc := "()V" } : Jvm.MethodName) ∈ kw := km3 18 rfl rfl
theorem kw_3_20 : Jvm.Cond.instanceMethod ({ cls := "TalkKnots$TextReader", name := "readToken", desc := "()V" } : Jvm.MethodName) ∈ kw := km3 20 rfl rfl
theorem kw_3_21 : Jvm.Cond.code ({ cls := "TalkKnots$TextReader", name := "readToken", desc := "()V" } : Jvm.MethodName) prog_5_method_13_code (2 : Nat) (Option.none : Option Jvm.ClassFile.FieldType) ∈ kw := km3 21 rfl rfl
theorem kw_3_22 : Jvm.Cond.methodLink "TalkKnots$TextReader" (140 : Nat) ({ cls := "TalkKnots$Tape", name := "byteAt", desc := "(I)I" } : Jvm.MethodName) ∈ kw := km3 22 rfl rfl
theorem kw_3_23 : Jvm.Cond.instanceMethod ({ cls := "TalkKnots$Tape", name := "byteAt", desc := "(I)I" } : Jvm.MethodName) ∈ kw := km3 23 rfl rfl
theorem kw_3_24 : Jvm.Cond.selects "TalkKnots$Tape" ({ cls := "TalkKnots$Tape", name := "byteAt", desc := "(I)I" } : Jvm.MethodName) ({ cls := "TalkKnots$Tape", name := "byteAt", desc := "(I)I" } : Jvm.MethodName) ∈ kw := km3 24 rfl rfl
theorem kw_3_25 : Jvm.Cond.code ({ cls := "TalkKnots$Tape", name := "byteAt", desc := "(I)I" } : Jvm.MethodName) prog_4_method_3_code (2 : Nat) (Option.some Jvm.ClassFile.FieldType.int) ∈ kw := km3 25 rfl rfl
theorem kw_3_26 : Jvm.Cond.methodLink "TalkKnots$TextReader" (152 : Nat) ({ cls := "TalkKnots$TextReader", name := "isLetter", desc := "(I)Z" } : Jvm.MethodName) ∈ kw := km3 26 rfl rfl
theorem kw_3_27 : Jvm.Cond.static ({ cls := "TalkKnots$TextReader", name := "isLetter", desc := "(I)Z" } : Jvm.MethodName) ∈ kw := km3 27 rfl rfl
theorem kw_3_28 : Jvm.Cond.code ({ cls := "TalkKnots$TextReader", name := "isLetter", desc := "(I)Z" } : Jvm.MethodName) prog_5_method_14_code (1 : Nat) (Option.some Jvm.ClassFile.FieldType.boolean) ∈ kw := km3 28 rfl rfl
theorem kw_3_29 : Jvm.Cond.methodLink "TalkKnots$TextReader" (155 : Nat) ({ cls := "TalkKnots$TextReader", name := "isDigit", desc := "(I)Z" } : Jvm.MethodName) ∈ kw := km3 29 rfl rfl
theorem kw_3_30 : Jvm.Cond.static ({ cls := "TalkKnots$TextReader", name := "isDigit", desc := "(I)Z" } : Jvm.MethodName) ∈ kw := km3 30 rfl rfl
theorem kw_3_31 : Jvm.Cond.code ({ cls := "TalkKnots$TextReader", name := "isDigit", desc := "(I)Z" } : Jvm.MethodName) prog_5_method_15_code (1 : Nat) (Option.some Jvm.ClassFile.FieldType.boolean) ∈ kw := km3 31 rfl rfl
theorem kw_3_32 : Jvm.Cond.methodLink "TalkKnots$TextReader" (158 : Nat) ({ cls := "java/lang/Math", name := "min", desc := "(II)I" } : Jvm.MethodName) ∈ kw := km3 32 rfl rfl
theorem kw_3_33 : Jvm.Cond.methodLink "TalkKnots$TextReader" (38 : Nat) ({ cls := "TalkKnots$TextReader", name := "readItem", desc := "()Z" } : Jvm.MethodName) ∈ kw := km3 33 rfl rfl
theorem kw_3_35 : Jvm.Cond.instanceMethod ({ cls := "TalkKnots$TextReader", name := "readItem", desc := "()Z" } : Jvm.MethodName) ∈ kw := km3 35 rfl rfl
theorem kw_3_36 : Jvm.Cond.code ({ cls := "TalkKnots$TextReader", name := "readItem", desc := "()Z" } : Jvm.MethodName) prog_5_method_3_code (1 : Nat) (Option.some Jvm.ClassFile.FieldType.boolean) ∈ kw := km3 36 rfl rfl
theorem kw_3_38 : Jvm.Cond.methodLink "TalkKnots$TextReader" (44 : Nat) ({ cls := "TalkKnots$TextReader", name := "takeWord", desc := "(Ljava/lang/String;)Z" } : Jvm.MethodName) ∈ kw := km3 38 rfl rfl
theorem kw_3_40 : Jvm.Cond.instanceMethod ({ cls := "TalkKnots$TextReader", name := "takeWord", desc := "(Ljava/lang/String;)Z" } : Jvm.MethodName) ∈ kw := km3 40 rfl rfl
theorem kw_3_41 : Jvm.Cond.code ({ cls := "TalkKnots$TextReader", name := "takeWord", desc := "(Ljava/lang/String;)Z" } : Jvm.MethodName) prog_5_method_10_code (2 : Nat) (Option.some Jvm.ClassFile.FieldType.boolean) ∈ kw := km3 41 rfl rfl
theorem kw_3_42 : Jvm.Cond.methodLink "TalkKnots$TextReader" (120 : Nat) ({ cls := "TalkKnots$TextReader", name := "isWord", desc := "(Ljava/lang/String;)Z" } : Jvm.MethodName) ∈ kw := km3 42 rfl rfl
theorem kw_3_44 : Jvm.Cond.instanceMethod ({ cls := "TalkKnots$TextReader", name := "isWord", desc := "(Ljava/lang/String;)Z" } : Jvm.MethodName) ∈ kw := km3 44 rfl rfl
theorem kw_3_45 : Jvm.Cond.code ({ cls := "TalkKnots$TextReader", name := "isWord", desc := "(Ljava/lang/String;)Z" } : Jvm.MethodName) prog_5_method_11_code (3 : Nat) (Option.some Jvm.ClassFile.FieldType.boolean) ∈ kw := km3 45 rfl rfl
theorem kw_3_46 : Jvm.Cond.methodLink "TalkKnots$TextReader" (135 : Nat) ({ cls := "java/lang/String", name := "length", desc := "()I" } : Jvm.MethodName) ∈ kw := km3 46 rfl rfl
theorem kw_3_47 : Jvm.Cond.instanceMethod ({ cls := "java/lang/String", name := "length", desc := "()I" } : Jvm.MethodName) ∈ kw := km3 47 rfl rfl
theorem kw_3_48 : Jvm.Cond.selects "java/lang/String" ({ cls := "java/lang/String", name := "length", desc := "()I" } : Jvm.MethodName) ({ cls := "java/lang/String", name := "length", desc := "()I" } : Jvm.MethodName) ∈ kw := km3 48 rfl rfl
theorem kw_3_49 : Jvm.Cond.code ({ cls := "java/lang/String", name := "length", desc := "()I" } : Jvm.MethodName) prog_11_method_54_code (1 : Nat) (Option.some Jvm.ClassFile.FieldType.int) ∈ kw := km3 49 rfl rfl
theorem kw_3_50 : Jvm.Cond.methodLink "java/lang/String" (335 : Nat) ({ cls := "java/lang/String", name := "coder", desc := "()B" } : Jvm.MethodName) ∈ kw := km3 50 rfl rfl
theorem kw_3_51 : Jvm.Cond.instanceMethod ({ cls := "java/lang/String", name := "coder", desc := "()B" } : Jvm.MethodName) ∈ kw := km3 51 rfl rfl
theorem kw_3_52 : Jvm.Cond.selects "java/lang/String" ({ cls := "java/lang/String", name := "coder", desc := "()B" } : Jvm.MethodName) ({ cls := "java/lang/String", name := "coder", desc := "()B" } : Jvm.MethodName) ∈ kw := km3 52 rfl rfl
theorem kw_3_53 : Jvm.Cond.code ({ cls := "java/lang/String", name := "coder", desc := "()B" } : Jvm.MethodName) prog_11_method_152_code (1 : Nat) (Option.some Jvm.ClassFile.FieldType.byte) ∈ kw := km3 53 rfl rfl
theorem kw_3_54 : Jvm.Cond.fieldLink "java/lang/String" (38 : Nat) "java/lang/String" "COMPACT_STRINGS" "Z" ∈ kw := km3 54 rfl rfl
theorem kw_3_56 : Jvm.Cond.methodLink "TalkKnots$TextReader" (146 : Nat) ({ cls := "java/lang/String", name := "charAt", desc := "(I)C" } : Jvm.MethodName) ∈ kw := km3 56 rfl rfl
theorem kw_3_57 : Jvm.Cond.instanceMethod ({ cls := "java/lang/String", name := "charAt", desc := "(I)C" } : Jvm.MethodName) ∈ kw := km3 57 rfl rfl
theorem kw_3_58 : Jvm.Cond.selects "java/lang/String" ({ cls := "java/lang/String", name := "charAt", desc := "(I)C" } : Jvm.MethodName) ({ cls := "java/lang/String", name := "charAt", desc := "(I)C" } : Jvm.MethodName) ∈ kw := km3 58 rfl rfl
theorem kw_3_59 : Jvm.Cond.code ({ cls := "java/lang/String", name := "charAt", desc := "(I)C" } : Jvm.MethodName) prog_11_method_56_code (2 : Nat) (Option.some Jvm.ClassFile.FieldType.char) ∈ kw := km3 59 rfl rfl
theorem kw_3_60 : Jvm.Cond.methodLink "java/lang/String" (492 : Nat) ({ cls := "java/lang/String", name := "isLatin1", desc := "()Z" } : Jvm.MethodName) ∈ kw := km3 60 rfl rfl
theorem kw_3_61 : Jvm.Cond.instanceMethod ({ cls := "java/lang/String", name := "isLatin1", desc := "()Z" } : Jvm.MethodName) ∈ kw := km3 61 rfl rfl
theorem kw_3_62 : Jvm.Cond.selects "java/lang/String" ({ cls := "java/lang/String", name := "isLatin1", desc := "()Z" } : Jvm.MethodName) ({ cls := "java/lang/String", name := "isLatin1", desc := "()Z" } : Jvm.MethodName) ∈ kw := km3 62 rfl rfl
theorem kw_3_63 : Jvm.Cond.code ({ cls := "java/lang/String", name := "isLatin1", desc := "()Z" } : Jvm.MethodName) prog_11_method_154_code (1 : Nat) (Option.some Jvm.ClassFile.FieldType.boolean) ∈ kw := km3 63 rfl rfl
theorem kw_3_64 : Jvm.Cond.methodLink "java/lang/String" (495 : Nat) ({ cls := "java/lang/StringLatin1", name := "charAt", desc := "([BI)C" } : Jvm.MethodName) ∈ kw := km3 64 rfl rfl
theorem kw_3_65 : Jvm.Cond.static ({ cls := "java/lang/StringLatin1", name := "charAt", desc := "([BI)C" } : Jvm.MethodName) ∈ kw := km3 65 rfl rfl
theorem kw_3_66 : Jvm.Cond.code ({ cls := "java/lang/StringLatin1", name := "charAt", desc := "([BI)C" } : Jvm.MethodName) prog_12_method_2_code (2 : Nat) (Option.some Jvm.ClassFile.FieldType.char) ∈ kw := km3 66 rfl rfl
theorem kw_3_67 : Jvm.Cond.methodLink "java/lang/StringLatin1" (9 : Nat) ({ cls := "java/lang/String", name := "checkIndex", desc := "(II)V" } : Jvm.MethodName) ∈ kw := km3 67 rfl rfl
theorem kw_3_68 : Jvm.Cond.static ({ cls := "java/lang/String", name := "checkIndex", desc := "(II)V" } : Jvm.MethodName) ∈ kw := km3 68 rfl rfl
theorem kw_3_69 : Jvm.Cond.code ({ cls := "java/lang/String", name := "checkIndex", desc := "(II)V" } : Jvm.MethodName) prog_11_method_155_code (2 : Nat) (Option.none : Option Jvm.ClassFile.FieldType) ∈ kw := km3 69 rfl rfl
theorem kw_3_70 : Jvm.Cond.fieldLink "java/lang/String" (1053 : Nat) "jdk/internal/util/Preconditions" "SIOOBE_FORMATTER" "Ljava/util/function/BiFunction;" ∈ kw := km3 70 rfl rfl
theorem kw_3_72 : Jvm.Cond.methodLink "java/lang/String" (1059 : Nat) ({ cls := "jdk/internal/util/Preconditions", name := "checkIndex", desc := "(IILjava/util/function/BiFunction;)I" } : Jvm.MethodName) ∈ kw := km3 72 rfl rfl
theorem kw_3_73 : Jvm.Cond.static ({ cls := "jdk/internal/util/Preconditions", name := "checkIndex", desc := "(IILjava/util/function/BiFunction;)I" } : Jvm.MethodName) ∈ kw := km3 73 rfl rfl
theorem kw_3_74 : Jvm.Cond.code ({ cls := "jdk/internal/util/Preconditions", name := "checkIndex", desc := "(IILjava/util/function/BiFunction;)I" } : Jvm.MethodName) prog_15_method_11_code (3 : Nat) (Option.some Jvm.ClassFile.FieldType.int) ∈ kw := km3 74 rfl rfl
theorem kw_3_75 : Jvm.Cond.methodLink "java/lang/String" (498 : Nat) ({ cls := "java/lang/StringUTF16", name := "charAt", desc := "([BI)C" } : Jvm.MethodName) ∈ kw := km3 75 rfl rfl
theorem kw_3_76 : Jvm.Cond.static ({ cls := "java/lang/StringUTF16", name := "charAt", desc := "([BI)C" } : Jvm.MethodName) ∈ kw := km3 76 rfl rfl
theorem kw_3_77 : Jvm.Cond.code ({ cls := "java/lang/StringUTF16", name := "charAt", desc := "([BI)C" } : Jvm.MethodName) prog_13_method_83_code (2 : Nat) (Option.some Jvm.ClassFile.FieldType.char) ∈ kw := km3 77 rfl rfl
theorem kw_3_78 : Jvm.Cond.methodLink "java/lang/StringUTF16" (67 : Nat) ({ cls := "java/lang/StringUTF16", name := "checkIndex", desc := "(I[B)V" } : Jvm.MethodName) ∈ kw := km3 78 rfl rfl
theorem kw_3_79 : Jvm.Cond.static ({ cls := "java/lang/StringUTF16", name := "checkIndex", desc := "(I[B)V" } : Jvm.MethodName) ∈ kw := km3 79 rfl rfl
theorem kw_3_80 : Jvm.Cond.code ({ cls := "java/lang/StringUTF16", name := "checkIndex", desc := "(I[B)V" } : Jvm.MethodName) prog_13_method_91_code (2 : Nat) (Option.none : Option Jvm.ClassFile.FieldType) ∈ kw := km3 80 rfl rfl
theorem kw_3_81 : Jvm.Cond.methodLink "java/lang/StringUTF16" (48 : Nat) ({ cls := "java/lang/StringUTF16", name := "length", desc := "([B)I" } : Jvm.MethodName) ∈ kw := km3 81 rfl rfl
theorem kw_3_82 : Jvm.Cond.static ({ cls := "java/lang/StringUTF16", name := "length", desc := "([B)I" } : Jvm.MethodName) ∈ kw := km3 82 rfl rfl
theorem kw_3_83 : Jvm.Cond.code ({ cls := "java/lang/StringUTF16", name := "length", desc := "([B)I" } : Jvm.MethodName) prog_13_method_6_code (1 : Nat) (Option.some Jvm.ClassFile.FieldType.int) ∈ kw := km3 83 rfl rfl
theorem kw_3_84 : Jvm.Cond.methodLink "java/lang/StringUTF16" (414 : Nat) ({ cls := "java/lang/String", name := "checkIndex", desc := "(II)V" } : Jvm.MethodName) ∈ kw := km3 84 rfl rfl
theorem kw_3_85 : Jvm.Cond.methodLink "java/lang/StringUTF16" (71 : Nat) ({ cls := "java/lang/StringUTF16", name := "getChar", desc := "([BI)C" } : Jvm.MethodName) ∈ kw := km3 85 rfl rfl
theorem kw_3_86 : Jvm.Cond.static ({ cls := "java/lang/StringUTF16", name := "getChar", desc := "([BI)C" } : Jvm.MethodName) ∈ kw := km3 86 rfl rfl
theorem kw_3_87 : Jvm.Cond.code ({ cls := "java/lang/StringUTF16", name := "getChar", desc := "([BI)C" } : Jvm.MethodName) prog_13_method_5_code (2 : Nat) (Option.some Jvm.ClassFile.FieldType.char) ∈ kw := km3 87 rfl rfl
theorem kw_3_88 : Jvm.Cond.fieldLink "java/lang/StringUTF16" (44 : Nat) "java/lang/StringUTF16" "$assertionsDisabled" "Z" ∈ kw := km3 88 rfl rfl
theorem kw_3_90 : Jvm.Cond.fieldLink "java/lang/StringUTF16" (59 : Nat) "java/lang/StringUTF16" "HI_BYTE_SHIFT" "I" ∈ kw := km3 90 rfl rfl
theorem kw_3_92 : Jvm.Cond.fieldLink "java/lang/StringUTF16" (63 : Nat) "java/lang/StringUTF16" "LO_BYTE_SHIFT" "I" ∈ kw := km3 92 rfl rfl
theorem kw_3_94 : Jvm.Cond.methodLink "TalkKnots$TextReader" (48 : Nat) ({ cls := "TalkKnots$TextReader", name := "readMast", desc := "()Z" } : Jvm.MethodName) ∈ kw := km3 94 rfl rfl
theorem kw_3_96 : Jvm.Cond.instanceMethod ({ cls := "TalkKnots$TextReader", name := "readMast", desc := "()Z" } : Jvm.MethodName) ∈ kw := km3 96 rfl rfl
theorem kw_3_97 : Jvm.Cond.code ({ cls := "TalkKnots$TextReader", name := "readMast", desc := "()Z" } : Jvm.MethodName) prog_5_method_4_code (2 : Nat) (Option.some Jvm.ClassFile.FieldType.boolean) ∈ kw := km3 97 rfl rfl
theorem kw_3_98 : Jvm.Cond.methodLink "TalkKnots$TextReader" (64 : Nat) ({ cls := "TalkKnots$TextReader", name := "takeNumber", desc := "(I)Z" } : Jvm.MethodName) ∈ kw := km3 98 rfl rfl
theorem kw_3_100 : Jvm.Cond.instanceMethod ({ cls := "TalkKnots$TextReader", name := "takeNumber", desc := "(I)Z" } : Jvm.MethodName) ∈ kw := km3 100 rfl rfl
theorem kw_3_101 : Jvm.Cond.code ({ cls := "TalkKnots$TextReader", name := "takeNumber", desc := "(I)Z" } : Jvm.MethodName) prog_5_method_12_code (2 : Nat) (Option.some Jvm.ClassFile.FieldType.boolean) ∈ kw := km3 101 rfl rfl
theorem kw_3_103 : Jvm.Cond.methodLink "TalkKnots$TextReader" (76 : Nat) ({ cls := "TalkKnots$Yard", name := "putUp", desc := "(IZ)V" } : Jvm.MethodName) ∈ kw := km3 103 rfl rfl
theorem kw_3_105 : Jvm.Cond.methodLink "TalkKnots$TextReader" (53 : Nat) ({ cls := "TalkKnots$TextReader", name := "readWind", desc := "()Z" } : Jvm.MethodName) ∈ kw := km3 105 rfl rfl
theorem kw_3_107 : Jvm.Cond.instanceMethod ({ cls := "TalkKnots$TextReader", name := "readWind", desc := "()Z" } : Jvm.MethodName) ∈ kw := km3 107 rfl rfl
theorem kw_3_108 : Jvm.Cond.code ({ cls := "TalkKnots$TextReader", name := "readWind", desc := "()Z" } : Jvm.MethodName) prog_5_method_5_code (2 : Nat) (Option.some Jvm.ClassFile.FieldType.boolean) ∈ kw := km3 108 rfl rfl
theorem kw_3_110 : Jvm.Cond.methodLink "TalkKnots$TextReader" (58 : Nat) ({ cls := "TalkKnots$TextReader", name := "readTease", desc := "()Z" } : Jvm.MethodName) ∈ kw := km3 110 rfl rfl
theorem kw_3_112 : Jvm.Cond.instanceMethod ({ cls := "TalkKnots$TextReader", name := "readTease", desc := "()Z" } : Jvm.MethodName) ∈ kw := km3 112 rfl rfl
theorem kw_3_113 : Jvm.Cond.code ({ cls := "TalkKnots$TextReader", name := "readTease", desc := "()Z" } : Jvm.MethodName) prog_5_method_6_code (1 : Nat) (Option.some Jvm.ClassFile.FieldType.boolean) ∈ kw := km3 113 rfl rfl
theorem kw_3_114 : Jvm.Cond.methodLink "TalkKnots$TextReader" (90 : Nat) ({ cls := "TalkKnots$Knot", name := "beTeased", desc := "()V" } : Jvm.MethodName) ∈ kw := km3 114 rfl rfl
theorem kw_3_115 : Jvm.Cond.methodLink "TalkKnots$TextReader" (61 : Nat) ({ cls := "TalkKnots$TextReader", name := "readKnot", desc := "()Z" } : Jvm.MethodName) ∈ kw := km3 115 rfl rfl
theorem kw_3_117 : Jvm.Cond.instanceMethod ({ cls := "TalkKnots$TextReader", name := "readKnot", desc := "()Z" } : Jvm.MethodName) ∈ kw := km3 117 rfl rfl
theorem kw_3_118 : Jvm.Cond.code ({ cls := "TalkKnots$TextReader", name := "readKnot", desc := "()Z" } : Jvm.MethodName) prog_5_method_7_code (3 : Nat) (Option.some Jvm.ClassFile.FieldType.boolean) ∈ kw := km3 118 rfl rfl
theorem kw_3_119 : Jvm.Cond.methodLink "TalkKnots$TextReader" (95 : Nat) ({ cls := "TalkKnots$TextReader", name := "kindTold", desc := "()I" } : Jvm.MethodName) ∈ kw := km3 119 rfl rfl
theorem kw_3_121 : Jvm.Cond.instanceMethod ({ cls := "TalkKnots$TextReader", name := "kindTold", desc := "()I" } : Jvm.MethodName) ∈ kw := km3 121 rfl rfl
theorem kw_3_122 : Jvm.Cond.code ({ cls := "TalkKnots$TextReader", name := "kindTold", desc := "()I" } : Jvm.MethodName) prog_5_method_8_code (2 : Nat) (Option.some Jvm.ClassFile.FieldType.int) ∈ kw := km3 122 rfl rfl
theorem kw_3_123 : Jvm.Cond.methodLink "TalkKnots$TextReader" (116 : Nat) ({ cls := "TalkKnots$TextReader", name := "nameOf", desc := "(I)Ljava/lang/String;" } : Jvm.MethodName) ∈ kw := km3 123 rfl rfl
theorem kw_3_124 : Jvm.Cond.static ({ cls := "TalkKnots$TextReader", name := "nameOf", desc := "(I)Ljava/lang/String;" } : Jvm.MethodName) ∈ kw := km3 124 rfl rfl
theorem kw_3_125 : Jvm.Cond.code ({ cls := "TalkKnots$TextReader", name := "nameOf", desc := "(I)Ljava/lang/String;" } : Jvm.MethodName) prog_5_method_9_code (1 : Nat) (Option.some (Jvm.ClassFile.FieldType.object "java/lang/String")) ∈ kw := km3 125 rfl rfl
theorem kw_3_132 : Jvm.Cond.methodLink "TalkKnots$TextReader" (99 : Nat) ({ cls := "TalkKnots$Yard", name := "isFull", desc := "()Z" } : Jvm.MethodName) ∈ kw := km3 132 rfl rfl
theorem kw_3_133 : Jvm.Cond.methodLink "TalkKnots$TextReader" (102 : Nat) ({ cls := "TalkKnots$Yard", name := "addKnot", desc := "(II)I" } : Jvm.MethodName) ∈ kw := km3 133 rfl rfl
theorem kw_3_136 : Jvm.Cond.arrayClass Jvm.ClassFile.FieldType.byte ∈ kw := km3 136 rfl rfl
theorem kw_3_137 : Jvm.Cond.methodLink "TalkKnotsLaw" (129 : Nat) ({ cls := "TalkKnots", name := "sheet", desc := "(III)I" } : Jvm.MethodName) ∈ kw := km3 137 rfl rfl
theorem kw_3_138 : Jvm.Cond.instanceMethod ({ cls := "TalkKnots", name := "sheet", desc := "(III)I" } : Jvm.MethodName) ∈ kw := km3 138 rfl rfl
theorem kw_3_139 : Jvm.Cond.selects "TalkKnots" ({ cls := "TalkKnots", name := "sheet", desc := "(III)I" } : Jvm.MethodName) ({ cls := "TalkKnots", name := "sheet", desc := "(III)I" } : Jvm.MethodName) ∈ kw := km3 139 rfl rfl
theorem kw_3_140 : Jvm.Cond.code ({ cls := "TalkKnots", name := "sheet", desc := "(III)I" } : Jvm.MethodName) prog_1_method_30_code (5 : Nat) (Option.some Jvm.ClassFile.FieldType.int) ∈ kw := km3 140 rfl rfl
theorem kw_3_141 : Jvm.Cond.methodLink "TalkKnots" (207 : Nat) ({ cls := "TalkKnots", name := "isSheet", desc := "(I)Z" } : Jvm.MethodName) ∈ kw := km3 141 rfl rfl
theorem kw_3_142 : Jvm.Cond.static ({ cls := "TalkKnots", name := "isSheet", desc := "(I)Z" } : Jvm.MethodName) ∈ kw := km3 142 rfl rfl
theorem kw_3_143 : Jvm.Cond.code ({ cls := "TalkKnots", name := "isSheet", desc := "(I)Z" } : Jvm.MethodName) prog_1_method_48_code (1 : Nat) (Option.some Jvm.ClassFile.FieldType.boolean) ∈ kw := km3 143 rfl rfl
theorem kw_3_144 : Jvm.Cond.methodLink "TalkKnots" (210 : Nat) ({ cls := "TalkKnots", name := "isSheetBits", desc := "(I)Z" } : Jvm.MethodName) ∈ kw := km3 144 rfl rfl
theorem kw_3_145 : Jvm.Cond.static ({ cls := "TalkKnots", name := "isSheetBits", desc := "(I)Z" } : Jvm.MethodName) ∈ kw := km3 145 rfl rfl
theorem kw_3_146 : Jvm.Cond.code ({ cls := "TalkKnots", name := "isSheetBits", desc := "(I)Z" } : Jvm.MethodName) prog_1_method_49_code (1 : Nat) (Option.some Jvm.ClassFile.FieldType.boolean) ∈ kw := km3 146 rfl rfl
theorem kw_3_147 : Jvm.Cond.constant "TalkKnots" (213 : Nat) (-1000000007 : Int32) ∈ kw := km3 147 rfl rfl
theorem kw_3_148 : Jvm.Cond.methodLink "TalkKnots" (214 : Nat) ({ cls := "TalkKnots$Sheet", name := "begin", desc := "(II)V" } : Jvm.MethodName) ∈ kw := km3 148 rfl rfl
theorem kw_3_149 : Jvm.Cond.instanceMethod ({ cls := "TalkKnots$Sheet", name := "begin", desc := "(II)V" } : Jvm.MethodName) ∈ kw := km3 149 rfl rfl
theorem kw_3_150 : Jvm.Cond.selects "TalkKnots$Sheet" ({ cls := "TalkKnots$Sheet", name := "begin", desc := "(II)V" } : Jvm.MethodName) ({ cls := "TalkKnots$Sheet", name := "begin", desc := "(II)V" } : Jvm.MethodName) ∈ kw := km3 150 rfl rfl
theorem kw_3_151 : Jvm.Cond.code ({ cls := "TalkKnots$Sheet", name := "begin", desc := "(II)V" } : Jvm.MethodName) prog_3_method_2_code (4 : Nat) (Option.none : Option Jvm.ClassFile.FieldType) ∈ kw := km3 151 rfl rfl
theorem kw_3_152 : Jvm.Cond.methodLink "TalkKnotsLaw" (135 : Nat) ({ cls := "TalkKnots", name := "write", desc := "(IIJ)J" } : Jvm.MethodName) ∈ kw := km3 152 rfl rfl
theorem kw_3_153 : Jvm.Cond.instanceMethod ({ cls := "TalkKnots", name := "write", desc := "(IIJ)J" } : Jvm.MethodName) ∈ kw := km3 153 rfl rfl
theorem kw_3_154 : Jvm.Cond.selects "TalkKnots" ({ cls := "TalkKnots", name := "write", desc := "(IIJ)J" } : Jvm.MethodName) ({ cls := "TalkKnots", name := "write", desc := "(IIJ)J" } : Jvm.MethodName) ∈ kw := km3 154 rfl rfl
theorem kw_3_155 : Jvm.Cond.code ({ cls := "TalkKnots", name := "write", desc := "(IIJ)J" } : Jvm.MethodName) prog_1_method_31_code (8 : Nat) (Option.some Jvm.ClassFile.FieldType.long) ∈ kw := km3 155 rfl rfl
theorem kw_3_156 : Jvm.Cond.methodLink "TalkKnots" (218 : Nat) ({ cls := "TalkKnots$Sheet", name := "isMissing", desc := "()Z" } : Jvm.MethodName) ∈ kw := km3 156 rfl rfl
theorem kw_3_157 : Jvm.Cond.instanceMethod ({ cls := "TalkKnots$Sheet", name := "isMissing", desc := "()Z" } : Jvm.MethodName) ∈ kw := km3 157 rfl rfl
theorem kw_3_158 : Jvm.Cond.selects "TalkKnots$Sheet" ({ cls := "TalkKnots$Sheet", name := "isMissing", desc := "()Z" } : Jvm.MethodName) ({ cls := "TalkKnots$Sheet", name := "isMissing", desc := "()Z" } : Jvm.MethodName) ∈ kw := km3 158 rfl rfl
theorem kw_3_159 : Jvm.Cond.code ({ cls := "TalkKnots$Sheet", name := "isMissing", desc := "()Z" } : Jvm.MethodName) prog_3_method_3_code (1 : Nat) (Option.some Jvm.ClassFile.FieldType.boolean) ∈ kw := km3 159 rfl rfl
theorem kw_3_160 : Jvm.Cond.constant "TalkKnots" (221 : Nat) (-1000000006 : Int32) ∈ kw := km3 160 rfl rfl
theorem kw_3_161 : Jvm.Cond.methodLink "TalkKnots" (229 : Nat) ({ cls := "TalkKnots$Sheet", name := "put", desc := "(IJ)V" } : Jvm.MethodName) ∈ kw := km3 161 rfl rfl
theorem kw_3_162 : Jvm.Cond.instanceMethod ({ cls := "TalkKnots$Sheet", name := "put", desc := "(IJ)V" } : Jvm.MethodName) ∈ kw := km3 162 rfl rfl
theorem kw_3_163 : Jvm.Cond.selects "TalkKnots$Sheet" ({ cls := "TalkKnots$Sheet", name := "put", desc := "(IJ)V" } : Jvm.MethodName) ({ cls := "TalkKnots$Sheet", name := "put", desc := "(IJ)V" } : Jvm.MethodName) ∈ kw := km3 163 rfl rfl
theorem kw_3_164 : Jvm.Cond.code ({ cls := "TalkKnots$Sheet", name := "put", desc := "(IJ)V" } : Jvm.MethodName) prog_3_method_6_code (4 : Nat) (Option.none : Option Jvm.ClassFile.FieldType) ∈ kw := km3 164 rfl rfl
theorem kw_3_165 : Jvm.Cond.methodLink "TalkKnotsLaw" (140 : Nat) ({ cls := "TalkKnots", name := "copy", desc := "(IIIII)I" } : Jvm.MethodName) ∈ kw := km3 165 rfl rfl
theorem kw_3_166 : Jvm.Cond.instanceMethod ({ cls := "TalkKnots", name := "copy", desc := "(IIIII)I" } : Jvm.MethodName) ∈ kw := km3 166 rfl rfl
theorem kw_3_167 : Jvm.Cond.selects "TalkKnots" ({ cls := "TalkKnots", name := "copy", desc := "(IIIII)I" } : Jvm.MethodName) ({ cls := "TalkKnots", name := "copy", desc := "(IIIII)I" } : Jvm.MethodName) ∈ kw := km3 167 rfl rfl
theorem kw_3_168 : Jvm.Cond.code ({ cls := "TalkKnots", name := "copy", desc := "(IIIII)I" } : Jvm.MethodName) prog_1_method_32_code (8 : Nat) (Option.some Jvm.ClassFile.FieldType.int) ∈ kw := km3 168 rfl rfl
theorem kw_3_169 : Jvm.Cond.methodLink "TalkKnots" (236 : Nat) ({ cls := "TalkKnots$Sheet", name := "has", desc := "(II)Z" } : Jvm.MethodName) ∈ kw := km3 169 rfl rfl
theorem kw_3_170 : Jvm.Cond.instanceMethod ({ cls := "TalkKnots$Sheet", name := "has", desc := "(II)Z" } : Jvm.MethodName) ∈ kw := km3 170 rfl rfl
theorem kw_3_171 : Jvm.Cond.selects "TalkKnots$Sheet" ({ cls := "TalkKnots$Sheet", name := "has", desc := "(II)Z" } : Jvm.MethodName) ({ cls := "TalkKnots$Sheet", name := "has", desc := "(II)Z" } : Jvm.MethodName) ∈ kw := km3 171 rfl rfl
theorem kw_3_172 : Jvm.Cond.code ({ cls := "TalkKnots$Sheet", name := "has", desc := "(II)Z" } : Jvm.MethodName) prog_3_method_4_code (3 : Nat) (Option.some Jvm.ClassFile.FieldType.boolean) ∈ kw := km3 172 rfl rfl
theorem kw_3_173 : Jvm.Cond.methodLink "TalkKnots" (239 : Nat) ({ cls := "java/lang/System", name := "arraycopy", desc := "(Ljava/lang/Object;ILjava/lang/Object;II)V" } : Jvm.MethodName) ∈ kw := km3 173 rfl rfl
theorem kw_3_174 : Jvm.Cond.methodLink "TalkKnotsLaw" (145 : Nat) ({ cls := "TalkKnots", name := "lays", desc := "(I)I" } : Jvm.MethodName) ∈ kw := km3 174 rfl rfl
theorem kw_3_175 : Jvm.Cond.instanceMethod ({ cls := "TalkKnots", name := "lays", desc := "(I)I" } : Jvm.MethodName) ∈ kw := km3 175 rfl rfl
theorem kw_3_176 : Jvm.Cond.selects "TalkKnots" ({ cls := "TalkKnots", name := "lays", desc := "(I)I" } : Jvm.MethodName) ({ cls := "TalkKnots", name := "lays", desc := "(I)I" } : Jvm.MethodName) ∈ kw := km3 176 rfl rfl
theorem kw_3_177 : Jvm.Cond.code ({ cls := "TalkKnots", name := "lays", desc := "(I)I" } : Jvm.MethodName) prog_1_method_33_code (7 : Nat) (Option.some Jvm.ClassFile.FieldType.int) ∈ kw := km3 177 rfl rfl
theorem kw_3_178 : Jvm.Cond.constantLong "TalkKnots" (245 : Nat) (99 : Int64) ∈ kw := km3 178 rfl rfl
theorem kw_3_179 : Jvm.Cond.methodLink "TalkKnotsLaw" (149 : Nat) ({ cls := "TalkKnots", name := "book", desc := "(II)I" } : Jvm.MethodName) ∈ kw := km3 179 rfl rfl
theorem kw_3_180 : Jvm.Cond.instanceMethod ({ cls := "TalkKnots", name := "book", desc := "(II)I" } : Jvm.MethodName) ∈ kw := km3 180 rfl rfl
theorem kw_3_181 : Jvm.Cond.selects "TalkKnots" ({ cls := "TalkKnots", name := "book", desc := "(II)I" } : Jvm.MethodName) ({ cls := "TalkKnots", name := "book", desc := "(II)I" } : Jvm.MethodName) ∈ kw := km3 181 rfl rfl
theorem kw_3_182 : Jvm.Cond.code ({ cls := "TalkKnots", name := "book", desc := "(II)I" } : Jvm.MethodName) prog_1_method_34_code (5 : Nat) (Option.some Jvm.ClassFile.FieldType.int) ∈ kw := km3 182 rfl rfl
theorem kw_3_183 : Jvm.Cond.methodLink "TalkKnots" (247 : Nat) ({ cls := "TalkKnots$Yard", name := "passHour", desc := "()V" } : Jvm.MethodName) ∈ kw := km3 183 rfl rfl
theorem kw_3_184 : Jvm.Cond.methodLink "TalkKnotsLaw" (153 : Nat) ({ cls := "TalkKnots", name := "read", desc := "(II)I" } : Jvm.MethodName) ∈ kw := km3 184 rfl rfl
theorem kw_3_185 : Jvm.Cond.instanceMethod ({ cls := "TalkKnots", name := "read", desc := "(II)I" } : Jvm.MethodName) ∈ kw := km3 185 rfl rfl
theorem kw_3_186 : Jvm.Cond.selects "TalkKnots" ({ cls := "TalkKnots", name := "read", desc := "(II)I" } : Jvm.MethodName) ({ cls := "TalkKnots", name := "read", desc := "(II)I" } : Jvm.MethodName) ∈ kw := km3 186 rfl rfl
theorem kw_3_187 : Jvm.Cond.code ({ cls := "TalkKnots", name := "read", desc := "(II)I" } : Jvm.MethodName) prog_1_method_35_code (7 : Nat) (Option.some Jvm.ClassFile.FieldType.int) ∈ kw := km3 187 rfl rfl
theorem kw_3_188 : Jvm.Cond.methodLink "TalkKnots" (250 : Nat) ({ cls := "TalkKnots$Sheet", name := "mayBeginWith", desc := "(I)Z" } : Jvm.MethodName) ∈ kw := km3 188 rfl rfl
theorem kw_3_189 : Jvm.Cond.instanceMethod ({ cls := "TalkKnots$Sheet", name := "mayBeginWith", desc := "(I)Z" } : Jvm.MethodName) ∈ kw := km3 189 rfl rfl
theorem kw_3_190 : Jvm.Cond.selects "TalkKnots$Sheet" ({ cls := "TalkKnots$Sheet", name := "mayBeginWith", desc := "(I)Z" } : Jvm.MethodName) ({ cls := "TalkKnots$Sheet", name := "mayBeginWith", desc := "(I)Z" } : Jvm.MethodName) ∈ kw := km3 190 rfl rfl
theorem kw_3_191 : Jvm.Cond.code ({ cls := "TalkKnots$Sheet", name := "mayBeginWith", desc := "(I)Z" } : Jvm.MethodName) prog_3_method_5_code (2 : Nat) (Option.some Jvm.ClassFile.FieldType.boolean) ∈ kw := km3 191 rfl rfl
theorem kw_3_192 : Jvm.Cond.methodLink "TalkKnots" (253 : Nat) ({ cls := "TalkKnots", name := "goesAsTold", desc := "(LTalkKnots$Sheet;III)Z" } : Jvm.MethodName) ∈ kw := km3 192 rfl rfl
theorem kw_3_194 : Jvm.Cond.instanceMethod ({ cls := "TalkKnots", name := "goesAsTold", desc := "(LTalkKnots$Sheet;III)Z" } : Jvm.MethodName) ∈ kw := km3 194 rfl rfl
theorem kw_3_195 : Jvm.Cond.code ({ cls := "TalkKnots", name := "goesAsTold", desc := "(LTalkKnots$Sheet;III)Z" } : Jvm.MethodName) prog_1_method_44_code (7 : Nat) (Option.some Jvm.ClassFile.FieldType.boolean) ∈ kw := km3 195 rfl rfl
theorem kw_3_196 : Jvm.Cond.methodLink "TalkKnotsLaw" (157 : Nat) ({ cls := "TalkKnots", name := "image", desc := "()I" } : Jvm.MethodName) ∈ kw := km3 196 rfl rfl
theorem kw_3_197 : Jvm.Cond.instanceMethod ({ cls := "TalkKnots", name := "image", desc := "()I" } : Jvm.MethodName) ∈ kw := km3 197 rfl rfl
theorem kw_3_198 : Jvm.Cond.selects "TalkKnots" ({ cls := "TalkKnots", name := "image", desc := "()I" } : Jvm.MethodName) ({ cls := "TalkKnots", name := "image", desc := "()I" } : Jvm.MethodName) ∈ kw := km3 198 rfl rfl
theorem kw_3_199 : Jvm.Cond.code ({ cls := "TalkKnots", name := "image", desc := "()I" } : Jvm.MethodName) prog_1_method_36_code (1 : Nat) (Option.some Jvm.ClassFile.FieldType.int) ∈ kw := km3 199 rfl rfl
theorem kw_3_200 : Jvm.Cond.methodLink "TalkKnotsLaw" (161 : Nat) ({ cls := "TalkKnots", name := "undo", desc := "()I" } : Jvm.MethodName) ∈ kw := km3 200 rfl rfl
theorem kw_3_201 : Jvm.Cond.instanceMethod ({ cls := "TalkKnots", name := "undo", desc := "()I" } : Jvm.MethodName) ∈ kw := km3 201 rfl rfl
theorem kw_3_202 : Jvm.Cond.selects "TalkKnots" ({ cls := "TalkKnots", name := "undo", desc := "()I" } : Jvm.MethodName) ({ cls := "TalkKnots", name := "undo", desc := "()I" } : Jvm.MethodName) ∈ kw := km3 202 rfl rfl
theorem kw_3_203 : Jvm.Cond.code ({ cls := "TalkKnots", name := "undo", desc := "()I" } : Jvm.MethodName) prog_1_method_37_code (1 : Nat) (Option.some Jvm.ClassFile.FieldType.int) ∈ kw := km3 203 rfl rfl
theorem kw_3_204 : Jvm.Cond.methodLink "TalkKnotsLaw" (165 : Nat) ({ cls := "TalkKnots", name := "tear", desc := "()I" } : Jvm.MethodName) ∈ kw := km3 204 rfl rfl
theorem kw_3_205 : Jvm.Cond.instanceMethod ({ cls := "TalkKnots", name := "tear", desc := "()I" } : Jvm.MethodName) ∈ kw := km3 205 rfl rfl
theorem kw_3_206 : Jvm.Cond.selects "TalkKnots" ({ cls := "TalkKnots", name := "tear", desc := "()I" } : Jvm.MethodName) ({ cls := "TalkKnots", name := "tear", desc := "()I" } : Jvm.MethodName) ∈ kw := km3 206 rfl rfl
theorem kw_3_207 : Jvm.Cond.code ({ cls := "TalkKnots", name := "tear", desc := "()I" } : Jvm.MethodName) prog_1_method_38_code (2 : Nat) (Option.some Jvm.ClassFile.FieldType.int) ∈ kw := km3 207 rfl rfl
theorem kw_3_208 : Jvm.Cond.methodLink "TalkKnotsLaw" (169 : Nat) ({ cls := "TalkKnots", name := "count", desc := "(I)I" } : Jvm.MethodName) ∈ kw := km3 208 rfl rfl
theorem kw_3_209 : Jvm.Cond.instanceMethod ({ cls := "TalkKnots", name := "count", desc := "(I)I" } : Jvm.MethodName) ∈ kw := km3 209 rfl rfl
theorem kw_3_210 : Jvm.Cond.selects "TalkKnots" ({ cls := "TalkKnots", name := "count", desc := "(I)I" } : Jvm.MethodName) ({ cls := "TalkKnots", name := "count", desc := "(I)I" } : Jvm.MethodName) ∈ kw := km3 210 rfl rfl
theorem kw_3_211 : Jvm.Cond.code ({ cls := "TalkKnots", name := "count", desc := "(I)I" } : Jvm.MethodName) prog_1_method_39_code (2 : Nat) (Option.some Jvm.ClassFile.FieldType.int) ∈ kw := km3 211 rfl rfl
theorem kw_3_212 : Jvm.Cond.methodLink "TalkKnots" (257 : Nat) ({ cls := "TalkKnots$Yard", name := "allWeights", desc := "()I" } : Jvm.MethodName) ∈ kw := km3 212 rfl rfl
theorem kw_3_213 : Jvm.Cond.instanceMethod ({ cls := "TalkKnots$Yard", name := "allWeights", desc := "()I" } : Jvm.MethodName) ∈ kw := km3 213 rfl rfl
theorem kw_3_214 : Jvm.Cond.selects "TalkKnots$Yard" ({ cls := "TalkKnots$Yard", name := "allWeights", desc := "()I" } : Jvm.MethodName) ({ cls := "TalkKnots$Yard", name := "allWeights", desc := "()I" } : Jvm.MethodName) ∈ kw := km3 214 rfl rfl
theorem kw_3_215 : Jvm.Cond.code ({ cls := "TalkKnots$Yard", name := "allWeights", desc := "()I" } : Jvm.MethodName) prog_6_method_13_code (3 : Nat) (Option.some Jvm.ClassFile.FieldType.int) ∈ kw := km3 215 rfl rfl
theorem kw_3_216 : Jvm.Cond.methodLink "TalkKnots" (260 : Nat) ({ cls := "TalkKnots$Yard", name := "allAges", desc := "()I" } : Jvm.MethodName) ∈ kw := km3 216 rfl rfl
theorem kw_3_217 : Jvm.Cond.instanceMethod ({ cls := "TalkKnots$Yard", name := "allAges", desc := "()I" } : Jvm.MethodName) ∈ kw := km3 217 rfl rfl
theorem kw_3_218 : Jvm.Cond.selects "TalkKnots$Yard" ({ cls := "TalkKnots$Yard", name := "allAges", desc := "()I" } : Jvm.MethodName) ({ cls := "TalkKnots$Yard", name := "allAges", desc := "()I" } : Jvm.MethodName) ∈ kw := km3 218 rfl rfl
theorem kw_3_219 : Jvm.Cond.code ({ cls := "TalkKnots$Yard", name := "allAges", desc := "()I" } : Jvm.MethodName) prog_6_method_12_code (3 : Nat) (Option.some Jvm.ClassFile.FieldType.int) ∈ kw := km3 219 rfl rfl
theorem kw_3_220 : Jvm.Cond.methodLink "TalkKnotsLaw" (173 : Nat) ({ cls := "TalkKnots", name := "status", desc := "(I)I" } : Jvm.MethodName) ∈ kw := km3 220 rfl rfl
theorem kw_3_221 : Jvm.Cond.instanceMethod ({ cls := "TalkKnots", name := "status", desc := "(I)I" } : Jvm.MethodName) ∈ kw := km3 221 rfl rfl
theorem kw_3_222 : Jvm.Cond.selects "TalkKnots" ({ cls := "TalkKnots", name := "status", desc := "(I)I" } : Jvm.MethodName) ({ cls := "TalkKnots", name := "status", desc := "(I)I" } : Jvm.MethodName) ∈ kw := km3 222 rfl rfl
theorem kw_3_223 : Jvm.Cond.code ({ cls := "TalkKnots", name := "status", desc := "(I)I" } : Jvm.MethodName) prog_1_method_40_code (2 : Nat) (Option.some Jvm.ClassFile.FieldType.int) ∈ kw := km3 223 rfl rfl
theorem kw_3_224 : Jvm.Cond.methodLink "TalkKnots" (263 : Nat) ({ cls := "TalkKnots", name := "allTold", desc := "()I" } : Jvm.MethodName) ∈ kw := km3 224 rfl rfl
theorem kw_3_226 : Jvm.Cond.instanceMethod ({ cls := "TalkKnots", name := "allTold", desc := "()I" } : Jvm.MethodName) ∈ kw := km3 226 rfl rfl
theorem kw_3_227 : Jvm.Cond.code ({ cls := "TalkKnots", name := "allTold", desc := "()I" } : Jvm.MethodName) prog_1_method_42_code (3 : Nat) (Option.some Jvm.ClassFile.FieldType.int) ∈ kw := km3 227 rfl rfl
theorem kw_3_228 : Jvm.Cond.classLink "TalkKnotsLaw" (10 : Nat) "TalkKnotsModel" ∈ kw := km3 228 rfl rfl
theorem kw_3_229 : Jvm.Cond.instantiable "TalkKnotsModel" (19 : Nat) ∈ kw := km3 229 rfl rfl
theorem kw_3_230 : Jvm.Cond.methodLink "TalkKnotsLaw" (12 : Nat) ({ cls := "TalkKnotsModel", name := "<init>", desc := "()V" } : Jvm.MethodName) ∈ kw := km3 230 rfl rfl
theorem kw_3_231 : Jvm.Cond.instanceMethod ({ cls := "TalkKnotsModel", name := "<init>", desc := "()V" } : Jvm.MethodName) ∈ kw := km3 231 rfl rfl
theorem kw_3_232 : Jvm.Cond.code ({ cls := "TalkKnotsModel", name := "<init>", desc := "()V" } : Jvm.MethodName) prog_8_method_1_code (2 : Nat) (Option.none : Option Jvm.ClassFile.FieldType) ∈ kw := km3 232 rfl rfl
theorem kw_3_233 : Jvm.Cond.methodLink "TalkKnotsModel" (1 : Nat) ({ cls := "java/lang/Object", name := "<init>", desc := "()V" } : Jvm.MethodName) ∈ kw := km3 233 rfl rfl
theorem kw_3_234 : Jvm.Cond.methodLink "TalkKnotsModel" (44 : Nat) ({ cls := "TalkKnotsModel", name := "puts1", desc := "(III)V" } : Jvm.MethodName) ∈ kw := km3 234 rfl rfl
theorem kw_3_236 : Jvm.Cond.instanceMethod ({ cls := "TalkKnotsModel", name := "puts1", desc := "(III)V" } : Jvm.MethodName) ∈ kw := km3 236 rfl rfl
theorem kw_3_237 : Jvm.Cond.code ({ cls := "TalkKnotsModel", name := "puts1", desc := "(III)V" } : Jvm.MethodName) prog_8_method_8_code (4 : Nat) (Option.none : Option Jvm.ClassFile.FieldType) ∈ kw := km3 237 rfl rfl
theorem kw_3_238 : Jvm.Cond.fieldLink "TalkKnotsModel" (7 : Nat) "TalkKnotsModel" "row" "[I" ∈ kw := km3 238 rfl rfl
theorem kw_3_239 : Jvm.Cond.fieldLink "TalkKnotsModel" (13 : Nat) "TalkKnotsModel" "found" "[I" ∈ kw := km3 239 rfl rfl
theorem kw_4_0 : Jvm.Cond.fieldLink "TalkKnotsModel" (16 : Nat) "TalkKnotsModel" "tried" "[I" ∈ kw := km4 0 rfl rfl
theorem kw_4_1 : Jvm.Cond.fieldLink "TalkKnotsModel" (19 : Nat) "TalkKnotsModel" "before1" "[I" ∈ kw := km4 1 rfl rfl
theorem kw_4_2 : Jvm.Cond.fieldLink "TalkKnotsModel" (22 : Nat) "TalkKnotsModel" "tape" "[I" ∈ kw := km4 2 rfl rfl
theorem kw_4_3 : Jvm.Cond.fieldLink "TalkKnotsModel" (158 : Nat) "TalkKnotsModel" "tapeMany" "I" ∈ kw := km4 3 rfl rfl
theorem kw_4_4 : Jvm.Cond.fieldLink "TalkKnotsModel" (177 : Nat) "TalkKnotsModel" "sort" "I" ∈ kw := km4 4 rfl rfl
theorem kw_4_5 : Jvm.Cond.fieldLink "TalkKnotsModel" (165 : Nat) "TalkKnotsModel" "begins" "I" ∈ kw := km4 5 rfl rfl
theorem kw_4_6 : Jvm.Cond.fieldLink "TalkKnotsModel" (162 : Nat) "TalkKnotsModel" "tokenEnds" "I" ∈ kw := km4 6 rfl rfl
theorem kw_4_7 : Jvm.Cond.fieldLink "TalkKnotsModel" (180 : Nat) "TalkKnotsModel" "word" "J" ∈ kw := km4 7 rfl rfl
theorem kw_4_8 : Jvm.Cond.fieldLink "TalkKnotsModel" (184 : Nat) "TalkKnotsModel" "value" "I" ∈ kw := km4 8 rfl rfl
theorem kw_4_9 : Jvm.Cond.fieldLink "TalkKnotsModel" (209 : Nat) "TalkKnotsModel" "good" "Z" ∈ kw := km4 9 rfl rfl
theorem kw_4_10 : Jvm.Cond.fieldLink "TalkKnotsModel" (25 : Nat) "TalkKnotsModel" "bitsOf" "[I" ∈ kw := km4 10 rfl rfl
theorem kw_4_11 : Jvm.Cond.fieldLink "TalkKnotsModel" (28 : Nat) "TalkKnotsModel" "sizeOf" "[I" ∈ kw := km4 11 rfl rfl
theorem kw_4_12 : Jvm.Cond.fieldLink "TalkKnotsModel" (31 : Nat) "TalkKnotsModel" "sheets" "[J" ∈ kw := km4 12 rfl rfl
theorem kw_4_13 : Jvm.Cond.fieldLink "TalkKnotsModel" (35 : Nat) "TalkKnotsModel" "lent" "[J" ∈ kw := km4 13 rfl rfl
theorem kw_4_14 : Jvm.Cond.fieldLink "TalkKnotsModel" (38 : Nat) "TalkKnotsModel" "image" "[I" ∈ kw := km4 14 rfl rfl
theorem kw_4_15 : Jvm.Cond.fieldLink "TalkKnotsModel" (41 : Nat) "TalkKnotsModel" "before" "[I" ∈ kw := km4 15 rfl rfl
theorem kw_4_16 : Jvm.Cond.fieldLink "TalkKnotsModel" (272 : Nat) "TalkKnotsModel" "isKept" "Z" ∈ kw := km4 16 rfl rfl
theorem kw_4_17 : Jvm.Cond.laysFinal "TalkKnotsModel" "TalkKnotsModel" "row" "[I" ∈ kw := km4 17 rfl rfl
theorem kw_4_18 : Jvm.Cond.soleField "TalkKnotsModel" "row" ∈ kw := km4 18 rfl rfl
theorem kw_4_19 : Jvm.Cond.laysFinal "TalkKnotsModel" "TalkKnotsModel" "found" "[I" ∈ kw := km4 19 rfl rfl
theorem kw_4_20 : Jvm.Cond.soleField "TalkKnotsModel" "found" ∈ kw := km4 20 rfl rfl
theorem kw_4_21 : Jvm.Cond.laysFinal "TalkKnotsModel" "TalkKnotsModel" "tried" "[I" ∈ kw := km4 21 rfl rfl
theorem kw_4_22 : Jvm.Cond.soleField "TalkKnotsModel" "tried" ∈ kw := km4 22 rfl rfl
theorem kw_4_23 : Jvm.Cond.laysFinal "TalkKnotsModel" "TalkKnotsModel" "before1" "[I" ∈ kw := km4 23 rfl rfl
theorem kw_4_24 : Jvm.Cond.soleField "TalkKnotsModel" "before1" ∈ kw := km4 24 rfl rfl
theorem kw_4_25 : Jvm.Cond.laysFinal "TalkKnotsModel" "TalkKnotsModel" "tape" "[I" ∈ kw := km4 25 rfl rfl
theorem kw_4_26 : Jvm.Cond.soleField "TalkKnotsModel" "tape" ∈ kw := km4 26 rfl rfl
theorem kw_4_27 : Jvm.Cond.lays "TalkKnotsModel" "TalkKnotsModel" "tapeMany" "I" ∈ kw := km4 27 rfl rfl
theorem kw_4_28 : Jvm.Cond.soleField "TalkKnotsModel" "tapeMany" ∈ kw := km4 28 rfl rfl
theorem kw_4_29 : Jvm.Cond.lays "TalkKnotsModel" "TalkKnotsModel" "sort" "I" ∈ kw := km4 29 rfl rfl
theorem kw_4_30 : Jvm.Cond.soleField "TalkKnotsModel" "sort" ∈ kw := km4 30 rfl rfl
theorem kw_4_31 : Jvm.Cond.lays "TalkKnotsModel" "TalkKnotsModel" "begins" "I" ∈ kw := km4 31 rfl rfl
theorem kw_4_32 : Jvm.Cond.soleField "TalkKnotsModel" "begins" ∈ kw := km4 32 rfl rfl
theorem kw_4_33 : Jvm.Cond.lays "TalkKnotsModel" "TalkKnotsModel" "tokenEnds" "I" ∈ kw := km4 33 rfl rfl
theorem kw_4_34 : Jvm.Cond.soleField "TalkKnotsModel" "tokenEnds" ∈ kw := km4 34 rfl rfl
theorem kw_4_35 : Jvm.Cond.lays "TalkKnotsModel" "TalkKnotsModel" "word" "J" ∈ kw := km4 35 rfl rfl
theorem kw_4_36 : Jvm.Cond.soleField "TalkKnotsModel" "word" ∈ kw := km4 36 rfl rfl
theorem kw_4_37 : Jvm.Cond.lays "TalkKnotsModel" "TalkKnotsModel" "value" "I" ∈ kw := km4 37 rfl rfl
theorem kw_4_38 : Jvm.Cond.soleField "TalkKnotsModel" "value" ∈ kw := km4 38 rfl rfl
theorem kw_4_39 : Jvm.Cond.lays "TalkKnotsModel" "TalkKnotsModel" "good" "Z" ∈ kw := km4 39 rfl rfl
theorem kw_4_40 : Jvm.Cond.soleField "TalkKnotsModel" "good" ∈ kw := km4 40 rfl rfl
theorem kw_4_41 : Jvm.Cond.laysFinal "TalkKnotsModel" "TalkKnotsModel" "bitsOf" "[I" ∈ kw := km4 41 rfl rfl
theorem kw_4_42 : Jvm.Cond.soleField "TalkKnotsModel" "bitsOf" ∈ kw := km4 42 rfl rfl
theorem kw_4_43 : Jvm.Cond.laysFinal "TalkKnotsModel" "TalkKnotsModel" "sizeOf" "[I" ∈ kw := km4 43 rfl rfl
theorem kw_4_44 : Jvm.Cond.soleField "TalkKnotsModel" "sizeOf" ∈ kw := km4 44 rfl rfl
theorem kw_4_45 : Jvm.Cond.laysFinal "TalkKnotsModel" "TalkKnotsModel" "sheets" "[J" ∈ kw := km4 45 rfl rfl
theorem kw_4_46 : Jvm.Cond.soleField "TalkKnotsModel" "sheets" ∈ kw := km4 46 rfl rfl
theorem kw_4_47 : Jvm.Cond.laysFinal "TalkKnotsModel" "TalkKnotsModel" "lent" "[J" ∈ kw := km4 47 rfl rfl
theorem kw_4_48 : Jvm.Cond.soleField "TalkKnotsModel" "lent" ∈ kw := km4 48 rfl rfl
theorem kw_4_49 : Jvm.Cond.laysFinal "TalkKnotsModel" "TalkKnotsModel" "image" "[I" ∈ kw := km4 49 rfl rfl
theorem kw_4_50 : Jvm.Cond.soleField "TalkKnotsModel" "image" ∈ kw := km4 50 rfl rfl
theorem kw_4_51 : Jvm.Cond.laysFinal "TalkKnotsModel" "TalkKnotsModel" "before" "[I" ∈ kw := km4 51 rfl rfl
theorem kw_4_52 : Jvm.Cond.soleField "TalkKnotsModel" "before" ∈ kw := km4 52 rfl rfl
theorem kw_4_53 : Jvm.Cond.lays "TalkKnotsModel" "TalkKnotsModel" "isKept" "Z" ∈ kw := km4 53 rfl rfl
theorem kw_4_54 : Jvm.Cond.soleField "TalkKnotsModel" "isKept" ∈ kw := km4 54 rfl rfl
theorem kw_4_55 : Jvm.Cond.superclass "TalkKnotsModel" "java/lang/Object" ∈ kw := km4 55 rfl rfl
theorem kw_4_56 : Jvm.Cond.methodLink "TalkKnotsLaw" (17 : Nat) ({ cls := "TalkKnotsModel", name := "wind", desc := "(II)I" } : Jvm.MethodName) ∈ kw := km4 56 rfl rfl
theorem kw_4_57 : Jvm.Cond.instanceMethod ({ cls := "TalkKnotsModel", name := "wind", desc := "(II)I" } : Jvm.MethodName) ∈ kw := km4 57 rfl rfl
theorem kw_4_58 : Jvm.Cond.selects "TalkKnotsModel" ({ cls := "TalkKnotsModel", name := "wind", desc := "(II)I" } : Jvm.MethodName) ({ cls := "TalkKnotsModel", name := "wind", desc := "(II)I" } : Jvm.MethodName) ∈ kw := km4 58 rfl rfl
theorem kw_4_59 : Jvm.Cond.code ({ cls := "TalkKnotsModel", name := "wind", desc := "(II)I" } : Jvm.MethodName) prog_8_method_23_code (3 : Nat) (Option.some Jvm.ClassFile.FieldType.int) ∈ kw := km4 59 rfl rfl
theorem kw_4_60 : Jvm.Cond.methodLink "TalkKnotsModel" (49 : Nat) ({ cls := "TalkKnotsModel", name := "in", desc := "(III)Z" } : Jvm.MethodName) ∈ kw := km4 60 rfl rfl
theorem kw_4_61 : Jvm.Cond.static ({ cls := "TalkKnotsModel", name := "in", desc := "(III)Z" } : Jvm.MethodName) ∈ kw := km4 61 rfl rfl
theorem kw_4_62 : Jvm.Cond.code ({ cls := "TalkKnotsModel", name := "in", desc := "(III)Z" } : Jvm.MethodName) prog_8_method_2_code (3 : Nat) (Option.some Jvm.ClassFile.FieldType.boolean) ∈ kw := km4 62 rfl rfl
theorem kw_4_63 : Jvm.Cond.methodLink "TalkKnotsModel" (79 : Nat) ({ cls := "TalkKnotsModel", name := "becomes", desc := "(II)I" } : Jvm.MethodName) ∈ kw := km4 63 rfl rfl
theorem kw_4_65 : Jvm.Cond.instanceMethod ({ cls := "TalkKnotsModel", name := "becomes", desc := "(II)I" } : Jvm.MethodName) ∈ kw := km4 65 rfl rfl
theorem kw_4_66 : Jvm.Cond.code ({ cls := "TalkKnotsModel", name := "becomes", desc := "(II)I" } : Jvm.MethodName) prog_8_method_9_code (4 : Nat) (Option.some Jvm.ClassFile.FieldType.int) ∈ kw := km4 66 rfl rfl
theorem kw_4_67 : Jvm.Cond.constant "TalkKnotsModel" (48 : Nat) (-1000000001 : Int32) ∈ kw := km4 67 rfl rfl
theorem kw_4_68 : Jvm.Cond.methodLink "TalkKnotsModel" (82 : Nat) ({ cls := "TalkKnotsModel", name := "finds", desc := "(I)I" } : Jvm.MethodName) ∈ kw := km4 68 rfl rfl
theorem kw_4_70 : Jvm.Cond.instanceMethod ({ cls := "TalkKnotsModel", name := "finds", desc := "(I)I" } : Jvm.MethodName) ∈ kw := km4 70 rfl rfl
theorem kw_4_71 : Jvm.Cond.code ({ cls := "TalkKnotsModel", name := "finds", desc := "(I)I" } : Jvm.MethodName) prog_8_method_3_code (2 : Nat) (Option.some Jvm.ClassFile.FieldType.int) ∈ kw := km4 71 rfl rfl
theorem kw_4_72 : Jvm.Cond.methodLink "TalkKnotsLaw" (21 : Nat) ({ cls := "TalkKnotsModel", name := "weight", desc := "(II)I" } : Jvm.MethodName) ∈ kw := km4 72 rfl rfl
theorem kw_4_73 : Jvm.Cond.instanceMethod ({ cls := "TalkKnotsModel", name := "weight", desc := "(II)I" } : Jvm.MethodName) ∈ kw := km4 73 rfl rfl
theorem kw_4_74 : Jvm.Cond.selects "TalkKnotsModel" ({ cls := "TalkKnotsModel", name := "weight", desc := "(II)I" } : Jvm.MethodName) ({ cls := "TalkKnotsModel", name := "weight", desc := "(II)I" } : Jvm.MethodName) ∈ kw := km4 74 rfl rfl
theorem kw_4_75 : Jvm.Cond.code ({ cls := "TalkKnotsModel", name := "weight", desc := "(II)I" } : Jvm.MethodName) prog_8_method_24_code (3 : Nat) (Option.some Jvm.ClassFile.FieldType.int) ∈ kw := km4 75 rfl rfl
theorem kw_4_76 : Jvm.Cond.methodLink "TalkKnotsModel" (85 : Nat) ({ cls := "TalkKnotsModel", name := "isMast", desc := "(I)Z" } : Jvm.MethodName) ∈ kw := km4 76 rfl rfl
theorem kw_4_77 : Jvm.Cond.static ({ cls := "TalkKnotsModel", name := "isMast", desc := "(I)Z" } : Jvm.MethodName) ∈ kw := km4 77 rfl rfl
theorem kw_4_78 : Jvm.Cond.code ({ cls := "TalkKnotsModel", name := "isMast", desc := "(I)Z" } : Jvm.MethodName) prog_8_method_12_code (1 : Nat) (Option.some Jvm.ClassFile.FieldType.boolean) ∈ kw := km4 78 rfl rfl
theorem kw_4_79 : Jvm.Cond.methodLink "TalkKnotsLaw" (26 : Nat) ({ cls := "TalkKnotsModel", name := "raise", desc := "(I)I" } : Jvm.MethodName) ∈ kw := km4 79 rfl rfl
theorem kw_4_80 : Jvm.Cond.instanceMethod ({ cls := "TalkKnotsModel", name := "raise", desc := "(I)I" } : Jvm.MethodName) ∈ kw := km4 80 rfl rfl
theorem kw_4_81 : Jvm.Cond.selects "TalkKnotsModel" ({ cls := "TalkKnotsModel", name := "raise", desc := "(I)I" } : Jvm.MethodName) ({ cls := "TalkKnotsModel", name := "raise", desc := "(I)I" } : Jvm.MethodName) ∈ kw := km4 81 rfl rfl
theorem kw_4_82 : Jvm.Cond.code ({ cls := "TalkKnotsModel", name := "raise", desc := "(I)I" } : Jvm.MethodName) prog_8_method_25_code (2 : Nat) (Option.some Jvm.ClassFile.FieldType.int) ∈ kw := km4 82 rfl rfl
theorem kw_4_83 : Jvm.Cond.methodLink "TalkKnotsLaw" (30 : Nat) ({ cls := "TalkKnotsModel", name := "mastOf", desc := "(II)I" } : Jvm.MethodName) ∈ kw := km4 83 rfl rfl
theorem kw_4_84 : Jvm.Cond.instanceMethod ({ cls := "TalkKnotsModel", name := "mastOf", desc := "(II)I" } : Jvm.MethodName) ∈ kw := km4 84 rfl rfl
theorem kw_4_85 : Jvm.Cond.selects "TalkKnotsModel" ({ cls := "TalkKnotsModel", name := "mastOf", desc := "(II)I" } : Jvm.MethodName) ({ cls := "TalkKnotsModel", name := "mastOf", desc := "(II)I" } : Jvm.MethodName) ∈ kw := km4 85 rfl rfl
theorem kw_4_86 : Jvm.Cond.code ({ cls := "TalkKnotsModel", name := "mastOf", desc := "(II)I" } : Jvm.MethodName) prog_8_method_27_code (3 : Nat) (Option.some Jvm.ClassFile.FieldType.int) ∈ kw := km4 86 rfl rfl
theorem kw_4_87 : Jvm.Cond.methodLink "TalkKnotsModel" (57 : Nat) ({ cls := "TalkKnotsModel", name := "ofMast", desc := "(II)I" } : Jvm.MethodName) ∈ kw := km4 87 rfl rfl
theorem kw_4_89 : Jvm.Cond.instanceMethod ({ cls := "TalkKnotsModel", name := "ofMast", desc := "(II)I" } : Jvm.MethodName) ∈ kw := km4 89 rfl rfl
theorem kw_4_90 : Jvm.Cond.code ({ cls := "TalkKnotsModel", name := "ofMast", desc := "(II)I" } : Jvm.MethodName) prog_8_method_7_code (3 : Nat) (Option.some Jvm.ClassFile.FieldType.int) ∈ kw := km4 90 rfl rfl
theorem kw_4_91 : Jvm.Cond.methodLink "TalkKnotsModel" (60 : Nat) ({ cls := "TalkKnotsModel", name := "knotsOf", desc := "(IZ)I" } : Jvm.MethodName) ∈ kw := km4 91 rfl rfl
theorem kw_4_93 : Jvm.Cond.instanceMethod ({ cls := "TalkKnotsModel", name := "knotsOf", desc := "(IZ)I" } : Jvm.MethodName) ∈ kw := km4 93 rfl rfl
theorem kw_4_94 : Jvm.Cond.code ({ cls := "TalkKnotsModel", name := "knotsOf", desc := "(IZ)I" } : Jvm.MethodName) prog_8_method_15_code (5 : Nat) (Option.some Jvm.ClassFile.FieldType.int) ∈ kw := km4 94 rfl rfl
theorem kw_4_95 : Jvm.Cond.methodLink "TalkKnotsModel" (53 : Nat) ({ cls := "TalkKnotsModel", name := "its", desc := "(II)I" } : Jvm.MethodName) ∈ kw := km4 95 rfl rfl
theorem kw_4_97 : Jvm.Cond.instanceMethod ({ cls := "TalkKnotsModel", name := "its", desc := "(II)I" } : Jvm.MethodName) ∈ kw := km4 97 rfl rfl
theorem kw_4_98 : Jvm.Cond.code ({ cls := "TalkKnotsModel", name := "its", desc := "(II)I" } : Jvm.MethodName) prog_8_method_5_code (3 : Nat) (Option.some Jvm.ClassFile.FieldType.int) ∈ kw := km4 98 rfl rfl
theorem kw_4_99 : Jvm.Cond.methodLink "TalkKnotsModel" (89 : Nat) ({ cls := "TalkKnotsModel", name := "strain", desc := "(I)I" } : Jvm.MethodName) ∈ kw := km4 99 rfl rfl
theorem kw_4_101 : Jvm.Cond.instanceMethod ({ cls := "TalkKnotsModel", name := "strain", desc := "(I)I" } : Jvm.MethodName) ∈ kw := km4 101 rfl rfl
theorem kw_4_102 : Jvm.Cond.code ({ cls := "TalkKnotsModel", name := "strain", desc := "(I)I" } : Jvm.MethodName) prog_8_method_18_code (3 : Nat) (Option.some Jvm.ClassFile.FieldType.int) ∈ kw := km4 102 rfl rfl
theorem kw_4_103 : Jvm.Cond.methodLink "TalkKnotsModel" (64 : Nat) ({ cls := "TalkKnotsModel", name := "bits", desc := "(I)I" } : Jvm.MethodName) ∈ kw := km4 103 rfl rfl
theorem kw_4_104 : Jvm.Cond.static ({ cls := "TalkKnotsModel", name := "bits", desc := "(I)I" } : Jvm.MethodName) ∈ kw := km4 104 rfl rfl
theorem kw_4_105 : Jvm.Cond.code ({ cls := "TalkKnotsModel", name := "bits", desc := "(I)I" } : Jvm.MethodName) prog_8_method_13_code (3 : Nat) (Option.some Jvm.ClassFile.FieldType.int) ∈ kw := km4 105 rfl rfl
theorem kw_4_106 : Jvm.Cond.methodLink "TalkKnotsModel" (68 : Nat) ({ cls := "TalkKnotsModel", name := "blowing", desc := "()I" } : Jvm.MethodName) ∈ kw := km4 106 rfl rfl
theorem kw_4_108 : Jvm.Cond.instanceMethod ({ cls := "TalkKnotsModel", name := "blowing", desc := "()I" } : Jvm.MethodName) ∈ kw := km4 108 rfl rfl
theorem kw_4_109 : Jvm.Cond.code ({ cls := "TalkKnotsModel", name := "blowing", desc := "()I" } : Jvm.MethodName) prog_8_method_14_code (1 : Nat) (Option.some Jvm.ClassFile.FieldType.int) ∈ kw := km4 109 rfl rfl
theorem kw_4_110 : Jvm.Cond.methodLink "TalkKnotsModel" (92 : Nat) ({ cls := "TalkKnotsModel", name := "heldOf", desc := "(I)I" } : Jvm.MethodName) ∈ kw := km4 110 rfl rfl
theorem kw_4_112 : Jvm.Cond.instanceMethod ({ cls := "TalkKnotsModel", name := "heldOf", desc := "(I)I" } : Jvm.MethodName) ∈ kw := km4 112 rfl rfl
theorem kw_4_113 : Jvm.Cond.code ({ cls := "TalkKnotsModel", name := "heldOf", desc := "(I)I" } : Jvm.MethodName) prog_8_method_26_code (4 : Nat) (Option.some Jvm.ClassFile.FieldType.int) ∈ kw := km4 113 rfl rfl
theorem kw_4_114 : Jvm.Cond.methodLink "TalkKnotsModel" (76 : Nat) ({ cls := "TalkKnotsModel", name := "holding", desc := "(I)I" } : Jvm.MethodName) ∈ kw := km4 114 rfl rfl
theorem kw_4_116 : Jvm.Cond.instanceMethod ({ cls := "TalkKnotsModel", name := "holding", desc := "(I)I" } : Jvm.MethodName) ∈ kw := km4 116 rfl rfl
theorem kw_4_117 : Jvm.Cond.code ({ cls := "TalkKnotsModel", name := "holding", desc := "(I)I" } : Jvm.MethodName) prog_8_method_19_code (5 : Nat) (Option.some Jvm.ClassFile.FieldType.int) ∈ kw := km4 117 rfl rfl
theorem kw_4_118 : Jvm.Cond.methodLink "TalkKnotsModel" (72 : Nat) ({ cls := "TalkKnotsModel", name := "held", desc := "(III)I" } : Jvm.MethodName) ∈ kw := km4 118 rfl rfl
theorem kw_4_119 : Jvm.Cond.static ({ cls := "TalkKnotsModel", name := "held", desc := "(III)I" } : Jvm.MethodName) ∈ kw := km4 119 rfl rfl
theorem kw_4_120 : Jvm.Cond.code ({ cls := "TalkKnotsModel", name := "held", desc := "(III)I" } : Jvm.MethodName) prog_8_method_4_code (3 : Nat) (Option.some Jvm.ClassFile.FieldType.int) ∈ kw := km4 120 rfl rfl
theorem kw_4_121 : Jvm.Cond.methodLink "TalkKnotsLaw" (34 : Nat) ({ cls := "TalkKnotsModel", name := "now", desc := "(I)I" } : Jvm.MethodName) ∈ kw := km4 121 rfl rfl
theorem kw_4_122 : Jvm.Cond.instanceMethod ({ cls := "TalkKnotsModel", name := "now", desc := "(I)I" } : Jvm.MethodName) ∈ kw := km4 122 rfl rfl
theorem kw_4_123 : Jvm.Cond.selects "TalkKnotsModel" ({ cls := "TalkKnotsModel", name := "now", desc := "(I)I" } : Jvm.MethodName) ({ cls := "TalkKnotsModel", name := "now", desc := "(I)I" } : Jvm.MethodName) ∈ kw := km4 123 rfl rfl
theorem kw_4_124 : Jvm.Cond.code ({ cls := "TalkKnotsModel", name := "now", desc := "(I)I" } : Jvm.MethodName) prog_8_method_29_code (2 : Nat) (Option.some Jvm.ClassFile.FieldType.int) ∈ kw := km4 124 rfl rfl
theorem kw_4_125 : Jvm.Cond.methodLink "TalkKnotsModel" (95 : Nat) ({ cls := "TalkKnotsModel", name := "upSet", desc := "()I" } : Jvm.MethodName) ∈ kw := km4 125 rfl rfl
theorem kw_4_127 : Jvm.Cond.instanceMethod ({ cls := "TalkKnotsModel", name := "upSet", desc := "()I" } : Jvm.MethodName) ∈ kw := km4 127 rfl rfl
theorem kw_4_128 : Jvm.Cond.code ({ cls := "TalkKnotsModel", name := "upSet", desc := "()I" } : Jvm.MethodName) prog_8_method_17_code (3 : Nat) (Option.some Jvm.ClassFile.FieldType.int) ∈ kw := km4 128 rfl rfl
theorem kw_4_129 : Jvm.Cond.methodLink "TalkKnotsModel" (98 : Nat) ({ cls := "TalkKnotsModel", name := "fastSet", desc := "()I" } : Jvm.MethodName) ∈ kw := km4 129 rfl rfl
theorem kw_4_131 : Jvm.Cond.instanceMethod ({ cls := "TalkKnotsModel", name := "fastSet", desc := "()I" } : Jvm.MethodName) ∈ kw := km4 131 rfl rfl
theorem kw_4_132 : Jvm.Cond.code ({ cls := "TalkKnotsModel", name := "fastSet", desc := "()I" } : Jvm.MethodName) prog_8_method_16_code (3 : Nat) (Option.some Jvm.ClassFile.FieldType.int) ∈ kw := km4 132 rfl rfl
theorem kw_4_133 : Jvm.Cond.methodLink "TalkKnotsModel" (101 : Nat) ({ cls := "TalkKnotsModel", name := "sumOf", desc := "(I)I" } : Jvm.MethodName) ∈ kw := km4 133 rfl rfl
theorem kw_4_135 : Jvm.Cond.instanceMethod ({ cls := "TalkKnotsModel", name := "sumOf", desc := "(I)I" } : Jvm.MethodName) ∈ kw := km4 135 rfl rfl
theorem kw_4_136 : Jvm.Cond.code ({ cls := "TalkKnotsModel", name := "sumOf", desc := "(I)I" } : Jvm.MethodName) prog_8_method_28_code (4 : Nat) (Option.some Jvm.ClassFile.FieldType.int) ∈ kw := km4 136 rfl rfl
theorem kw_4_137 : Jvm.Cond.methodLink "TalkKnotsLaw" (38 : Nat) ({ cls := "TalkKnotsModel", name := "knot", desc := "(II)I" } : Jvm.MethodName) ∈ kw := km4 137 rfl rfl
theorem kw_4_138 : Jvm.Cond.instanceMethod ({ cls := "TalkKnotsModel", name := "knot", desc := "(II)I" } : Jvm.MethodName) ∈ kw := km4 138 rfl rfl
theorem kw_4_139 : Jvm.Cond.selects "TalkKnotsModel" ({ cls := "TalkKnotsModel", name := "knot", desc := "(II)I" } : Jvm.MethodName) ({ cls := "TalkKnotsModel", name := "knot", desc := "(II)I" } : Jvm.MethodName) ∈ kw := km4 139 rfl rfl
theorem kw_4_140 : Jvm.Cond.code ({ cls := "TalkKnotsModel", name := "knot", desc := "(II)I" } : Jvm.MethodName) prog_8_method_31_code (3 : Nat) (Option.some Jvm.ClassFile.FieldType.int) ∈ kw := km4 140 rfl rfl
theorem kw_4_141 : Jvm.Cond.methodLink "TalkKnotsModel" (107 : Nat) ({ cls := "TalkKnotsModel", name := "isKind", desc := "(I)Z" } : Jvm.MethodName) ∈ kw := km4 141 rfl rfl
theorem kw_4_142 : Jvm.Cond.static ({ cls := "TalkKnotsModel", name := "isKind", desc := "(I)Z" } : Jvm.MethodName) ∈ kw := km4 142 rfl rfl
theorem kw_4_143 : Jvm.Cond.code ({ cls := "TalkKnotsModel", name := "isKind", desc := "(I)Z" } : Jvm.MethodName) prog_8_method_11_code (1 : Nat) (Option.some Jvm.ClassFile.FieldType.boolean) ∈ kw := km4 143 rfl rfl
theorem kw_4_144 : Jvm.Cond.constant "TalkKnotsModel" (110 : Nat) (-1000000002 : Int32) ∈ kw := km4 144 rfl rfl
theorem kw_4_145 : Jvm.Cond.methodLink "TalkKnotsModel" (111 : Nat) ({ cls := "TalkKnotsModel", name := "adds", desc := "(IIII)V" } : Jvm.MethodName) ∈ kw := km4 145 rfl rfl
theorem kw_4_147 : Jvm.Cond.instanceMethod ({ cls := "TalkKnotsModel", name := "adds", desc := "(IIII)V" } : Jvm.MethodName) ∈ kw := km4 147 rfl rfl
theorem kw_4_148 : Jvm.Cond.code ({ cls := "TalkKnotsModel", name := "adds", desc := "(IIII)V" } : Jvm.MethodName) prog_8_method_30_code (6 : Nat) (Option.none : Option Jvm.ClassFile.FieldType) ∈ kw := km4 148 rfl rfl
theorem kw_4_149 : Jvm.Cond.methodLink "TalkKnotsModel" (104 : Nat) ({ cls := "TalkKnotsModel", name := "puts", desc := "(III)V" } : Jvm.MethodName) ∈ kw := km4 149 rfl rfl
theorem kw_4_151 : Jvm.Cond.instanceMethod ({ cls := "TalkKnotsModel", name := "puts", desc := "(III)V" } : Jvm.MethodName) ∈ kw := km4 151 rfl rfl
theorem kw_4_152 : Jvm.Cond.code ({ cls := "TalkKnotsModel", name := "puts", desc := "(III)V" } : Jvm.MethodName) prog_8_method_6_code (4 : Nat) (Option.none : Option Jvm.ClassFile.FieldType) ∈ kw := km4 152 rfl rfl
theorem kw_4_153 : Jvm.Cond.methodLink "TalkKnotsLaw" (42 : Nat) ({ cls := "TalkKnotsModel", name := "of", desc := "(II)I" } : Jvm.MethodName) ∈ kw := km4 153 rfl rfl
theorem kw_4_154 : Jvm.Cond.instanceMethod ({ cls := "TalkKnotsModel", name := "of", desc := "(II)I" } : Jvm.MethodName) ∈ kw := km4 154 rfl rfl
theorem kw_4_155 : Jvm.Cond.selects "TalkKnotsModel" ({ cls := "TalkKnotsModel", name := "of", desc := "(II)I" } : Jvm.MethodName) ({ cls := "TalkKnotsModel", name := "of", desc := "(II)I" } : Jvm.MethodName) ∈ kw := km4 155 rfl rfl
theorem kw_4_156 : Jvm.Cond.code ({ cls := "TalkKnotsModel", name := "of", desc := "(II)I" } : Jvm.MethodName) prog_8_method_32_code (3 : Nat) (Option.some Jvm.ClassFile.FieldType.int) ∈ kw := km4 156 rfl rfl
theorem kw_4_157 : Jvm.Cond.methodLink "TalkKnotsModel" (115 : Nat) ({ cls := "TalkKnotsModel", name := "isOne", desc := "(I)Z" } : Jvm.MethodName) ∈ kw := km4 157 rfl rfl
theorem kw_4_159 : Jvm.Cond.instanceMethod ({ cls := "TalkKnotsModel", name := "isOne", desc := "(I)Z" } : Jvm.MethodName) ∈ kw := km4 159 rfl rfl
theorem kw_4_160 : Jvm.Cond.code ({ cls := "TalkKnotsModel", name := "isOne", desc := "(I)Z" } : Jvm.MethodName) prog_8_method_10_code (2 : Nat) (Option.some Jvm.ClassFile.FieldType.boolean) ∈ kw := km4 160 rfl rfl
theorem kw_4_161 : Jvm.Cond.methodLink "TalkKnotsModel" (118 : Nat) ({ cls := "TalkKnotsModel", name := "settling", desc := "(I)I" } : Jvm.MethodName) ∈ kw := km4 161 rfl rfl
theorem kw_4_163 : Jvm.Cond.instanceMethod ({ cls := "TalkKnotsModel", name := "settling", desc := "(I)I" } : Jvm.MethodName) ∈ kw := km4 163 rfl rfl
theorem kw_4_164 : Jvm.Cond.code ({ cls := "TalkKnotsModel", name := "settling", desc := "(I)I" } : Jvm.MethodName) prog_8_method_20_code (4 : Nat) (Option.some Jvm.ClassFile.FieldType.int) ∈ kw := km4 164 rfl rfl
theorem kw_4_165 : Jvm.Cond.methodLink "TalkKnotsModel" (121 : Nat) ({ cls := "TalkKnotsModel", name := "teasing", desc := "(I)I" } : Jvm.MethodName) ∈ kw := km4 165 rfl rfl
theorem kw_4_167 : Jvm.Cond.instanceMethod ({ cls := "TalkKnotsModel", name := "teasing", desc := "(I)I" } : Jvm.MethodName) ∈ kw := km4 167 rfl rfl
theorem kw_4_168 : Jvm.Cond.code ({ cls := "TalkKnotsModel", name := "teasing", desc := "(I)I" } : Jvm.MethodName) prog_8_method_21_code (2 : Nat) (Option.some Jvm.ClassFile.FieldType.int) ∈ kw := km4 168 rfl rfl
theorem kw_4_169 : Jvm.Cond.methodLink "TalkKnotsModel" (124 : Nat) ({ cls := "TalkKnotsModel", name := "isGiving", desc := "(II)Z" } : Jvm.MethodName) ∈ kw := km4 169 rfl rfl
theorem kw_4_171 : Jvm.Cond.instanceMethod ({ cls := "TalkKnotsModel", name := "isGiving", desc := "(II)Z" } : Jvm.MethodName) ∈ kw := km4 171 rfl rfl
theorem kw_4_172 : Jvm.Cond.code ({ cls := "TalkKnotsModel", name := "isGiving", desc := "(II)Z" } : Jvm.MethodName) prog_8_method_22_code (4 : Nat) (Option.some Jvm.ClassFile.FieldType.boolean) ∈ kw := km4 172 rfl rfl
theorem kw_4_173 : Jvm.Cond.methodLink "TalkKnotsLaw" (47 : Nat) ({ cls := "TalkKnotsModel", name := "set", desc := "(III)I" } : Jvm.MethodName) ∈ kw := km4 173 rfl rfl
theorem kw_4_174 : Jvm.Cond.instanceMethod ({ cls := "TalkKnotsModel", name := "set", desc := "(III)I" } : Jvm.MethodName) ∈ kw := km4 174 rfl rfl
theorem kw_4_175 : Jvm.Cond.selects "TalkKnotsModel" ({ cls := "TalkKnotsModel", name := "set", desc := "(III)I" } : Jvm.MethodName) ({ cls := "TalkKnotsModel", name := "set", desc := "(III)I" } : Jvm.MethodName) ∈ kw := km4 175 rfl rfl
theorem kw_4_176 : Jvm.Cond.code ({ cls := "TalkKnotsModel", name := "set", desc := "(III)I" } : Jvm.MethodName) prog_8_method_34_code (4 : Nat) (Option.some Jvm.ClassFile.FieldType.int) ∈ kw := km4 176 rfl rfl
theorem kw_4_177 : Jvm.Cond.methodLink "TalkKnotsModel" (128 : Nat) ({ cls := "TalkKnotsModel", name := "isPart", desc := "(II)Z" } : Jvm.MethodName) ∈ kw := km4 177 rfl rfl
theorem kw_4_178 : Jvm.Cond.static ({ cls := "TalkKnotsModel", name := "isPart", desc := "(II)Z" } : Jvm.MethodName) ∈ kw := km4 178 rfl rfl
theorem kw_4_179 : Jvm.Cond.code ({ cls := "TalkKnotsModel", name := "isPart", desc := "(II)Z" } : Jvm.MethodName) prog_8_method_33_code (2 : Nat) (Option.some Jvm.ClassFile.FieldType.boolean) ∈ kw := km4 179 rfl rfl
theorem kw_4_180 : Jvm.Cond.methodLink "TalkKnotsLaw" (51 : Nat) ({ cls := "TalkKnotsModel", name := "turn", desc := "(II)I" } : Jvm.MethodName) ∈ kw := km4 180 rfl rfl
theorem kw_4_181 : Jvm.Cond.instanceMethod ({ cls := "TalkKnotsModel", name := "turn", desc := "(II)I" } : Jvm.MethodName) ∈ kw := km4 181 rfl rfl
theorem kw_4_182 : Jvm.Cond.selects "TalkKnotsModel" ({ cls := "TalkKnotsModel", name := "turn", desc := "(II)I" } : Jvm.MethodName) ({ cls := "TalkKnotsModel", name := "turn", desc := "(II)I" } : Jvm.MethodName) ∈ kw := km4 182 rfl rfl
theorem kw_4_183 : Jvm.Cond.code ({ cls := "TalkKnotsModel", name := "turn", desc := "(II)I" } : Jvm.MethodName) prog_8_method_35_code (3 : Nat) (Option.some Jvm.ClassFile.FieldType.int) ∈ kw := km4 183 rfl rfl
theorem kw_4_184 : Jvm.Cond.methodLink "TalkKnotsLaw" (55 : Nat) ({ cls := "TalkKnotsModel", name := "as", desc := "(II)I" } : Jvm.MethodName) ∈ kw := km4 184 rfl rfl
theorem kw_4_185 : Jvm.Cond.instanceMethod ({ cls := "TalkKnotsModel", name := "as", desc := "(II)I" } : Jvm.MethodName) ∈ kw := km4 185 rfl rfl
theorem kw_4_186 : Jvm.Cond.selects "TalkKnotsModel" ({ cls := "TalkKnotsModel", name := "as", desc := "(II)I" } : Jvm.MethodName) ({ cls := "TalkKnotsModel", name := "as", desc := "(II)I" } : Jvm.MethodName) ∈ kw := km4 186 rfl rfl
theorem kw_4_187 : Jvm.Cond.code ({ cls := "TalkKnotsModel", name := "as", desc := "(II)I" } : Jvm.MethodName) prog_8_method_36_code (5 : Nat) (Option.some Jvm.ClassFile.FieldType.int) ∈ kw := km4 187 rfl rfl
theorem kw_4_188 : Jvm.Cond.constant "TalkKnotsModel" (131 : Nat) (-1000000003 : Int32) ∈ kw := km4 188 rfl rfl
theorem kw_4_189 : Jvm.Cond.methodLink "TalkKnotsLaw" (59 : Nat) ({ cls := "TalkKnotsModel", name := "tease", desc := "(I)I" } : Jvm.MethodName) ∈ kw := km4 189 rfl rfl
theorem kw_4_190 : Jvm.Cond.instanceMethod ({ cls := "TalkKnotsModel", name := "tease", desc := "(I)I" } : Jvm.MethodName) ∈ kw := km4 190 rfl rfl
theorem kw_4_191 : Jvm.Cond.selects "TalkKnotsModel" ({ cls := "TalkKnotsModel", name := "tease", desc := "(I)I" } : Jvm.MethodName) ({ cls := "TalkKnotsModel", name := "tease", desc := "(I)I" } : Jvm.MethodName) ∈ kw := km4 191 rfl rfl
theorem kw_4_192 : Jvm.Cond.code ({ cls := "TalkKnotsModel", name := "tease", desc := "(I)I" } : Jvm.MethodName) prog_8_method_38_code (2 : Nat) (Option.some Jvm.ClassFile.FieldType.int) ∈ kw := km4 192 rfl rfl
theorem kw_4_193 : Jvm.Cond.methodLink "TalkKnotsModel" (132 : Nat) ({ cls := "TalkKnotsModel", name := "teases", desc := "(I)V" } : Jvm.MethodName) ∈ kw := km4 193 rfl rfl
theorem kw_4_195 : Jvm.Cond.instanceMethod ({ cls := "TalkKnotsModel", name := "teases", desc := "(I)V" } : Jvm.MethodName) ∈ kw := km4 195 rfl rfl
theorem kw_4_196 : Jvm.Cond.code ({ cls := "TalkKnotsModel", name := "teases", desc := "(I)V" } : Jvm.MethodName) prog_8_method_37_code (2 : Nat) (Option.none : Option Jvm.ClassFile.FieldType) ∈ kw := km4 196 rfl rfl
theorem kw_4_197 : Jvm.Cond.methodLink "TalkKnotsLaw" (63 : Nat) ({ cls := "TalkKnotsModel", name := "tie", desc := "(I)I" } : Jvm.MethodName) ∈ kw := km4 197 rfl rfl
theorem kw_4_198 : Jvm.Cond.instanceMethod ({ cls := "TalkKnotsModel", name := "tie", desc := "(I)I" } : Jvm.MethodName) ∈ kw := km4 198 rfl rfl
theorem kw_4_199 : Jvm.Cond.selects "TalkKnotsModel" ({ cls := "TalkKnotsModel", name := "tie", desc := "(I)I" } : Jvm.MethodName) ({ cls := "TalkKnotsModel", name := "tie", desc := "(I)I" } : Jvm.MethodName) ∈ kw := km4 199 rfl rfl
theorem kw_4_200 : Jvm.Cond.code ({ cls := "TalkKnotsModel", name := "tie", desc := "(I)I" } : Jvm.MethodName) prog_8_method_39_code (2 : Nat) (Option.some Jvm.ClassFile.FieldType.int) ∈ kw := km4 200 rfl rfl
theorem kw_4_201 : Jvm.Cond.constant "TalkKnotsModel" (136 : Nat) (-1000000005 : Int32) ∈ kw := km4 201 rfl rfl
theorem kw_4_202 : Jvm.Cond.methodLink "TalkKnotsLaw" (67 : Nat) ({ cls := "TalkKnotsModel", name := "cast", desc := "(I)I" } : Jvm.MethodName) ∈ kw := km4 202 rfl rfl
theorem kw_4_203 : Jvm.Cond.instanceMethod ({ cls := "TalkKnotsModel", name := "cast", desc := "(I)I" } : Jvm.MethodName) ∈ kw := km4 203 rfl rfl
theorem kw_4_204 : Jvm.Cond.selects "TalkKnotsModel" ({ cls := "TalkKnotsModel", name := "cast", desc := "(I)I" } : Jvm.MethodName) ({ cls := "TalkKnotsModel", name := "cast", desc := "(I)I" } : Jvm.MethodName) ∈ kw := km4 204 rfl rfl
theorem kw_4_205 : Jvm.Cond.code ({ cls := "TalkKnotsModel", name := "cast", desc := "(I)I" } : Jvm.MethodName) prog_8_method_40_code (2 : Nat) (Option.some Jvm.ClassFile.FieldType.int) ∈ kw := km4 205 rfl rfl
theorem kw_4_206 : Jvm.Cond.methodLink "TalkKnotsLaw" (71 : Nat) ({ cls := "TalkKnotsModel", name := "hours", desc := "(I)I" } : Jvm.MethodName) ∈ kw := km4 206 rfl rfl
theorem kw_4_207 : Jvm.Cond.instanceMethod ({ cls := "TalkKnotsModel", name := "hours", desc := "(I)I" } : Jvm.MethodName) ∈ kw := km4 207 rfl rfl
theorem kw_4_208 : Jvm.Cond.selects "TalkKnotsModel" ({ cls := "TalkKnotsModel", name := "hours", desc := "(I)I" } : Jvm.MethodName) ({ cls := "TalkKnotsModel", name := "hours", desc := "(I)I" } : Jvm.MethodName) ∈ kw := km4 208 rfl rfl
theorem kw_4_209 : Jvm.Cond.code ({ cls := "TalkKnotsModel", name := "hours", desc := "(I)I" } : Jvm.MethodName) prog_8_method_44_code (2 : Nat) (Option.some Jvm.ClassFile.FieldType.int) ∈ kw := km4 209 rfl rfl
theorem kw_4_210 : Jvm.Cond.constant "TalkKnotsModel" (143 : Nat) (99999 : Int32) ∈ kw := km4 210 rfl rfl
theorem kw_4_211 : Jvm.Cond.methodLink "TalkKnotsModel" (144 : Nat) ({ cls := "TalkKnotsModel", name := "passes", desc := "(I)V" } : Jvm.MethodName) ∈ kw := km4 211 rfl rfl
theorem kw_4_213 : Jvm.Cond.instanceMethod ({ cls := "TalkKnotsModel", name := "passes", desc := "(I)V" } : Jvm.MethodName) ∈ kw := km4 213 rfl rfl
theorem kw_4_214 : Jvm.Cond.code ({ cls := "TalkKnotsModel", name := "passes", desc := "(I)V" } : Jvm.MethodName) prog_8_method_43_code (3 : Nat) (Option.none : Option Jvm.ClassFile.FieldType) ∈ kw := km4 214 rfl rfl
theorem kw_4_215 : Jvm.Cond.methodLink "TalkKnotsModel" (140 : Nat) ({ cls := "TalkKnotsModel", name := "oneHour", desc := "()V" } : Jvm.MethodName) ∈ kw := km4 215 rfl rfl
theorem kw_4_217 : Jvm.Cond.instanceMethod ({ cls := "TalkKnotsModel", name := "oneHour", desc := "()V" } : Jvm.MethodName) ∈ kw := km4 217 rfl rfl
theorem kw_4_218 : Jvm.Cond.code ({ cls := "TalkKnotsModel", name := "oneHour", desc := "()V" } : Jvm.MethodName) prog_8_method_42_code (2 : Nat) (Option.none : Option Jvm.ClassFile.FieldType) ∈ kw := km4 218 rfl rfl
theorem kw_4_219 : Jvm.Cond.methodLink "TalkKnotsModel" (137 : Nat) ({ cls := "TalkKnotsModel", name := "pulls", desc := "(I)V" } : Jvm.MethodName) ∈ kw := km4 219 rfl rfl
theorem kw_4_221 : Jvm.Cond.instanceMethod ({ cls := "TalkKnotsModel", name := "pulls", desc := "(I)V" } : Jvm.MethodName) ∈ kw := km4 221 rfl rfl
theorem kw_4_222 : Jvm.Cond.code ({ cls := "TalkKnotsModel", name := "pulls", desc := "(I)V" } : Jvm.MethodName) prog_8_method_41_code (5 : Nat) (Option.none : Option Jvm.ClassFile.FieldType) ∈ kw := km4 222 rfl rfl
theorem kw_4_223 : Jvm.Cond.methodLink "TalkKnotsLaw" (75 : Nat) ({ cls := "TalkKnotsModel", name := "on", desc := "(III)I" } : Jvm.MethodName) ∈ kw := km4 223 rfl rfl
theorem kw_4_224 : Jvm.Cond.instanceMethod ({ cls := "TalkKnotsModel", name := "on", desc := "(III)I" } : Jvm.MethodName) ∈ kw := km4 224 rfl rfl
theorem kw_4_225 : Jvm.Cond.selects "TalkKnotsModel" ({ cls := "TalkKnotsModel", name := "on", desc := "(III)I" } : Jvm.MethodName) ({ cls := "TalkKnotsModel", name := "on", desc := "(III)I" } : Jvm.MethodName) ∈ kw := km4 225 rfl rfl
theorem kw_4_226 : Jvm.Cond.code ({ cls := "TalkKnotsModel", name := "on", desc := "(III)I" } : Jvm.MethodName) prog_8_method_45_code (5 : Nat) (Option.some Jvm.ClassFile.FieldType.int) ∈ kw := km4 226 rfl rfl
theorem kw_4_227 : Jvm.Cond.methodLink "TalkKnotsModel" (147 : Nat) ({ cls := "TalkKnotsModel", name := "moveAll", desc := "(Z[I)V" } : Jvm.MethodName) ∈ kw := km4 227 rfl rfl
theorem kw_4_229 : Jvm.Cond.instanceMethod ({ cls := "TalkKnotsModel", name := "moveAll", desc := "(Z[I)V" } : Jvm.MethodName) ∈ kw := km4 229 rfl rfl
theorem kw_4_230 : Jvm.Cond.code ({ cls := "TalkKnotsModel", name := "moveAll", desc := "(Z[I)V" } : Jvm.MethodName) prog_8_method_85_code (4 : Nat) (Option.none : Option Jvm.ClassFile.FieldType) ∈ kw := km4 230 rfl rfl
theorem kw_4_231 : Jvm.Cond.methodLink "TalkKnotsLaw" (79 : Nat) ({ cls := "TalkKnotsModel", name := "then", desc := "(II)I" } : Jvm.MethodName) ∈ kw := km4 231 rfl rfl
theorem kw_4_232 : Jvm.Cond.instanceMethod ({ cls := "TalkKnotsModel", name := "then", desc := "(II)I" } : Jvm.MethodName) ∈ kw := km4 232 rfl rfl
theorem kw_4_233 : Jvm.Cond.selects "TalkKnotsModel" ({ cls := "TalkKnotsModel", name := "then", desc := "(II)I" } : Jvm.MethodName) ({ cls := "TalkKnotsModel", name := "then", desc := "(II)I" } : Jvm.MethodName) ∈ kw := km4 233 rfl rfl
theorem kw_4_234 : Jvm.Cond.code ({ cls := "TalkKnotsModel", name := "then", desc := "(II)I" } : Jvm.MethodName) prog_8_method_46_code (4 : Nat) (Option.some Jvm.ClassFile.FieldType.int) ∈ kw := km4 234 rfl rfl
theorem kw_4_235 : Jvm.Cond.methodLink "TalkKnotsLaw" (83 : Nat) ({ cls := "TalkKnotsModel", name := "falls", desc := "(I)I" } : Jvm.MethodName) ∈ kw := km4 235 rfl rfl
theorem kw_4_236 : Jvm.Cond.instanceMethod ({ cls := "TalkKnotsModel", name := "falls", desc := "(I)I" } : Jvm.MethodName) ∈ kw := km4 236 rfl rfl
theorem kw_4_237 : Jvm.Cond.selects "TalkKnotsModel" ({ cls := "TalkKnotsModel", name := "falls", desc := "(I)I" } : Jvm.MethodName) ({ cls := "TalkKnotsModel", name := "falls", desc := "(I)I" } : Jvm.MethodName) ∈ kw := km4 237 rfl rfl
theorem kw_4_238 : Jvm.Cond.code ({ cls := "TalkKnotsModel", name := "falls", desc := "(I)I" } : Jvm.MethodName) prog_8_method_48_code (3 : Nat) (Option.some Jvm.ClassFile.FieldType.int) ∈ kw := km4 238 rfl rfl
theorem kw_4_239 : Jvm.Cond.methodLink "TalkKnotsModel" (151 : Nat) ({ cls := "TalkKnotsModel", name := "goneIn", desc := "(I)I" } : Jvm.MethodName) ∈ kw := km4 239 rfl rfl
theorem kw_5_1 : Jvm.Cond.instanceMethod ({ cls := "TalkKnotsModel", name := "goneIn", desc := "(I)I" } : Jvm.MethodName) ∈ kw := km5 1 rfl rfl
theorem kw_5_2 : Jvm.Cond.code ({ cls := "TalkKnotsModel", name := "goneIn", desc := "(I)I" } : Jvm.MethodName) prog_8_method_47_code (3 : Nat) (Option.some Jvm.ClassFile.FieldType.int) ∈ kw := km5 2 rfl rfl
theorem kw_5_3 : Jvm.Cond.constant "TalkKnotsModel" (154 : Nat) (-1000000004 : Int32) ∈ kw := km5 3 rfl rfl
theorem kw_5_4 : Jvm.Cond.methodLink "TalkKnotsLaw" (87 : Nat) ({ cls := "TalkKnotsModel", name := "gives", desc := "(I)I" } : Jvm.MethodName) ∈ kw := km5 4 rfl rfl
theorem kw_5_5 : Jvm.Cond.instanceMethod ({ cls := "TalkKnotsModel", name := "gives", desc := "(I)I" } : Jvm.MethodName) ∈ kw := km5 5 rfl rfl
theorem kw_5_6 : Jvm.Cond.selects "TalkKnotsModel" ({ cls := "TalkKnotsModel", name := "gives", desc := "(I)I" } : Jvm.MethodName) ({ cls := "TalkKnotsModel", name := "gives", desc := "(I)I" } : Jvm.MethodName) ∈ kw := km5 6 rfl rfl
theorem kw_5_7 : Jvm.Cond.code ({ cls := "TalkKnotsModel", name := "gives", desc := "(I)I" } : Jvm.MethodName) prog_8_method_49_code (3 : Nat) (Option.some Jvm.ClassFile.FieldType.int) ∈ kw := km5 7 rfl rfl
theorem kw_5_8 : Jvm.Cond.methodLink "TalkKnotsLaw" (91 : Nat) ({ cls := "TalkKnotsModel", name := "best", desc := "(I)I" } : Jvm.MethodName) ∈ kw := km5 8 rfl rfl
theorem kw_5_9 : Jvm.Cond.instanceMethod ({ cls := "TalkKnotsModel", name := "best", desc := "(I)I" } : Jvm.MethodName) ∈ kw := km5 9 rfl rfl
theorem kw_5_10 : Jvm.Cond.selects "TalkKnotsModel" ({ cls := "TalkKnotsModel", name := "best", desc := "(I)I" } : Jvm.MethodName) ({ cls := "TalkKnotsModel", name := "best", desc := "(I)I" } : Jvm.MethodName) ∈ kw := km5 10 rfl rfl
theorem kw_5_11 : Jvm.Cond.code ({ cls := "TalkKnotsModel", name := "best", desc := "(I)I" } : Jvm.MethodName) prog_8_method_50_code (6 : Nat) (Option.some Jvm.ClassFile.FieldType.int) ∈ kw := km5 11 rfl rfl
theorem kw_5_12 : Jvm.Cond.methodLink "TalkKnotsLaw" (95 : Nat) ({ cls := "TalkKnotsModel", name := "kind", desc := "(I)I" } : Jvm.MethodName) ∈ kw := km5 12 rfl rfl
theorem kw_5_13 : Jvm.Cond.instanceMethod ({ cls := "TalkKnotsModel", name := "kind", desc := "(I)I" } : Jvm.MethodName) ∈ kw := km5 13 rfl rfl
theorem kw_5_14 : Jvm.Cond.selects "TalkKnotsModel" ({ cls := "TalkKnotsModel", name := "kind", desc := "(I)I" } : Jvm.MethodName) ({ cls := "TalkKnotsModel", name := "kind", desc := "(I)I" } : Jvm.MethodName) ∈ kw := km5 14 rfl rfl
theorem kw_5_15 : Jvm.Cond.code ({ cls := "TalkKnotsModel", name := "kind", desc := "(I)I" } : Jvm.MethodName) prog_8_method_51_code (6 : Nat) (Option.some Jvm.ClassFile.FieldType.int) ∈ kw := km5 15 rfl rfl
theorem kw_5_16 : Jvm.Cond.methodLink "TalkKnotsLaw" (99 : Nat) ({ cls := "TalkKnotsModel", name := "open", desc := "(II)I" } : Jvm.MethodName) ∈ kw := km5 16 rfl rfl
theorem kw_5_17 : Jvm.Cond.instanceMethod ({ cls := "TalkKnotsModel", name := "open", desc := "(II)I" } : Jvm.MethodName) ∈ kw := km5 17 rfl rfl
theorem kw_5_18 : Jvm.Cond.selects "TalkKnotsModel" ({ cls := "TalkKnotsModel", name := "open", desc := "(II)I" } : Jvm.MethodName) ({ cls := "TalkKnotsModel", name := "open", desc := "(II)I" } : Jvm.MethodName) ∈ kw := km5 18 rfl rfl
theorem kw_5_19 : Jvm.Cond.code ({ cls := "TalkKnotsModel", name := "open", desc := "(II)I" } : Jvm.MethodName) prog_8_method_53_code (5 : Nat) (Option.some Jvm.ClassFile.FieldType.int) ∈ kw := km5 19 rfl rfl
theorem kw_5_20 : Jvm.Cond.methodLink "TalkKnotsModel" (155 : Nat) ({ cls := "TalkKnotsModel", name := "lasts", desc := "(II)Z" } : Jvm.MethodName) ∈ kw := km5 20 rfl rfl
theorem kw_5_22 : Jvm.Cond.instanceMethod ({ cls := "TalkKnotsModel", name := "lasts", desc := "(II)Z" } : Jvm.MethodName) ∈ kw := km5 22 rfl rfl
theorem kw_5_23 : Jvm.Cond.code ({ cls := "TalkKnotsModel", name := "lasts", desc := "(II)Z" } : Jvm.MethodName) prog_8_method_52_code (4 : Nat) (Option.some Jvm.ClassFile.FieldType.boolean) ∈ kw := km5 23 rfl rfl
theorem kw_5_24 : Jvm.Cond.methodLink "TalkKnotsLaw" (103 : Nat) ({ cls := "TalkKnotsModel", name := "bears", desc := "(II)I" } : Jvm.MethodName) ∈ kw := km5 24 rfl rfl
theorem kw_5_25 : Jvm.Cond.instanceMethod ({ cls := "TalkKnotsModel", name := "bears", desc := "(II)I" } : Jvm.MethodName) ∈ kw := km5 25 rfl rfl
theorem kw_5_26 : Jvm.Cond.selects "TalkKnotsModel" ({ cls := "TalkKnotsModel", name := "bears", desc := "(II)I" } : Jvm.MethodName) ({ cls := "TalkKnotsModel", name := "bears", desc := "(II)I" } : Jvm.MethodName) ∈ kw := km5 26 rfl rfl
theorem kw_5_27 : Jvm.Cond.code ({ cls := "TalkKnotsModel", name := "bears", desc := "(II)I" } : Jvm.MethodName) prog_8_method_54_code (5 : Nat) (Option.some Jvm.ClassFile.FieldType.int) ∈ kw := km5 27 rfl rfl
theorem kw_5_28 : Jvm.Cond.methodLink "TalkKnotsLaw" (107 : Nat) ({ cls := "TalkKnotsModel", name := "move", desc := "(II)I" } : Jvm.MethodName) ∈ kw := km5 28 rfl rfl
theorem kw_5_29 : Jvm.Cond.instanceMethod ({ cls := "TalkKnotsModel", name := "move", desc := "(II)I" } : Jvm.MethodName) ∈ kw := km5 29 rfl rfl
theorem kw_5_30 : Jvm.Cond.selects "TalkKnotsModel" ({ cls := "TalkKnotsModel", name := "move", desc := "(II)I" } : Jvm.MethodName) ({ cls := "TalkKnotsModel", name := "move", desc := "(II)I" } : Jvm.MethodName) ∈ kw := km5 30 rfl rfl
theorem kw_5_31 : Jvm.Cond.code ({ cls := "TalkKnotsModel", name := "move", desc := "(II)I" } : Jvm.MethodName) prog_8_method_55_code (7 : Nat) (Option.some Jvm.ClassFile.FieldType.int) ∈ kw := km5 31 rfl rfl
theorem kw_5_32 : Jvm.Cond.methodLink "TalkKnotsLaw" (111 : Nat) ({ cls := "TalkKnotsModel", name := "calm", desc := "(I)I" } : Jvm.MethodName) ∈ kw := km5 32 rfl rfl
theorem kw_5_33 : Jvm.Cond.instanceMethod ({ cls := "TalkKnotsModel", name := "calm", desc := "(I)I" } : Jvm.MethodName) ∈ kw := km5 33 rfl rfl
theorem kw_5_34 : Jvm.Cond.selects "TalkKnotsModel" ({ cls := "TalkKnotsModel", name := "calm", desc := "(I)I" } : Jvm.MethodName) ({ cls := "TalkKnotsModel", name := "calm", desc := "(I)I" } : Jvm.MethodName) ∈ kw := km5 34 rfl rfl
theorem kw_5_35 : Jvm.Cond.code ({ cls := "TalkKnotsModel", name := "calm", desc := "(I)I" } : Jvm.MethodName) prog_8_method_56_code (6 : Nat) (Option.some Jvm.ClassFile.FieldType.int) ∈ kw := km5 35 rfl rfl
theorem kw_5_36 : Jvm.Cond.methodLink "TalkKnotsLaw" (115 : Nat) ({ cls := "TalkKnotsModel", name := "firmest", desc := "(I)I" } : Jvm.MethodName) ∈ kw := km5 36 rfl rfl
theorem kw_5_37 : Jvm.Cond.instanceMethod ({ cls := "TalkKnotsModel", name := "firmest", desc := "(I)I" } : Jvm.MethodName) ∈ kw := km5 37 rfl rfl
theorem kw_5_38 : Jvm.Cond.selects "TalkKnotsModel" ({ cls := "TalkKnotsModel", name := "firmest", desc := "(I)I" } : Jvm.MethodName) ({ cls := "TalkKnotsModel", name := "firmest", desc := "(I)I" } : Jvm.MethodName) ∈ kw := km5 38 rfl rfl
theorem kw_5_39 : Jvm.Cond.code ({ cls := "TalkKnotsModel", name := "firmest", desc := "(I)I" } : Jvm.MethodName) prog_8_method_57_code (4 : Nat) (Option.some Jvm.ClassFile.FieldType.int) ∈ kw := km5 39 rfl rfl
theorem kw_5_40 : Jvm.Cond.methodLink "TalkKnotsLaw" (119 : Nat) ({ cls := "TalkKnotsModel", name := "feed", desc := "(II)I" } : Jvm.MethodName) ∈ kw := km5 40 rfl rfl
theorem kw_5_41 : Jvm.Cond.instanceMethod ({ cls := "TalkKnotsModel", name := "feed", desc := "(II)I" } : Jvm.MethodName) ∈ kw := km5 41 rfl rfl
theorem kw_5_42 : Jvm.Cond.selects "TalkKnotsModel" ({ cls := "TalkKnotsModel", name := "feed", desc := "(II)I" } : Jvm.MethodName) ({ cls := "TalkKnotsModel", name := "feed", desc := "(II)I" } : Jvm.MethodName) ∈ kw := km5 42 rfl rfl
theorem kw_5_43 : Jvm.Cond.code ({ cls := "TalkKnotsModel", name := "feed", desc := "(II)I" } : Jvm.MethodName) prog_8_method_58_code (4 : Nat) (Option.some Jvm.ClassFile.FieldType.int) ∈ kw := km5 43 rfl rfl
theorem kw_5_44 : Jvm.Cond.methodLink "TalkKnotsLaw" (124 : Nat) ({ cls := "TalkKnotsModel", name := "wipe", desc := "()I" } : Jvm.MethodName) ∈ kw := km5 44 rfl rfl
theorem kw_5_45 : Jvm.Cond.instanceMethod ({ cls := "TalkKnotsModel", name := "wipe", desc := "()I" } : Jvm.MethodName) ∈ kw := km5 45 rfl rfl
theorem kw_5_46 : Jvm.Cond.selects "TalkKnotsModel" ({ cls := "TalkKnotsModel", name := "wipe", desc := "()I" } : Jvm.MethodName) ({ cls := "TalkKnotsModel", name := "wipe", desc := "()I" } : Jvm.MethodName) ∈ kw := km5 46 rfl rfl
theorem kw_5_47 : Jvm.Cond.code ({ cls := "TalkKnotsModel", name := "wipe", desc := "()I" } : Jvm.MethodName) prog_8_method_59_code (2 : Nat) (Option.some Jvm.ClassFile.FieldType.int) ∈ kw := km5 47 rfl rfl
theorem kw_5_48 : Jvm.Cond.methodLink "TalkKnotsLaw" (128 : Nat) ({ cls := "TalkKnotsModel", name := "yard", desc := "()I" } : Jvm.MethodName) ∈ kw := km5 48 rfl rfl
theorem kw_5_49 : Jvm.Cond.instanceMethod ({ cls := "TalkKnotsModel", name := "yard", desc := "()I" } : Jvm.MethodName) ∈ kw := km5 49 rfl rfl
theorem kw_5_50 : Jvm.Cond.selects "TalkKnotsModel" ({ cls := "TalkKnotsModel", name := "yard", desc := "()I" } : Jvm.MethodName) ({ cls := "TalkKnotsModel", name := "yard", desc := "()I" } : Jvm.MethodName) ∈ kw := km5 50 rfl rfl
theorem kw_5_51 : Jvm.Cond.code ({ cls := "TalkKnotsModel", name := "yard", desc := "()I" } : Jvm.MethodName) prog_8_method_73_code (3 : Nat) (Option.some Jvm.ClassFile.FieldType.int) ∈ kw := km5 51 rfl rfl
theorem kw_5_52 : Jvm.Cond.methodLink "TalkKnotsModel" (213 : Nat) ({ cls := "TalkKnotsModel", name := "advance", desc := "()V" } : Jvm.MethodName) ∈ kw := km5 52 rfl rfl
theorem kw_5_54 : Jvm.Cond.instanceMethod ({ cls := "TalkKnotsModel", name := "advance", desc := "()V" } : Jvm.MethodName) ∈ kw := km5 54 rfl rfl
theorem kw_5_55 : Jvm.Cond.code ({ cls := "TalkKnotsModel", name := "advance", desc := "()V" } : Jvm.MethodName) prog_8_method_63_code (2 : Nat) (Option.none : Option Jvm.ClassFile.FieldType) ∈ kw := km5 55 rfl rfl
theorem kw_5_56 : Jvm.Cond.methodLink "TalkKnotsModel" (168 : Nat) ({ cls := "TalkKnotsModel", name := "byteAt", desc := "(I)I" } : Jvm.MethodName) ∈ kw := km5 56 rfl rfl
theorem kw_5_58 : Jvm.Cond.instanceMethod ({ cls := "TalkKnotsModel", name := "byteAt", desc := "(I)I" } : Jvm.MethodName) ∈ kw := km5 58 rfl rfl
theorem kw_5_59 : Jvm.Cond.code ({ cls := "TalkKnotsModel", name := "byteAt", desc := "(I)I" } : Jvm.MethodName) prog_8_method_60_code (2 : Nat) (Option.some Jvm.ClassFile.FieldType.int) ∈ kw := km5 59 rfl rfl
theorem kw_5_60 : Jvm.Cond.methodLink "TalkKnotsModel" (171 : Nat) ({ cls := "TalkKnotsModel", name := "isLetter", desc := "(I)Z" } : Jvm.MethodName) ∈ kw := km5 60 rfl rfl
theorem kw_5_61 : Jvm.Cond.static ({ cls := "TalkKnotsModel", name := "isLetter", desc := "(I)Z" } : Jvm.MethodName) ∈ kw := km5 61 rfl rfl
theorem kw_5_62 : Jvm.Cond.code ({ cls := "TalkKnotsModel", name := "isLetter", desc := "(I)Z" } : Jvm.MethodName) prog_8_method_61_code (1 : Nat) (Option.some Jvm.ClassFile.FieldType.boolean) ∈ kw := km5 62 rfl rfl
theorem kw_5_63 : Jvm.Cond.methodLink "TalkKnotsModel" (174 : Nat) ({ cls := "TalkKnotsModel", name := "isDigit", desc := "(I)Z" } : Jvm.MethodName) ∈ kw := km5 63 rfl rfl
theorem kw_5_64 : Jvm.Cond.static ({ cls := "TalkKnotsModel", name := "isDigit", desc := "(I)Z" } : Jvm.MethodName) ∈ kw := km5 64 rfl rfl
theorem kw_5_65 : Jvm.Cond.code ({ cls := "TalkKnotsModel", name := "isDigit", desc := "(I)Z" } : Jvm.MethodName) prog_8_method_62_code (1 : Nat) (Option.some Jvm.ClassFile.FieldType.boolean) ∈ kw := km5 65 rfl rfl
theorem kw_5_66 : Jvm.Cond.constantLong "TalkKnotsModel" (187 : Nat) (27 : Int64) ∈ kw := km5 66 rfl rfl
theorem kw_5_67 : Jvm.Cond.constantLong "TalkKnotsModel" (189 : Nat) (96 : Int64) ∈ kw := km5 67 rfl rfl
theorem kw_5_68 : Jvm.Cond.constantLong "TalkKnotsModel" (191 : Nat) (-1 : Int64) ∈ kw := km5 68 rfl rfl
theorem kw_5_69 : Jvm.Cond.methodLink "TalkKnotsModel" (250 : Nat) ({ cls := "TalkKnotsModel", name := "wantItem", desc := "()V" } : Jvm.MethodName) ∈ kw := km5 69 rfl rfl
theorem kw_5_71 : Jvm.Cond.instanceMethod ({ cls := "TalkKnotsModel", name := "wantItem", desc := "()V" } : Jvm.MethodName) ∈ kw := km5 71 rfl rfl
theorem kw_5_72 : Jvm.Cond.code ({ cls := "TalkKnotsModel", name := "wantItem", desc := "()V" } : Jvm.MethodName) prog_8_method_72_code (2 : Nat) (Option.none : Option Jvm.ClassFile.FieldType) ∈ kw := km5 72 rfl rfl
theorem kw_5_73 : Jvm.Cond.methodLink "TalkKnotsModel" (232 : Nat) ({ cls := "TalkKnotsModel", name := "kindHere", desc := "()I" } : Jvm.MethodName) ∈ kw := km5 73 rfl rfl
theorem kw_5_75 : Jvm.Cond.instanceMethod ({ cls := "TalkKnotsModel", name := "kindHere", desc := "()I" } : Jvm.MethodName) ∈ kw := km5 75 rfl rfl
theorem kw_5_76 : Jvm.Cond.code ({ cls := "TalkKnotsModel", name := "kindHere", desc := "()I" } : Jvm.MethodName) prog_8_method_65_code (1 : Nat) (Option.some Jvm.ClassFile.FieldType.int) ∈ kw := km5 76 rfl rfl
theorem kw_5_77 : Jvm.Cond.constantLong "TalkKnotsModel" (193 : Nat) (227144 : Int64) ∈ kw := km5 77 rfl rfl
theorem kw_5_78 : Jvm.Cond.methodLink "TalkKnotsModel" (195 : Nat) ({ cls := "TalkKnotsModel", name := "isWord", desc := "(J)Z" } : Jvm.MethodName) ∈ kw := km5 78 rfl rfl
theorem kw_5_80 : Jvm.Cond.instanceMethod ({ cls := "TalkKnotsModel", name := "isWord", desc := "(J)Z" } : Jvm.MethodName) ∈ kw := km5 80 rfl rfl
theorem kw_5_81 : Jvm.Cond.code ({ cls := "TalkKnotsModel", name := "isWord", desc := "(J)Z" } : Jvm.MethodName) prog_8_method_64_code (3 : Nat) (Option.some Jvm.ClassFile.FieldType.boolean) ∈ kw := km5 81 rfl rfl
theorem kw_5_82 : Jvm.Cond.constantLong "TalkKnotsModel" (199 : Nat) (281375132 : Int64) ∈ kw := km5 82 rfl rfl
theorem kw_5_83 : Jvm.Cond.constantLong "TalkKnotsModel" (201 : Nat) (4443344 : Int64) ∈ kw := km5 83 rfl rfl
theorem kw_5_84 : Jvm.Cond.constantLong "TalkKnotsModel" (203 : Nat) (129450 : Int64) ∈ kw := km5 84 rfl rfl
theorem kw_5_85 : Jvm.Cond.constantLong "TalkKnotsModel" (205 : Nat) (115789410 : Int64) ∈ kw := km5 85 rfl rfl
theorem kw_5_86 : Jvm.Cond.constantLong "TalkKnotsModel" (207 : Nat) (16466 : Int64) ∈ kw := km5 86 rfl rfl
theorem kw_5_87 : Jvm.Cond.methodLink "TalkKnotsModel" (235 : Nat) ({ cls := "TalkKnotsModel", name := "wantOne", desc := "(I)V" } : Jvm.MethodName) ∈ kw := km5 87 rfl rfl
theorem kw_5_89 : Jvm.Cond.instanceMethod ({ cls := "TalkKnotsModel", name := "wantOne", desc := "(I)V" } : Jvm.MethodName) ∈ kw := km5 89 rfl rfl
theorem kw_5_90 : Jvm.Cond.code ({ cls := "TalkKnotsModel", name := "wantOne", desc := "(I)V" } : Jvm.MethodName) prog_8_method_69_code (5 : Nat) (Option.none : Option Jvm.ClassFile.FieldType) ∈ kw := km5 90 rfl rfl
theorem kw_5_91 : Jvm.Cond.methodLink "TalkKnotsModel" (216 : Nat) ({ cls := "TalkKnotsModel", name := "wantNumber", desc := "(II)I" } : Jvm.MethodName) ∈ kw := km5 91 rfl rfl
theorem kw_5_93 : Jvm.Cond.instanceMethod ({ cls := "TalkKnotsModel", name := "wantNumber", desc := "(II)I" } : Jvm.MethodName) ∈ kw := km5 93 rfl rfl
theorem kw_5_94 : Jvm.Cond.code ({ cls := "TalkKnotsModel", name := "wantNumber", desc := "(II)I" } : Jvm.MethodName) prog_8_method_66_code (4 : Nat) (Option.some Jvm.ClassFile.FieldType.int) ∈ kw := km5 94 rfl rfl
theorem kw_5_95 : Jvm.Cond.constantLong "TalkKnotsModel" (219 : Nat) (307058 : Int64) ∈ kw := km5 95 rfl rfl
theorem kw_5_96 : Jvm.Cond.methodLink "TalkKnotsModel" (221 : Nat) ({ cls := "TalkKnotsModel", name := "mayWant", desc := "(JIII)I" } : Jvm.MethodName) ∈ kw := km5 96 rfl rfl
theorem kw_5_98 : Jvm.Cond.instanceMethod ({ cls := "TalkKnotsModel", name := "mayWant", desc := "(JIII)I" } : Jvm.MethodName) ∈ kw := km5 98 rfl rfl
theorem kw_5_99 : Jvm.Cond.code ({ cls := "TalkKnotsModel", name := "mayWant", desc := "(JIII)I" } : Jvm.MethodName) prog_8_method_67_code (6 : Nat) (Option.some Jvm.ClassFile.FieldType.int) ∈ kw := km5 99 rfl rfl
theorem kw_5_100 : Jvm.Cond.constantLong "TalkKnotsModel" (225 : Nat) (6683990 : Int64) ∈ kw := km5 100 rfl rfl
theorem kw_5_101 : Jvm.Cond.methodLink "TalkKnotsModel" (227 : Nat) ({ cls := "TalkKnotsModel", name := "may", desc := "(J)Z" } : Jvm.MethodName) ∈ kw := km5 101 rfl rfl
theorem kw_5_103 : Jvm.Cond.instanceMethod ({ cls := "TalkKnotsModel", name := "may", desc := "(J)Z" } : Jvm.MethodName) ∈ kw := km5 103 rfl rfl
theorem kw_5_104 : Jvm.Cond.code ({ cls := "TalkKnotsModel", name := "may", desc := "(J)Z" } : Jvm.MethodName) prog_8_method_68_code (4 : Nat) (Option.some Jvm.ClassFile.FieldType.boolean) ∈ kw := km5 104 rfl rfl
theorem kw_5_105 : Jvm.Cond.constantLong "TalkKnotsModel" (238 : Nat) (257141 : Int64) ∈ kw := km5 105 rfl rfl
theorem kw_5_106 : Jvm.Cond.methodLink "TalkKnotsModel" (240 : Nat) ({ cls := "TalkKnotsModel", name := "wantMast", desc := "()V" } : Jvm.MethodName) ∈ kw := km5 106 rfl rfl
theorem kw_5_108 : Jvm.Cond.instanceMethod ({ cls := "TalkKnotsModel", name := "wantMast", desc := "()V" } : Jvm.MethodName) ∈ kw := km5 108 rfl rfl
theorem kw_5_109 : Jvm.Cond.code ({ cls := "TalkKnotsModel", name := "wantMast", desc := "()V" } : Jvm.MethodName) prog_8_method_70_code (4 : Nat) (Option.none : Option Jvm.ClassFile.FieldType) ∈ kw := km5 109 rfl rfl
theorem kw_5_110 : Jvm.Cond.constantLong "TalkKnotsModel" (230 : Nat) (90302 : Int64) ∈ kw := km5 110 rfl rfl
theorem kw_5_111 : Jvm.Cond.constantLong "TalkKnotsModel" (243 : Nat) (459652 : Int64) ∈ kw := km5 111 rfl rfl
theorem kw_5_112 : Jvm.Cond.methodLink "TalkKnotsModel" (245 : Nat) ({ cls := "TalkKnotsModel", name := "wantWind", desc := "()V" } : Jvm.MethodName) ∈ kw := km5 112 rfl rfl
theorem kw_5_114 : Jvm.Cond.instanceMethod ({ cls := "TalkKnotsModel", name := "wantWind", desc := "()V" } : Jvm.MethodName) ∈ kw := km5 114 rfl rfl
theorem kw_5_115 : Jvm.Cond.code ({ cls := "TalkKnotsModel", name := "wantWind", desc := "()V" } : Jvm.MethodName) prog_8_method_71_code (3 : Nat) (Option.none : Option Jvm.ClassFile.FieldType) ∈ kw := km5 115 rfl rfl
theorem kw_5_116 : Jvm.Cond.constantLong "TalkKnotsModel" (248 : Nat) (10728482 : Int64) ∈ kw := km5 116 rfl rfl
theorem kw_5_117 : Jvm.Cond.methodLink "TalkKnotsLaw" (132 : Nat) ({ cls := "TalkKnotsModel", name := "sheet", desc := "(III)I" } : Jvm.MethodName) ∈ kw := km5 117 rfl rfl
theorem kw_5_118 : Jvm.Cond.instanceMethod ({ cls := "TalkKnotsModel", name := "sheet", desc := "(III)I" } : Jvm.MethodName) ∈ kw := km5 118 rfl rfl
theorem kw_5_119 : Jvm.Cond.selects "TalkKnotsModel" ({ cls := "TalkKnotsModel", name := "sheet", desc := "(III)I" } : Jvm.MethodName) ({ cls := "TalkKnotsModel", name := "sheet", desc := "(III)I" } : Jvm.MethodName) ∈ kw := km5 119 rfl rfl
theorem kw_5_120 : Jvm.Cond.code ({ cls := "TalkKnotsModel", name := "sheet", desc := "(III)I" } : Jvm.MethodName) prog_8_method_76_code (5 : Nat) (Option.some Jvm.ClassFile.FieldType.int) ∈ kw := km5 120 rfl rfl
theorem kw_5_121 : Jvm.Cond.methodLink "TalkKnotsModel" (253 : Nat) ({ cls := "TalkKnotsModel", name := "isSheet", desc := "(I)Z" } : Jvm.MethodName) ∈ kw := km5 121 rfl rfl
theorem kw_5_122 : Jvm.Cond.static ({ cls := "TalkKnotsModel", name := "isSheet", desc := "(I)Z" } : Jvm.MethodName) ∈ kw := km5 122 rfl rfl
theorem kw_5_123 : Jvm.Cond.code ({ cls := "TalkKnotsModel", name := "isSheet", desc := "(I)Z" } : Jvm.MethodName) prog_8_method_74_code (1 : Nat) (Option.some Jvm.ClassFile.FieldType.boolean) ∈ kw := km5 123 rfl rfl
theorem kw_5_124 : Jvm.Cond.constant "TalkKnotsModel" (256 : Nat) (-1000000007 : Int32) ∈ kw := km5 124 rfl rfl
theorem kw_5_125 : Jvm.Cond.methodLink "TalkKnotsLaw" (139 : Nat) ({ cls := "TalkKnotsModel", name := "write", desc := "(IIJ)J" } : Jvm.MethodName) ∈ kw := km5 125 rfl rfl
theorem kw_5_126 : Jvm.Cond.instanceMethod ({ cls := "TalkKnotsModel", name := "write", desc := "(IIJ)J" } : Jvm.MethodName) ∈ kw := km5 126 rfl rfl
theorem kw_5_127 : Jvm.Cond.selects "TalkKnotsModel" ({ cls := "TalkKnotsModel", name := "write", desc := "(IIJ)J" } : Jvm.MethodName) ({ cls := "TalkKnotsModel", name := "write", desc := "(IIJ)J" } : Jvm.MethodName) ∈ kw := km5 127 rfl rfl
theorem kw_5_128 : Jvm.Cond.code ({ cls := "TalkKnotsModel", name := "write", desc := "(IIJ)J" } : Jvm.MethodName) prog_8_method_77_code (7 : Nat) (Option.some Jvm.ClassFile.FieldType.long) ∈ kw := km5 128 rfl rfl
theorem kw_5_129 : Jvm.Cond.constant "TalkKnotsModel" (257 : Nat) (-1000000006 : Int32) ∈ kw := km5 129 rfl rfl
theorem kw_5_130 : Jvm.Cond.methodLink "TalkKnotsModel" (258 : Nat) ({ cls := "TalkKnotsModel", name := "narrow", desc := "(IJ)J" } : Jvm.MethodName) ∈ kw := km5 130 rfl rfl
theorem kw_5_131 : Jvm.Cond.static ({ cls := "TalkKnotsModel", name := "narrow", desc := "(IJ)J" } : Jvm.MethodName) ∈ kw := km5 131 rfl rfl
theorem kw_5_132 : Jvm.Cond.code ({ cls := "TalkKnotsModel", name := "narrow", desc := "(IJ)J" } : Jvm.MethodName) prog_8_method_75_code (3 : Nat) (Option.some Jvm.ClassFile.FieldType.long) ∈ kw := km5 132 rfl rfl
theorem kw_5_133 : Jvm.Cond.methodLink "TalkKnotsLaw" (144 : Nat) ({ cls := "TalkKnotsModel", name := "copy", desc := "(IIIII)I" } : Jvm.MethodName) ∈ kw := km5 133 rfl rfl
theorem kw_5_134 : Jvm.Cond.instanceMethod ({ cls := "TalkKnotsModel", name := "copy", desc := "(IIIII)I" } : Jvm.MethodName) ∈ kw := km5 134 rfl rfl
theorem kw_5_135 : Jvm.Cond.selects "TalkKnotsModel" ({ cls := "TalkKnotsModel", name := "copy", desc := "(IIIII)I" } : Jvm.MethodName) ({ cls := "TalkKnotsModel", name := "copy", desc := "(IIIII)I" } : Jvm.MethodName) ∈ kw := km5 135 rfl rfl
theorem kw_5_136 : Jvm.Cond.code ({ cls := "TalkKnotsModel", name := "copy", desc := "(IIIII)I" } : Jvm.MethodName) prog_8_method_79_code (7 : Nat) (Option.some Jvm.ClassFile.FieldType.int) ∈ kw := km5 136 rfl rfl
theorem kw_5_137 : Jvm.Cond.methodLink "TalkKnotsModel" (262 : Nat) ({ cls := "TalkKnotsModel", name := "isPart", desc := "(III)Z" } : Jvm.MethodName) ∈ kw := km5 137 rfl rfl
theorem kw_5_139 : Jvm.Cond.instanceMethod ({ cls := "TalkKnotsModel", name := "isPart", desc := "(III)Z" } : Jvm.MethodName) ∈ kw := km5 139 rfl rfl
theorem kw_5_140 : Jvm.Cond.code ({ cls := "TalkKnotsModel", name := "isPart", desc := "(III)Z" } : Jvm.MethodName) prog_8_method_78_code (4 : Nat) (Option.some Jvm.ClassFile.FieldType.boolean) ∈ kw := km5 140 rfl rfl
theorem kw_5_141 : Jvm.Cond.methodLink "TalkKnotsLaw" (148 : Nat) ({ cls := "TalkKnotsModel", name := "lays", desc := "(I)I" } : Jvm.MethodName) ∈ kw := km5 141 rfl rfl
theorem kw_5_142 : Jvm.Cond.instanceMethod ({ cls := "TalkKnotsModel", name := "lays", desc := "(I)I" } : Jvm.MethodName) ∈ kw := km5 142 rfl rfl
theorem kw_5_143 : Jvm.Cond.selects "TalkKnotsModel" ({ cls := "TalkKnotsModel", name := "lays", desc := "(I)I" } : Jvm.MethodName) ({ cls := "TalkKnotsModel", name := "lays", desc := "(I)I" } : Jvm.MethodName) ∈ kw := km5 143 rfl rfl
theorem kw_5_144 : Jvm.Cond.code ({ cls := "TalkKnotsModel", name := "lays", desc := "(I)I" } : Jvm.MethodName) prog_8_method_81_code (7 : Nat) (Option.some Jvm.ClassFile.FieldType.int) ∈ kw := km5 144 rfl rfl
theorem kw_5_145 : Jvm.Cond.methodLink "TalkKnotsModel" (264 : Nat) ({ cls := "TalkKnotsModel", name := "badSheet", desc := "(I)I" } : Jvm.MethodName) ∈ kw := km5 145 rfl rfl
theorem kw_5_147 : Jvm.Cond.instanceMethod ({ cls := "TalkKnotsModel", name := "badSheet", desc := "(I)I" } : Jvm.MethodName) ∈ kw := km5 147 rfl rfl
theorem kw_5_148 : Jvm.Cond.code ({ cls := "TalkKnotsModel", name := "badSheet", desc := "(I)I" } : Jvm.MethodName) prog_8_method_80_code (2 : Nat) (Option.some Jvm.ClassFile.FieldType.int) ∈ kw := km5 148 rfl rfl
theorem kw_5_149 : Jvm.Cond.constantLong "TalkKnotsModel" (267 : Nat) (99 : Int64) ∈ kw := km5 149 rfl rfl
theorem kw_5_150 : Jvm.Cond.methodLink "TalkKnotsLaw" (152 : Nat) ({ cls := "TalkKnotsModel", name := "book", desc := "(II)I" } : Jvm.MethodName) ∈ kw := km5 150 rfl rfl
theorem kw_5_151 : Jvm.Cond.instanceMethod ({ cls := "TalkKnotsModel", name := "book", desc := "(II)I" } : Jvm.MethodName) ∈ kw := km5 151 rfl rfl
theorem kw_5_152 : Jvm.Cond.selects "TalkKnotsModel" ({ cls := "TalkKnotsModel", name := "book", desc := "(II)I" } : Jvm.MethodName) ({ cls := "TalkKnotsModel", name := "book", desc := "(II)I" } : Jvm.MethodName) ∈ kw := km5 152 rfl rfl
theorem kw_5_153 : Jvm.Cond.code ({ cls := "TalkKnotsModel", name := "book", desc := "(II)I" } : Jvm.MethodName) prog_8_method_82_code (5 : Nat) (Option.some Jvm.ClassFile.FieldType.int) ∈ kw := km5 153 rfl rfl
theorem kw_5_154 : Jvm.Cond.methodLink "TalkKnotsLaw" (156 : Nat) ({ cls := "TalkKnotsModel", name := "read", desc := "(II)I" } : Jvm.MethodName) ∈ kw := km5 154 rfl rfl
theorem kw_5_155 : Jvm.Cond.instanceMethod ({ cls := "TalkKnotsModel", name := "read", desc := "(II)I" } : Jvm.MethodName) ∈ kw := km5 155 rfl rfl
theorem kw_5_156 : Jvm.Cond.selects "TalkKnotsModel" ({ cls := "TalkKnotsModel", name := "read", desc := "(II)I" } : Jvm.MethodName) ({ cls := "TalkKnotsModel", name := "read", desc := "(II)I" } : Jvm.MethodName) ∈ kw := km5 156 rfl rfl
theorem kw_5_157 : Jvm.Cond.code ({ cls := "TalkKnotsModel", name := "read", desc := "(II)I" } : Jvm.MethodName) prog_8_method_84_code (6 : Nat) (Option.some Jvm.ClassFile.FieldType.int) ∈ kw := km5 157 rfl rfl
theorem kw_5_158 : Jvm.Cond.methodLink "TalkKnotsModel" (269 : Nat) ({ cls := "TalkKnotsModel", name := "isSo", desc := "(II)Z" } : Jvm.MethodName) ∈ kw := km5 158 rfl rfl
theorem kw_5_160 : Jvm.Cond.instanceMethod ({ cls := "TalkKnotsModel", name := "isSo", desc := "(II)Z" } : Jvm.MethodName) ∈ kw := km5 160 rfl rfl
theorem kw_5_161 : Jvm.Cond.code ({ cls := "TalkKnotsModel", name := "isSo", desc := "(II)Z" } : Jvm.MethodName) prog_8_method_83_code (5 : Nat) (Option.some Jvm.ClassFile.FieldType.boolean) ∈ kw := km5 161 rfl rfl
theorem kw_5_162 : Jvm.Cond.methodLink "TalkKnotsLaw" (160 : Nat) ({ cls := "TalkKnotsModel", name := "image", desc := "()I" } : Jvm.MethodName) ∈ kw := km5 162 rfl rfl
theorem kw_5_163 : Jvm.Cond.instanceMethod ({ cls := "TalkKnotsModel", name := "image", desc := "()I" } : Jvm.MethodName) ∈ kw := km5 163 rfl rfl
theorem kw_5_164 : Jvm.Cond.selects "TalkKnotsModel" ({ cls := "TalkKnotsModel", name := "image", desc := "()I" } : Jvm.MethodName) ({ cls := "TalkKnotsModel", name := "image", desc := "()I" } : Jvm.MethodName) ∈ kw := km5 164 rfl rfl
theorem kw_5_165 : Jvm.Cond.code ({ cls := "TalkKnotsModel", name := "image", desc := "()I" } : Jvm.MethodName) prog_8_method_86_code (1 : Nat) (Option.some Jvm.ClassFile.FieldType.int) ∈ kw := km5 165 rfl rfl
theorem kw_5_166 : Jvm.Cond.methodLink "TalkKnotsLaw" (164 : Nat) ({ cls := "TalkKnotsModel", name := "undo", desc := "()I" } : Jvm.MethodName) ∈ kw := km5 166 rfl rfl
theorem kw_5_167 : Jvm.Cond.instanceMethod ({ cls := "TalkKnotsModel", name := "undo", desc := "()I" } : Jvm.MethodName) ∈ kw := km5 167 rfl rfl
theorem kw_5_168 : Jvm.Cond.selects "TalkKnotsModel" ({ cls := "TalkKnotsModel", name := "undo", desc := "()I" } : Jvm.MethodName) ({ cls := "TalkKnotsModel", name := "undo", desc := "()I" } : Jvm.MethodName) ∈ kw := km5 168 rfl rfl
theorem kw_5_169 : Jvm.Cond.code ({ cls := "TalkKnotsModel", name := "undo", desc := "()I" } : Jvm.MethodName) prog_8_method_87_code (1 : Nat) (Option.some Jvm.ClassFile.FieldType.int) ∈ kw := km5 169 rfl rfl
theorem kw_5_170 : Jvm.Cond.methodLink "TalkKnotsLaw" (168 : Nat) ({ cls := "TalkKnotsModel", name := "tear", desc := "()I" } : Jvm.MethodName) ∈ kw := km5 170 rfl rfl
theorem kw_5_171 : Jvm.Cond.instanceMethod ({ cls := "TalkKnotsModel", name := "tear", desc := "()I" } : Jvm.MethodName) ∈ kw := km5 171 rfl rfl
theorem kw_5_172 : Jvm.Cond.selects "TalkKnotsModel" ({ cls := "TalkKnotsModel", name := "tear", desc := "()I" } : Jvm.MethodName) ({ cls := "TalkKnotsModel", name := "tear", desc := "()I" } : Jvm.MethodName) ∈ kw := km5 172 rfl rfl
theorem kw_5_173 : Jvm.Cond.code ({ cls := "TalkKnotsModel", name := "tear", desc := "()I" } : Jvm.MethodName) prog_8_method_88_code (2 : Nat) (Option.some Jvm.ClassFile.FieldType.int) ∈ kw := km5 173 rfl rfl
theorem kw_5_174 : Jvm.Cond.methodLink "TalkKnotsLaw" (172 : Nat) ({ cls := "TalkKnotsModel", name := "count", desc := "(I)I" } : Jvm.MethodName) ∈ kw := km5 174 rfl rfl
theorem kw_5_175 : Jvm.Cond.instanceMethod ({ cls := "TalkKnotsModel", name := "count", desc := "(I)I" } : Jvm.MethodName) ∈ kw := km5 175 rfl rfl
theorem kw_5_176 : Jvm.Cond.selects "TalkKnotsModel" ({ cls := "TalkKnotsModel", name := "count", desc := "(I)I" } : Jvm.MethodName) ({ cls := "TalkKnotsModel", name := "count", desc := "(I)I" } : Jvm.MethodName) ∈ kw := km5 176 rfl rfl
theorem kw_5_177 : Jvm.Cond.code ({ cls := "TalkKnotsModel", name := "count", desc := "(I)I" } : Jvm.MethodName) prog_8_method_90_code (2 : Nat) (Option.some Jvm.ClassFile.FieldType.int) ∈ kw := km5 177 rfl rfl
theorem kw_5_178 : Jvm.Cond.methodLink "TalkKnotsModel" (275 : Nat) ({ cls := "TalkKnotsModel", name := "weights", desc := "()I" } : Jvm.MethodName) ∈ kw := km5 178 rfl rfl
theorem kw_5_180 : Jvm.Cond.instanceMethod ({ cls := "TalkKnotsModel", name := "weights", desc := "()I" } : Jvm.MethodName) ∈ kw := km5 180 rfl rfl
theorem kw_5_181 : Jvm.Cond.code ({ cls := "TalkKnotsModel", name := "weights", desc := "()I" } : Jvm.MethodName) prog_8_method_89_code (3 : Nat) (Option.some Jvm.ClassFile.FieldType.int) ∈ kw := km5 181 rfl rfl
theorem kw_5_182 : Jvm.Cond.methodLink "TalkKnotsLaw" (176 : Nat) ({ cls := "TalkKnotsModel", name := "status", desc := "(I)I" } : Jvm.MethodName) ∈ kw := km5 182 rfl rfl
theorem kw_5_183 : Jvm.Cond.instanceMethod ({ cls := "TalkKnotsModel", name := "status", desc := "(I)I" } : Jvm.MethodName) ∈ kw := km5 183 rfl rfl
theorem kw_5_184 : Jvm.Cond.selects "TalkKnotsModel" ({ cls := "TalkKnotsModel", name := "status", desc := "(I)I" } : Jvm.MethodName) ({ cls := "TalkKnotsModel", name := "status", desc := "(I)I" } : Jvm.MethodName) ∈ kw := km5 184 rfl rfl
theorem kw_5_185 : Jvm.Cond.code ({ cls := "TalkKnotsModel", name := "status", desc := "(I)I" } : Jvm.MethodName) prog_8_method_91_code (4 : Nat) (Option.some Jvm.ClassFile.FieldType.int) ∈ kw := km5 185 rfl rfl
theorem kw_5_186 : Jvm.Cond.constantLong "TalkKnotsLaw" (133 : Nat) (4294967295 : Int64) ∈ kw := km5 186 rfl rfl
theorem kw_5_187 : Jvm.Cond.fieldLink "java/lang/String" (9 : Nat) "java/lang/String" "value" "[B" ∈ kw := km5 187 rfl rfl
theorem kw_5_188 : Jvm.Cond.fieldLink "java/lang/String" (15 : Nat) "java/lang/String" "coder" "B" ∈ kw := km5 188 rfl rfl
theorem kw_0_0 : Jvm.Cond.selects "TalkKnots" ({ cls := "TalkKnots", name := "tell", desc := "(I)I" } : Jvm.MethodName) ({ cls := "TalkKnots", name := "tell", desc := "(I)I" } : Jvm.MethodName) ∈ kw := km0 0 rfl rfl
theorem kw_0_1 : Jvm.Cond.selects "TalkKnots$Yard" ({ cls := "TalkKnots$Yard", name := "countFast", desc := "()V" } : Jvm.MethodName) ({ cls := "TalkKnots$Yard", name := "countFast", desc := "()V" } : Jvm.MethodName) ∈ kw := km0 1 rfl rfl
theorem kw_0_2 : Jvm.Cond.selects "TalkKnots$Yard" ({ cls := "TalkKnots$Yard", name := "strain", desc := "(II)I" } : Jvm.MethodName) ({ cls := "TalkKnots$Yard", name := "strain", desc := "(II)I" } : Jvm.MethodName) ∈ kw := km0 2 rfl rfl
theorem kw_0_3 : Jvm.Cond.selects "TalkKnots$Yard" ({ cls := "TalkKnots$Yard", name := "heldBy", desc := "(LTalkKnots$Knot;I)I" } : Jvm.MethodName) ({ cls := "TalkKnots$Yard", name := "heldBy", desc := "(LTalkKnots$Knot;I)I" } : Jvm.MethodName) ∈ kw := km0 3 rfl rfl
theorem kw_0_4 : Jvm.Cond.selects "TalkKnots$Knot" ({ cls := "TalkKnots$Knot", name := "spliceHolding", desc := "()I" } : Jvm.MethodName) ({ cls := "TalkKnots$Knot", name := "spliceHolding", desc := "()I" } : Jvm.MethodName) ∈ kw := km0 4 rfl rfl
theorem kw_0_5 : Jvm.Cond.selects "TalkKnots" ({ cls := "TalkKnots", name := "isKnot", desc := "(I)Z" } : Jvm.MethodName) ({ cls := "TalkKnots", name := "isKnot", desc := "(I)Z" } : Jvm.MethodName) ∈ kw := km0 5 rfl rfl
theorem kw_0_6 : Jvm.Cond.selects "TalkKnots$Knot" ({ cls := "TalkKnots$Knot", name := "openBy", desc := "(I)V" } : Jvm.MethodName) ({ cls := "TalkKnots$Knot", name := "openBy", desc := "(I)V" } : Jvm.MethodName) ∈ kw := km0 6 rfl rfl
theorem kw_0_7 : Jvm.Cond.selects "TalkKnots$Yard" ({ cls := "TalkKnots$Yard", name := "letGo", desc := "(I)V" } : Jvm.MethodName) ({ cls := "TalkKnots$Yard", name := "letGo", desc := "(I)V" } : Jvm.MethodName) ∈ kw := km0 7 rfl rfl
theorem kw_0_8 : Jvm.Cond.selects "TalkKnots$Yard" ({ cls := "TalkKnots$Yard", name := "dropMasts", desc := "()V" } : Jvm.MethodName) ({ cls := "TalkKnots$Yard", name := "dropMasts", desc := "()V" } : Jvm.MethodName) ∈ kw := km0 8 rfl rfl
theorem kw_0_9 : Jvm.Cond.selects "TalkKnots$Yard" ({ cls := "TalkKnots$Yard", name := "settleKnots", desc := "(I)V" } : Jvm.MethodName) ({ cls := "TalkKnots$Yard", name := "settleKnots", desc := "(I)V" } : Jvm.MethodName) ∈ kw := km0 9 rfl rfl
theorem kw_0_10 : Jvm.Cond.selects "TalkKnots$TextReader" ({ cls := "TalkKnots$TextReader", name := "readToken", desc := "()V" } : Jvm.MethodName) ({ cls := "TalkKnots$TextReader", name := "readToken", desc := "()V" } : Jvm.MethodName) ∈ kw := km0 10 rfl rfl
theorem kw_0_11 : Jvm.Cond.selects "TalkKnots$TextReader" ({ cls := "TalkKnots$TextReader", name := "readItem", desc := "()Z" } : Jvm.MethodName) ({ cls := "TalkKnots$TextReader", name := "readItem", desc := "()Z" } : Jvm.MethodName) ∈ kw := km0 11 rfl rfl
theorem kw_0_12 : Jvm.Cond.selects "TalkKnots$TextReader" ({ cls := "TalkKnots$TextReader", name := "takeWord", desc := "(Ljava/lang/String;)Z" } : Jvm.MethodName) ({ cls := "TalkKnots$TextReader", name := "takeWord", desc := "(Ljava/lang/String;)Z" } : Jvm.MethodName) ∈ kw := km0 12 rfl rfl
theorem kw_0_13 : Jvm.Cond.selects "TalkKnots$TextReader" ({ cls := "TalkKnots$TextReader", name := "isWord", desc := "(Ljava/lang/String;)Z" } : Jvm.MethodName) ({ cls := "TalkKnots$TextReader", name := "isWord", desc := "(Ljava/lang/String;)Z" } : Jvm.MethodName) ∈ kw := km0 13 rfl rfl
theorem kw_0_14 : Jvm.Cond.selects "TalkKnots$TextReader" ({ cls := "TalkKnots$TextReader", name := "readMast", desc := "()Z" } : Jvm.MethodName) ({ cls := "TalkKnots$TextReader", name := "readMast", desc := "()Z" } : Jvm.MethodName) ∈ kw := km0 14 rfl rfl
theorem kw_0_15 : Jvm.Cond.selects "TalkKnots$TextReader" ({ cls := "TalkKnots$TextReader", name := "takeNumber", desc := "(I)Z" } : Jvm.MethodName) ({ cls := "TalkKnots$TextReader", name := "takeNumber", desc := "(I)Z" } : Jvm.MethodName) ∈ kw := km0 15 rfl rfl
theorem kw_0_16 : Jvm.Cond.selects "TalkKnots$TextReader" ({ cls := "TalkKnots$TextReader", name := "readWind", desc := "()Z" } : Jvm.MethodName) ({ cls := "TalkKnots$TextReader", name := "readWind", desc := "()Z" } : Jvm.MethodName) ∈ kw := km0 16 rfl rfl
theorem kw_0_17 : Jvm.Cond.selects "TalkKnots$TextReader" ({ cls := "TalkKnots$TextReader", name := "readTease", desc := "()Z" } : Jvm.MethodName) ({ cls := "TalkKnots$TextReader", name := "readTease", desc := "()Z" } : Jvm.MethodName) ∈ kw := km0 17 rfl rfl
theorem kw_0_18 : Jvm.Cond.selects "TalkKnots$TextReader" ({ cls := "TalkKnots$TextReader", name := "readKnot", desc := "()Z" } : Jvm.MethodName) ({ cls := "TalkKnots$TextReader", name := "readKnot", desc := "()Z" } : Jvm.MethodName) ∈ kw := km0 18 rfl rfl
theorem kw_0_19 : Jvm.Cond.selects "TalkKnots$TextReader" ({ cls := "TalkKnots$TextReader", name := "kindTold", desc := "()I" } : Jvm.MethodName) ({ cls := "TalkKnots$TextReader", name := "kindTold", desc := "()I" } : Jvm.MethodName) ∈ kw := km0 19 rfl rfl
theorem kw_0_20 : Jvm.Cond.selects "TalkKnots" ({ cls := "TalkKnots", name := "goesAsTold", desc := "(LTalkKnots$Sheet;III)Z" } : Jvm.MethodName) ({ cls := "TalkKnots", name := "goesAsTold", desc := "(LTalkKnots$Sheet;III)Z" } : Jvm.MethodName) ∈ kw := km0 20 rfl rfl
theorem kw_0_21 : Jvm.Cond.selects "TalkKnots" ({ cls := "TalkKnots", name := "allTold", desc := "()I" } : Jvm.MethodName) ({ cls := "TalkKnots", name := "allTold", desc := "()I" } : Jvm.MethodName) ∈ kw := km0 21 rfl rfl
theorem kw_0_22 : Jvm.Cond.selects "TalkKnotsModel" ({ cls := "TalkKnotsModel", name := "puts1", desc := "(III)V" } : Jvm.MethodName) ({ cls := "TalkKnotsModel", name := "puts1", desc := "(III)V" } : Jvm.MethodName) ∈ kw := km0 22 rfl rfl
theorem kw_0_23 : Jvm.Cond.selects "TalkKnotsModel" ({ cls := "TalkKnotsModel", name := "becomes", desc := "(II)I" } : Jvm.MethodName) ({ cls := "TalkKnotsModel", name := "becomes", desc := "(II)I" } : Jvm.MethodName) ∈ kw := km0 23 rfl rfl
theorem kw_0_24 : Jvm.Cond.selects "TalkKnotsModel" ({ cls := "TalkKnotsModel", name := "finds", desc := "(I)I" } : Jvm.MethodName) ({ cls := "TalkKnotsModel", name := "finds", desc := "(I)I" } : Jvm.MethodName) ∈ kw := km0 24 rfl rfl
theorem kw_0_25 : Jvm.Cond.selects "TalkKnotsModel" ({ cls := "TalkKnotsModel", name := "ofMast", desc := "(II)I" } : Jvm.MethodName) ({ cls := "TalkKnotsModel", name := "ofMast", desc := "(II)I" } : Jvm.MethodName) ∈ kw := km0 25 rfl rfl
theorem kw_0_26 : Jvm.Cond.selects "TalkKnotsModel" ({ cls := "TalkKnotsModel", name := "knotsOf", desc := "(IZ)I" } : Jvm.MethodName) ({ cls := "TalkKnotsModel", name := "knotsOf", desc := "(IZ)I" } : Jvm.MethodName) ∈ kw := km0 26 rfl rfl
theorem kw_0_27 : Jvm.Cond.selects "TalkKnotsModel" ({ cls := "TalkKnotsModel", name := "its", desc := "(II)I" } : Jvm.MethodName) ({ cls := "TalkKnotsModel", name := "its", desc := "(II)I" } : Jvm.MethodName) ∈ kw := km0 27 rfl rfl
theorem kw_0_28 : Jvm.Cond.selects "TalkKnotsModel" ({ cls := "TalkKnotsModel", name := "strain", desc := "(I)I" } : Jvm.MethodName) ({ cls := "TalkKnotsModel", name := "strain", desc := "(I)I" } : Jvm.MethodName) ∈ kw := km0 28 rfl rfl
theorem kw_0_29 : Jvm.Cond.selects "TalkKnotsModel" ({ cls := "TalkKnotsModel", name := "blowing", desc := "()I" } : Jvm.MethodName) ({ cls := "TalkKnotsModel", name := "blowing", desc := "()I" } : Jvm.MethodName) ∈ kw := km0 29 rfl rfl
theorem kw_0_30 : Jvm.Cond.selects "TalkKnotsModel" ({ cls := "TalkKnotsModel", name := "heldOf", desc := "(I)I" } : Jvm.MethodName) ({ cls := "TalkKnotsModel", name := "heldOf", desc := "(I)I" } : Jvm.MethodName) ∈ kw := km0 30 rfl rfl
theorem kw_0_31 : Jvm.Cond.selects "TalkKnotsModel" ({ cls := "TalkKnotsModel", name := "holding", desc := "(I)I" } : Jvm.MethodName) ({ cls := "TalkKnotsModel", name := "holding", desc := "(I)I" } : Jvm.MethodName) ∈ kw := km0 31 rfl rfl
theorem kw_0_32 : Jvm.Cond.selects "TalkKnotsModel" ({ cls := "TalkKnotsModel", name := "upSet", desc := "()I" } : Jvm.MethodName) ({ cls := "TalkKnotsModel", name := "upSet", desc := "()I" } : Jvm.MethodName) ∈ kw := km0 32 rfl rfl
theorem kw_0_33 : Jvm.Cond.selects "TalkKnotsModel" ({ cls := "TalkKnotsModel", name := "fastSet", desc := "()I" } : Jvm.MethodName) ({ cls := "TalkKnotsModel", name := "fastSet", desc := "()I" } : Jvm.MethodName) ∈ kw := km0 33 rfl rfl
theorem kw_0_34 : Jvm.Cond.selects "TalkKnotsModel" ({ cls := "TalkKnotsModel", name := "sumOf", desc := "(I)I" } : Jvm.MethodName) ({ cls := "TalkKnotsModel", name := "sumOf", desc := "(I)I" } : Jvm.MethodName) ∈ kw := km0 34 rfl rfl
theorem kw_0_35 : Jvm.Cond.selects "TalkKnotsModel" ({ cls := "TalkKnotsModel", name := "adds", desc := "(IIII)V" } : Jvm.MethodName) ({ cls := "TalkKnotsModel", name := "adds", desc := "(IIII)V" } : Jvm.MethodName) ∈ kw := km0 35 rfl rfl
theorem kw_0_36 : Jvm.Cond.selects "TalkKnotsModel" ({ cls := "TalkKnotsModel", name := "puts", desc := "(III)V" } : Jvm.MethodName) ({ cls := "TalkKnotsModel", name := "puts", desc := "(III)V" } : Jvm.MethodName) ∈ kw := km0 36 rfl rfl
theorem kw_0_37 : Jvm.Cond.selects "TalkKnotsModel" ({ cls := "TalkKnotsModel", name := "isOne", desc := "(I)Z" } : Jvm.MethodName) ({ cls := "TalkKnotsModel", name := "isOne", desc := "(I)Z" } : Jvm.MethodName) ∈ kw := km0 37 rfl rfl
theorem kw_0_38 : Jvm.Cond.selects "TalkKnotsModel" ({ cls := "TalkKnotsModel", name := "settling", desc := "(I)I" } : Jvm.MethodName) ({ cls := "TalkKnotsModel", name := "settling", desc := "(I)I" } : Jvm.MethodName) ∈ kw := km0 38 rfl rfl
theorem kw_0_39 : Jvm.Cond.selects "TalkKnotsModel" ({ cls := "TalkKnotsModel", name := "teasing", desc := "(I)I" } : Jvm.MethodName) ({ cls := "TalkKnotsModel", name := "teasing", desc := "(I)I" } : Jvm.MethodName) ∈ kw := km0 39 rfl rfl
theorem kw_0_40 : Jvm.Cond.selects "TalkKnotsModel" ({ cls := "TalkKnotsModel", name := "isGiving", desc := "(II)Z" } : Jvm.MethodName) ({ cls := "TalkKnotsModel", name := "isGiving", desc := "(II)Z" } : Jvm.MethodName) ∈ kw := km0 40 rfl rfl
theorem kw_0_41 : Jvm.Cond.selects "TalkKnotsModel" ({ cls := "TalkKnotsModel", name := "teases", desc := "(I)V" } : Jvm.MethodName) ({ cls := "TalkKnotsModel", name := "teases", desc := "(I)V" } : Jvm.MethodName) ∈ kw := km0 41 rfl rfl
theorem kw_0_42 : Jvm.Cond.selects "TalkKnotsModel" ({ cls := "TalkKnotsModel", name := "passes", desc := "(I)V" } : Jvm.MethodName) ({ cls := "TalkKnotsModel", name := "passes", desc := "(I)V" } : Jvm.MethodName) ∈ kw := km0 42 rfl rfl
theorem kw_0_43 : Jvm.Cond.selects "TalkKnotsModel" ({ cls := "TalkKnotsModel", name := "oneHour", desc := "()V" } : Jvm.MethodName) ({ cls := "TalkKnotsModel", name := "oneHour", desc := "()V" } : Jvm.MethodName) ∈ kw := km0 43 rfl rfl
theorem kw_0_44 : Jvm.Cond.selects "TalkKnotsModel" ({ cls := "TalkKnotsModel", name := "pulls", desc := "(I)V" } : Jvm.MethodName) ({ cls := "TalkKnotsModel", name := "pulls", desc := "(I)V" } : Jvm.MethodName) ∈ kw := km0 44 rfl rfl
theorem kw_0_45 : Jvm.Cond.selects "TalkKnotsModel" ({ cls := "TalkKnotsModel", name := "moveAll", desc := "(Z[I)V" } : Jvm.MethodName) ({ cls := "TalkKnotsModel", name := "moveAll", desc := "(Z[I)V" } : Jvm.MethodName) ∈ kw := km0 45 rfl rfl
theorem kw_0_46 : Jvm.Cond.selects "TalkKnotsModel" ({ cls := "TalkKnotsModel", name := "goneIn", desc := "(I)I" } : Jvm.MethodName) ({ cls := "TalkKnotsModel", name := "goneIn", desc := "(I)I" } : Jvm.MethodName) ∈ kw := km0 46 rfl rfl
theorem kw_0_47 : Jvm.Cond.selects "TalkKnotsModel" ({ cls := "TalkKnotsModel", name := "lasts", desc := "(II)Z" } : Jvm.MethodName) ({ cls := "TalkKnotsModel", name := "lasts", desc := "(II)Z" } : Jvm.MethodName) ∈ kw := km0 47 rfl rfl
theorem kw_0_48 : Jvm.Cond.selects "TalkKnotsModel" ({ cls := "TalkKnotsModel", name := "advance", desc := "()V" } : Jvm.MethodName) ({ cls := "TalkKnotsModel", name := "advance", desc := "()V" } : Jvm.MethodName) ∈ kw := km0 48 rfl rfl
theorem kw_0_49 : Jvm.Cond.selects "TalkKnotsModel" ({ cls := "TalkKnotsModel", name := "byteAt", desc := "(I)I" } : Jvm.MethodName) ({ cls := "TalkKnotsModel", name := "byteAt", desc := "(I)I" } : Jvm.MethodName) ∈ kw := km0 49 rfl rfl
theorem kw_0_50 : Jvm.Cond.selects "TalkKnotsModel" ({ cls := "TalkKnotsModel", name := "wantItem", desc := "()V" } : Jvm.MethodName) ({ cls := "TalkKnotsModel", name := "wantItem", desc := "()V" } : Jvm.MethodName) ∈ kw := km0 50 rfl rfl
theorem kw_0_51 : Jvm.Cond.selects "TalkKnotsModel" ({ cls := "TalkKnotsModel", name := "kindHere", desc := "()I" } : Jvm.MethodName) ({ cls := "TalkKnotsModel", name := "kindHere", desc := "()I" } : Jvm.MethodName) ∈ kw := km0 51 rfl rfl
theorem kw_0_52 : Jvm.Cond.selects "TalkKnotsModel" ({ cls := "TalkKnotsModel", name := "isWord", desc := "(J)Z" } : Jvm.MethodName) ({ cls := "TalkKnotsModel", name := "isWord", desc := "(J)Z" } : Jvm.MethodName) ∈ kw := km0 52 rfl rfl
theorem kw_0_53 : Jvm.Cond.selects "TalkKnotsModel" ({ cls := "TalkKnotsModel", name := "wantOne", desc := "(I)V" } : Jvm.MethodName) ({ cls := "TalkKnotsModel", name := "wantOne", desc := "(I)V" } : Jvm.MethodName) ∈ kw := km0 53 rfl rfl
theorem kw_0_54 : Jvm.Cond.selects "TalkKnotsModel" ({ cls := "TalkKnotsModel", name := "wantNumber", desc := "(II)I" } : Jvm.MethodName) ({ cls := "TalkKnotsModel", name := "wantNumber", desc := "(II)I" } : Jvm.MethodName) ∈ kw := km0 54 rfl rfl
theorem kw_0_55 : Jvm.Cond.selects "TalkKnotsModel" ({ cls := "TalkKnotsModel", name := "mayWant", desc := "(JIII)I" } : Jvm.MethodName) ({ cls := "TalkKnotsModel", name := "mayWant", desc := "(JIII)I" } : Jvm.MethodName) ∈ kw := km0 55 rfl rfl
theorem kw_0_56 : Jvm.Cond.selects "TalkKnotsModel" ({ cls := "TalkKnotsModel", name := "may", desc := "(J)Z" } : Jvm.MethodName) ({ cls := "TalkKnotsModel", name := "may", desc := "(J)Z" } : Jvm.MethodName) ∈ kw := km0 56 rfl rfl
theorem kw_0_57 : Jvm.Cond.selects "TalkKnotsModel" ({ cls := "TalkKnotsModel", name := "wantMast", desc := "()V" } : Jvm.MethodName) ({ cls := "TalkKnotsModel", name := "wantMast", desc := "()V" } : Jvm.MethodName) ∈ kw := km0 57 rfl rfl
theorem kw_0_58 : Jvm.Cond.selects "TalkKnotsModel" ({ cls := "TalkKnotsModel", name := "wantWind", desc := "()V" } : Jvm.MethodName) ({ cls := "TalkKnotsModel", name := "wantWind", desc := "()V" } : Jvm.MethodName) ∈ kw := km0 58 rfl rfl
theorem kw_0_59 : Jvm.Cond.selects "TalkKnotsModel" ({ cls := "TalkKnotsModel", name := "isPart", desc := "(III)Z" } : Jvm.MethodName) ({ cls := "TalkKnotsModel", name := "isPart", desc := "(III)Z" } : Jvm.MethodName) ∈ kw := km0 59 rfl rfl
theorem kw_0_60 : Jvm.Cond.selects "TalkKnotsModel" ({ cls := "TalkKnotsModel", name := "badSheet", desc := "(I)I" } : Jvm.MethodName) ({ cls := "TalkKnotsModel", name := "badSheet", desc := "(I)I" } : Jvm.MethodName) ∈ kw := km0 60 rfl rfl
theorem kw_0_61 : Jvm.Cond.selects "TalkKnotsModel" ({ cls := "TalkKnotsModel", name := "isSo", desc := "(II)Z" } : Jvm.MethodName) ({ cls := "TalkKnotsModel", name := "isSo", desc := "(II)Z" } : Jvm.MethodName) ∈ kw := km0 61 rfl rfl
theorem kw_0_62 : Jvm.Cond.selects "TalkKnotsModel" ({ cls := "TalkKnotsModel", name := "weights", desc := "()I" } : Jvm.MethodName) ({ cls := "TalkKnotsModel", name := "weights", desc := "()I" } : Jvm.MethodName) ∈ kw := km0 62 rfl rfl
end
section
/-! THE WORLD: 71 cells at addresses ad 0 .. ad 70, their shapes fixed, their numbers in a memory of ints and one of longs.
0 TalkKnots; 1, 16, 31 the yards (+1 winds, +2 weights, +3 knots, +4 fastOn, +5.. the ten Knots); 46 Tape, 47 its bytes; 48 TextReader; 49 sheets; 50 told; 51, 53, 55, 57 the Sheets, each with its numbers behind it;
59 TalkKnotsModel; 60 row, 61 found, 62 tried, 63 before1, 64 tape, 65 bitsOf, 66 sizeOf, 67 sheets, 68 lent, 69 image, 70 before -/
abbrev kM : Type := (Nat → Nat → Int32) × (Nat → Nat → Int64)
abbrev kG : Type := va_G × (Nat → Nat) × (Nat → ClassId) × (Nat → Nat) × (Nat → Nat)
abbrev kX := Program × Launch × Env × Room × State × MethodId × Array Value × List Frame × Method × Code
abbrev kZ := kX × kG × (Nat → Prop) × (State → Prop) × Nat × Nat
/-- the kind of a cell: 0 Knot, 1 Sheet, 2 Tape, 3 TextReader, 4 Yard, 5 TalkKnots, 6 TalkKnotsModel, 7 ints, 8 longs, 9 Knots, 10 Sheets -/
def kd (c : Nat) : Nat := if c = 0 then 5 else if c < 46 then (if (c - 1) % 15 = 0 then 4 else if (c - 1) % 15 = 3 then 9 else if (c - 1) % 15 < 5 then 7 else 0) else if c = 46 then 2 else if c = 47 then 7 else if c = 48 then 3 else if c = 49 then 10 else if c = 50 then 7 else if c < 59 then (if c % 2 = 1 then 1 else 8) else if c = 59 then 6 else if c = 67 then 8 else if c = 68 then 8 else if c < 71 then 7 else 11
def kl (c : Nat) : Nat := if c < 46 then (if (c - 1) % 15 = 1 then 12 else 4) else if c = 47 then 120 else if c = 50 then 7 else if c < 59 then 40 else if c = 61 then 7 else if c = 64 then 120 else if c = 65 then 4 else if c = 66 then 4 else if c = 67 then 160 else if c = 68 then 40 else 72
/-- the fields of an object of a kind -/
def kF (G : kG) (st : kM) (c : Nat) : Nat → List Value
  | 0 => [.int (st.1 c 0), .int (st.1 c 1), .int (st.1 c 2), .int (st.1 c 3), .int (st.1 c 4)]
  | 1 => [.int (st.1 c 0), .int (st.1 c 1), .ref (G.2.1 (c + 1))]
  | 2 => [.ref (G.2.1 47), .int (st.1 c 1)]
  | 3 => [.ref (G.2.1 46), .ref (G.2.1 16), .int (st.1 c 2), .int (st.1 c 3), .int (st.1 c 4), .int (st.1 c 5), .int (st.1 c 6)]
  | 4 => [.int (st.1 c 0), .int (st.1 c 1), .int (st.1 c 2), .ref (G.2.1 (c + 1)), .ref (G.2.1 (c + 2)), .ref (G.2.1 (c + 3)), .ref (G.2.1 (c + 4))]
  | 5 => [.ref (G.2.1 1), .ref (G.2.1 16), .ref (G.2.1 31), .int (st.1 c 3), .ref (G.2.1 46), .ref (G.2.1 48), .ref (G.2.1 49), .ref (G.2.1 50)]
  | _ => [.ref (G.2.1 60), .ref (G.2.1 61), .ref (G.2.1 62), .ref (G.2.1 63), .ref (G.2.1 64), .int (st.1 c 5), .int (st.1 c 6), .int (st.1 c 7), .int (st.1 c 8), .long (st.2 c 9), .int (st.1 c 10), .int (st.1 c 11), .ref (G.2.1 65), .ref (G.2.1 66), .ref (G.2.1 67), .ref (G.2.1 68), .ref (G.2.1 69), .ref (G.2.1 70), .int (st.1 c 18)]
/-- an array of a kind -/
def kA (G : kG) (st : kM) (c : Nat) : Nat → ClassId × vp_A
  | 7 => (G.2.2.1 0, kl c, .inl (st.1 c))
  | 8 => (G.2.2.1 1, kl c, .inr (.inl (st.2 c)))
  | 9 => (G.2.2.1 2, 10, .inr (.inr (.inr (.inr (fun i => some (G.2.1 (c + 2 + i)))))))
  | _ => (G.2.2.1 3, 4, .inr (.inr (.inr (.inr (fun i => some (G.2.1 (51 + 2 * i)))))))
def kE (G : kG) (st : kM) (c : Nat) : va_E := if kd c < 7 then .inr (kd c, kF G st c (kd c)) else .inl (kA G st c (kd c))
def kW (G : kG) (st : kM) : va_W := (List.range 71).map fun c => (G.2.1 c, kE G st c)
def kT (G : kG) : List (ClassId × FieldType) := [(G.2.2.1 0, .int), (G.2.2.1 1, .long), (G.2.2.1 2, .object "TalkKnots$Knot"), (G.2.2.1 3, .object "TalkKnots$Sheet")]
theorem kW_at {G : kG} {st : kM} {c : Nat} (h : c < 71) : (kW G st)[c]? = some (G.2.1 c, kE G st c) := by
  simp [kW, List.getElem?_map, List.getElem?_range h]
theorem kW_out {G : kG} {st : kM} {c : Nat} {q : Nat × va_E} (h : (kW G st)[c]? = some q) : c < 71 ∧ q = (G.2.1 c, kE G st c) := by
  by_cases hc : c < 71
  · rw [kW_at hc] at h
    exact ⟨hc, (Option.some.inj h).symm⟩
  · rw [List.getElem?_eq_none (by simp [kW]; omega)] at h
    cases h
theorem kW_set {G : kG} {st st' : kM} {c : Nat} {e : va_E} (hc : c < 71) (he : kE G st' c = e) (ho : ∀ b, b ≠ c → kE G st' b = kE G st b) : (kW G st).set c (G.2.1 c, e) = kW G st' := by
  apply List.ext_getElem?
  intro i
  by_cases hi : i < 71
  · rw [kW_at hi]
    by_cases hic : c = i
    · subst hic
      rw [List.getElem?_set_self (by simp [kW]; omega), he]
    · rw [List.getElem?_set_ne hic, kW_at hi, ho i (fun h => hic h.symm)]
  · rw [List.getElem?_eq_none (by simp [kW]; omega), List.getElem?_eq_none (by simp [kW]; omega)]
theorem kd_lt {c : Nat} (h : kd c < 11) : c < 71 := by
  rcases Nat.lt_or_ge c 71 with q | q
  · exact q
  · exfalso
    simp only [kd] at h
    repeat' split at h
    all_goals omega
theorem kE_obj {G : kG} {st : kM} {c k : Nat} (hk : kd c = k) (h7 : k < 7) : kE G st c = .inr (k, kF G st c k) := by rw [kE, if_pos (by omega), hk]
theorem kE_arr {G : kG} {st : kM} {c k : Nat} (hk : kd c = k) (h7 : 7 ≤ k) : kE G st c = .inl (kA G st c k) := by rw [kE, if_neg (by omega), hk]
/-- ints of a cell anew, longs of a cell anew -/
def kset (st : kM) (c : Nat) (f : Nat → Int32) : kM := (va_up st.1 c f, st.2)
def ksetL (st : kM) (c : Nat) (f : Nat → Int64) : kM := (st.1, va_up st.2 c f)
def kwr (st : kM) (c j : Nat) (x : Int32) : kM := kset st c (va_up (st.1 c) j x)
def kwl (st : kM) (c j : Nat) (x : Int64) : kM := ksetL st c (va_up (st.2 c) j x)
theorem kE_set {G : kG} {st : kM} {c : Nat} {f : Nat → Int32} (b : Nat) (h : b ≠ c) : kE G (kset st c f) b = kE G st b := by
  have h1 : (kset st c f).1 b = st.1 b := va_up_ne _ _ h
  have h2 : (kset st c f).2 = st.2 := rfl
  unfold kE
  by_cases hq : kd b < 7
  · rw [if_pos hq, if_pos hq]
    generalize kd b = k
    unfold kF
    split <;> rw [h1] <;> rw [h2]
  · rw [if_neg hq, if_neg hq]
    generalize kd b = k
    unfold kA
    split <;> first | rw [h1] | rw [h2] | rfl
theorem kE_setL {G : kG} {st : kM} {c : Nat} {f : Nat → Int64} (b : Nat) (h : b ≠ c) : kE G (ksetL st c f) b = kE G st b := by
  have h1 : (ksetL st c f).1 = st.1 := rfl
  have h2 : (ksetL st c f).2 b = st.2 b := va_up_ne _ _ h
  unfold kE
  by_cases hq : kd b < 7
  · rw [if_pos hq, if_pos hq]
    generalize kd b = k
    unfold kF
    split <;> rw [h1] <;> rw [h2]
  · rw [if_neg hq, if_neg hq]
    generalize kd b = k
    unfold kA
    split <;> first | rw [h1] | rw [h2] | rfl
-- which cells are what
def yd (c : Nat) : Prop := c = 1 ∨ c = 16 ∨ c = 31
def sd (c : Nat) : Prop := c = 51 ∨ c = 53 ∨ c = 55 ∨ c = 57
theorem yd_4 {c : Nat} (h : yd c) : kd c = 4 := by rcases h with rfl | rfl | rfl <;> rfl
theorem yd_w {c : Nat} (h : yd c) : kd (c + 1) = 7 ∧ kl (c + 1) = 12 := by rcases h with rfl | rfl | rfl <;> exact ⟨rfl, rfl⟩
theorem yd_g {c : Nat} (h : yd c) : kd (c + 2) = 7 ∧ kl (c + 2) = 4 := by rcases h with rfl | rfl | rfl <;> exact ⟨rfl, rfl⟩
theorem yd_k {c : Nat} (h : yd c) : kd (c + 3) = 9 := by rcases h with rfl | rfl | rfl <;> rfl
theorem yd_f {c : Nat} (h : yd c) : kd (c + 4) = 7 ∧ kl (c + 4) = 4 := by rcases h with rfl | rfl | rfl <;> exact ⟨rfl, rfl⟩
theorem kd_0 : ∀ c, c < 10 → kd (6 + c) = 0 ∧ kd (21 + c) = 0 ∧ kd (36 + c) = 0 := by decide
theorem yd_n {c i : Nat} (h : yd c) (hi : i < 10) : kd (c + 5 + i) = 0 := by rcases h with rfl | rfl | rfl; exact (kd_0 i hi).1; exact (kd_0 i hi).2.1; exact (kd_0 i hi).2.2
theorem sd_1 {c : Nat} (h : sd c) : kd c = 1 := by rcases h with rfl | rfl | rfl | rfl <;> rfl
theorem sd_n {c : Nat} (h : sd c) : kd (c + 1) = 8 ∧ kl (c + 1) = 40 := by rcases h with rfl | rfl | rfl | rfl <;> exact ⟨rfl, rfl⟩
theorem sd_of {i : Nat} (h : i < 4) : sd (51 + 2 * i) := by unfold sd; omega
theorem yd_1 : yd 1 := Or.inl rfl
theorem yd_16 : yd 16 := Or.inr (Or.inl rfl)
theorem yd_31 : yd 31 := Or.inr (Or.inr rfl)
theorem vi_lt {i : Int32} {n : Nat} (h : ¬ (i < 0 ∨ n ≤ i.toNatClampNeg)) : i.toNatClampNeg < n := Nat.lt_of_not_le fun q => h (Or.inr q)
/-- the strings of TextReader: entries, texts, lengths, bytes: 0 mast, 1 down, 2 wind, 3 tease, 4 splice, 5 hitch, 6 fool, 7 hawser, 8 vow, 9 knot, 10 open, 11 loose -/
def kSi (i : Nat) : Nat := ([42, 74, 51, 56, 123, 125, 127, 129, 131, 133, 106, 110] : List Nat).getD i 0
def kSt (i : Nat) : String := (["mast", "down", "wind", "tease", "splice", "hitch", "fool", "hawser", "vow", "knot", "open", "loose"] : List String).getD i ""
def kLen : List Nat := [4, 4, 4, 5, 6, 5, 4, 6, 3, 4, 4, 5]
def kByt : List (List Int32) := [[109, 97, 115, 116], [100, 111, 119, 110], [119, 105, 110, 100], [116, 101, 97, 115, 101], [115, 112, 108, 105, 99, 101], [104, 105, 116, 99, 104], [102, 111, 111, 108], [104, 97, 119, 115, 101, 114], [118, 111, 119], [107, 110, 111, 116], [111, 112, 101, 110], [108, 111, 111, 115, 101]]
def kSn : Nat := 12
end
section
/-! the judgement kV: at pc, with these locals and this stack, over this memory, the machine comes to its end; its rows, one an instruction -/
abbrev kzP (Z : kZ) : Program := Z.1.1
abbrev kzR (Z : kZ) : Room := Z.1.2.2.2.1
abbrev kzS (Z : kZ) : State := Z.1.2.2.2.2.1
abbrev kzM (Z : kZ) : MethodId := Z.1.2.2.2.2.2.1
abbrev kzV (Z : kZ) : Array Value := Z.1.2.2.2.2.2.2.1
abbrev kzB (Z : kZ) : List Frame := Z.1.2.2.2.2.2.2.2.1
abbrev kzH (Z : kZ) : Method := Z.1.2.2.2.2.2.2.2.2.1
abbrev kzC (Z : kZ) : Code := Z.1.2.2.2.2.2.2.2.2.2
abbrev kzG (Z : kZ) : kG := Z.2.1
abbrev kzA (Z : kZ) : Nat → Prop := Z.2.2.1
abbrev kzQ (Z : kZ) : State → Prop := Z.2.2.2.1
abbrev kzc (Z : kZ) : Nat := Z.2.2.2.2.1
abbrev kzs (Z : kZ) : Nat := Z.2.2.2.2.2
abbrev kr (Z : kZ) (c : Nat) : Value := .ref (Z.2.1.2.1 c)
/-- a string of TextReader -/
abbrev ks (Z : kZ) (i : Nat) : Value := .ref (Z.2.1.2.2.2.1 i)
abbrev kWW (Z : kZ) (H : Heap) (locs : List Loc) (g : JFrame) : Prop := W (kzP Z) Z.1.2.1 Z.1.2.2.1 (kzR Z) (kzS Z) (kzM Z) (kzV Z) (kzB Z) (kzH Z) (kzC Z) H locs (kzc Z) (kzs Z) (kzQ Z) g
def kV (Z : kZ) (nL pc : Nat) (lv : List (Nat × Value)) (stk : List Value) (st : kM) : Prop :=
  ∀ (H : Heap) (locs : List Loc) (ls : Array Slot), va_P (kzG Z).1 vwCl (kW (kzG Z) st) H → va_S (kzA Z) (kzS Z).heap H locs → lv_has ls nL lv → kWW Z H locs (F0 (kzM Z) pc ls stk)
/-- what a method finds of the tables and of what it never changes -/
def kFx (G : kG) (A : Nat → Prop) (s : State) : Prop :=
  va_K G.1 vwCl (kT G) s ∧ (∀ i j : Nat, i < 71 → j < 71 → G.2.1 i = G.2.1 j → i = j) ∧ (∀ i : Nat, i < 71 → A (G.2.1 i)) ∧ (∀ q : Nat, s.heap.size ≤ q → A q) ∧
  vk_S kSn kLen kByt G.2.2.2.1 G.2.2.2.2 A s s.heap ∧ (∀ i : Nat, i < kSn → vk_R RX3 (kSi i) (kSt i) (G.2.2.2.1 i) s) ∧
  va_Z "java/lang/String" "COMPACT_STRINGS" "Z" (.int 1) A s s.heap ∧ va_Zq "jdk/internal/util/Preconditions" "SIOOBE_FORMATTER" "Ljava/util/function/BiFunction;" A s s.heap
def kC (Z : kZ) (cc : ByteArray) (own : String) (nL : Nat) (rm : Room) : Prop :=
  (kzP Z).tables.exec = Jvm.exec ∧ (kzC Z).code = cc ∧ (kzC Z).maxLocals = nL ∧ (kzS Z).vm.findClass own = some (kzM Z).cls ∧ (∀ w ∈ kw, w.before (kzV Z) (kzS Z) = true) ∧ kzR Z = rm ∧ (kzc Z ≤ rm.cells ∧ kzs Z ≤ rm.slots) ∧ kFx (kzG Z) (kzA Z) (kzS Z)
section
variable {Z : kZ} {cc : ByteArray} {own : String} {nL pc pc' : Nat} {rm : Room} {lv lv' : List (Nat × Value)} {stk : List Value} {st st' : kM}
theorem kC.exec (C : kC Z cc own nL rm) : (kzP Z).tables.exec = Jvm.exec := C.1
theorem kC.bytes (C : kC Z cc own nL rm) : (kzC Z).code = cc := C.2.1
theorem kC.maxL (C : kC Z cc own nL rm) : (kzC Z).maxLocals = nL := C.2.2.1
theorem kC.hown (C : kC Z cc own nL rm) : (kzS Z).vm.findClass own = some (kzM Z).cls := C.2.2.2.1
theorem kC.hts (C : kC Z cc own nL rm) : ∀ w ∈ kw, w.before (kzV Z) (kzS Z) = true := C.2.2.2.2.1
theorem kC.room (C : kC Z cc own nL rm) : kzR Z = rm := C.2.2.2.2.2.1
theorem kC.cs (C : kC Z cc own nL rm) : kzc Z ≤ rm.cells ∧ kzs Z ≤ rm.slots := C.2.2.2.2.2.2.1
theorem kC.fx (C : kC Z cc own nL rm) : kFx (kzG Z) (kzA Z) (kzS Z) := C.2.2.2.2.2.2.2
theorem kC.K (C : kC Z cc own nL rm) : va_K (kzG Z).1 vwCl (kT (kzG Z)) (kzS Z) := C.fx.1
theorem kC.D (C : kC Z cc own nL rm) (st : kM) : va_D (kzA Z) (kW (kzG Z) st) :=
  ⟨fun i j p q hi hj e => by
    obtain ⟨h1, rfl⟩ := kW_out hi
    obtain ⟨h2, rfl⟩ := kW_out hj
    exact C.fx.2.1 i j h1 h2 e, fun k q hk => by
    obtain ⟨h1, rfl⟩ := kW_out hk
    exact C.fx.2.2.1 k h1⟩
-- constants
theorem k_iconst (C : kC Z cc own nL rm) {n : Int} (v : Int32) (hdg : decode cc pc = .ok (.iconst n, 1)) (hv : Int32.ofInt n = v) (hp : pc + 1 = pc') (k : kV Z nL pc' lv (.int v :: stk) st) : kV Z nL pc lv stk st := fun H locs ls hP hS hl => lv_iconst C.exec C.bytes hdg hv (hp ▸ k H locs ls hP hS hl)
theorem k_bipush (C : kC Z cc own nL rm) {n : Int} (v : Int32) (hdg : decode cc pc = .ok (.bipush n, 2)) (hv : (Int8.ofInt n).toInt32 = v) (hp : pc + 2 = pc') (k : kV Z nL pc' lv (.int v :: stk) st) : kV Z nL pc lv stk st := fun H locs ls hP hS hl => lv_bipush C.exec C.bytes hdg hv (hp ▸ k H locs ls hP hS hl)
theorem k_sipush (C : kC Z cc own nL rm) {n : Int} (v : Int32) (hdg : decode cc pc = .ok (.sipush n, 3)) (hv : (Int16.ofInt n).toInt32 = v) (hp : pc + 3 = pc') (k : kV Z nL pc' lv (.int v :: stk) st) : kV Z nL pc lv stk st := fun H locs ls hP hS hl => lv_sipush C.exec C.bytes hdg hv (hp ▸ k H locs ls hP hS hl)
theorem k_lconst (C : kC Z cc own nL rm) {n : Fin 2} (v : Int64) (hdg : decode cc pc = .ok (.lconst n, 1)) (hv : Int64.ofNat (n : Nat) = v) (hp : pc + 1 = pc') (k : kV Z nL pc' lv (.long v :: stk) st) : kV Z nL pc lv stk st := fun H locs ls hP hS hl => lv_lconst C.exec C.bytes hdg hv (hp ▸ k H locs ls hP hS hl)
theorem k_ldc (C : kC Z cc own nL rm) {index : Nat} (v : Int32) (hw : Cond.constant own index v ∈ kw) (hdg : decode cc pc = .ok (.ldc index, 2)) (hp : pc + 2 = pc') (k : kV Z nL pc' lv (.int v :: stk) st) : kV Z nL pc lv stk st := fun H locs ls hP hS hl => lv_ldc C.exec C.bytes C.hown (C.hts _ hw) hdg (hp ▸ k H locs ls hP hS hl)
theorem k_ldc2 (C : kC Z cc own nL rm) {index : Nat} (v : Int64) (hw : Cond.constantLong own index v ∈ kw) (hdg : decode cc pc = .ok (.ldc2_w index, 3)) (hp : pc + 3 = pc') (k : kV Z nL pc' lv (.long v :: stk) st) : kV Z nL pc lv stk st := fun H locs ls hP hS hl => lv_ldc2 C.exec C.bytes C.hown (C.hts _ hw) hdg (hp ▸ k H locs ls hP hS hl)
-- locals
theorem k_iload_n (C : kC Z cc own nL rm) {q : Fin 4} {i : Nat} {x : Int32} (j : Nat) (hdg : decode cc pc = .ok (.iload_n q, 1)) (hi : (q : Nat) = i) (hj : lv[j]? = some (i, .int x)) (hp : pc + 1 = pc') (k : kV Z nL pc' lv (.int x :: stk) st) : kV Z nL pc lv stk st := fun H locs ls hP hS hl => lv_iload_n C.exec C.bytes hdg hi (lv_at hl j hj) (hp ▸ k H locs ls hP hS hl)
theorem k_iload (C : kC Z cc own nL rm) {i : Nat} {x : Int32} (j : Nat) (hdg : decode cc pc = .ok (.iload i, 2)) (hj : lv[j]? = some (i, .int x)) (hp : pc + 2 = pc') (k : kV Z nL pc' lv (.int x :: stk) st) : kV Z nL pc lv stk st := fun H locs ls hP hS hl => lv_iload C.exec C.bytes hdg (lv_at hl j hj) (hp ▸ k H locs ls hP hS hl)
theorem k_lload_n (C : kC Z cc own nL rm) {q : Fin 4} {i : Nat} {x : Int64} (j : Nat) (hdg : decode cc pc = .ok (.lload_n q, 1)) (hi : (q : Nat) = i) (hj : lv[j]? = some (i, .long x)) (hp : pc + 1 = pc') (k : kV Z nL pc' lv (.long x :: stk) st) : kV Z nL pc lv stk st := fun H locs ls hP hS hl => lv_lload_n C.exec C.bytes hdg hi (lv_at hl j hj) (hp ▸ k H locs ls hP hS hl)
theorem k_lload (C : kC Z cc own nL rm) {i : Nat} {x : Int64} (j : Nat) (hdg : decode cc pc = .ok (.lload i, 2)) (hj : lv[j]? = some (i, .long x)) (hp : pc + 2 = pc') (k : kV Z nL pc' lv (.long x :: stk) st) : kV Z nL pc lv stk st := fun H locs ls hP hS hl => lv_lload C.exec C.bytes hdg (lv_at hl j hj) (hp ▸ k H locs ls hP hS hl)
theorem k_aload_n (C : kC Z cc own nL rm) {q : Fin 4} {i : Nat} {a : Nat} (j : Nat) (hdg : decode cc pc = .ok (.aload_n q, 1)) (hi : (q : Nat) = i) (hj : lv[j]? = some (i, .ref a)) (hp : pc + 1 = pc') (k : kV Z nL pc' lv (.ref a :: stk) st) : kV Z nL pc lv stk st := fun H locs ls hP hS hl => lv_aload_n C.exec C.bytes hdg hi (lv_at hl j hj) (hp ▸ k H locs ls hP hS hl)
theorem k_aload (C : kC Z cc own nL rm) {i : Nat} {a : Nat} (j : Nat) (hdg : decode cc pc = .ok (.aload i, 2)) (hj : lv[j]? = some (i, .ref a)) (hp : pc + 2 = pc') (k : kV Z nL pc' lv (.ref a :: stk) st) : kV Z nL pc lv stk st := fun H locs ls hP hS hl => lv_aload C.exec C.bytes hdg (lv_at hl j hj) (hp ▸ k H locs ls hP hS hl)
theorem k_istore_n (C : kC Z cc own nL rm) {q : Fin 4} {i : Nat} {x : Int32} (hdg : decode cc pc = .ok (.istore_n q, 1)) (hi : (q : Nat) = i) (hn : i < nL) (hl' : (i, Value.int x) :: lv.filter (fun q => !(q.1 == i) && !(q.1 + 1 == i && q.2.category == 2)) = lv') (hp : pc + 1 = pc') (k : kV Z nL pc' lv' stk st) : kV Z nL pc lv (.int x :: stk) st := fun H locs ls hP hS hl => lv_istore_n C.exec C.bytes hdg hi hl hn hl' (fun ls' h' => hp ▸ k H locs ls' hP hS h')
theorem k_istore (C : kC Z cc own nL rm) {i : Nat} {x : Int32} (hdg : decode cc pc = .ok (.istore i, 2)) (hn : i < nL) (hl' : (i, Value.int x) :: lv.filter (fun q => !(q.1 == i) && !(q.1 + 1 == i && q.2.category == 2)) = lv') (hp : pc + 2 = pc') (k : kV Z nL pc' lv' stk st) : kV Z nL pc lv (.int x :: stk) st := fun H locs ls hP hS hl => lv_istore C.exec C.bytes hdg hl hn hl' (fun ls' h' => hp ▸ k H locs ls' hP hS h')
theorem k_iinc (C : kC Z cc own nL rm) {i : Nat} {n : Int} {x : Int32} (v : Int32) (j : Nat) (hdg : decode cc pc = .ok (.iinc i n, 3)) (hj : lv[j]? = some (i, .int x)) (hv : x + Int32.ofInt n = v) (hn : i < nL) (hl' : (i, Value.int v) :: lv.filter (fun q => !(q.1 == i) && !(q.1 + 1 == i && q.2.category == 2)) = lv') (hp : pc + 3 = pc') (k : kV Z nL pc' lv' stk st) : kV Z nL pc lv stk st := fun H locs ls hP hS hl => lv_iinc C.exec C.bytes hdg hl hj hv hn hl' (fun ls' h' => hp ▸ k H locs ls' hP hS h')
/-- the locals in another order, or fewer -/
theorem k_lv (ps : List Nat) (h : lv_pick lv ps = lv') (k : kV Z nL pc lv' stk st) : kV Z nL pc lv stk st := fun H locs ls hP hS hl => k H locs ls hP hS (lv_sub hl ps h)
end
end
section
section
variable {Z : kZ} {cc : ByteArray} {own : String} {nL pc pc' : Nat} {rm : Room} {lv lv' : List (Nat × Value)} {stk : List Value} {st st' : kM}
theorem k_iadd (C : kC Z cc own nL rm) {x y : Int32} (hdg : decode cc pc = .ok (.iadd, 1)) (hp : pc + 1 = pc') (k : kV Z nL pc' lv (.int (x + y) :: stk) st) : kV Z nL pc lv (.int y :: .int x :: stk) st := fun H locs ls hP hS hl => lv_iadd C.exec C.bytes hdg (hp ▸ k H locs ls hP hS hl)
theorem k_isub (C : kC Z cc own nL rm) {x y : Int32} (hdg : decode cc pc = .ok (.isub, 1)) (hp : pc + 1 = pc') (k : kV Z nL pc' lv (.int (x - y) :: stk) st) : kV Z nL pc lv (.int y :: .int x :: stk) st := fun H locs ls hP hS hl => lv_isub C.exec C.bytes hdg (hp ▸ k H locs ls hP hS hl)
theorem k_imul (C : kC Z cc own nL rm) {x y : Int32} (hdg : decode cc pc = .ok (.imul, 1)) (hp : pc + 1 = pc') (k : kV Z nL pc' lv (.int (x * y) :: stk) st) : kV Z nL pc lv (.int y :: .int x :: stk) st := fun H locs ls hP hS hl => lv_imul C.exec C.bytes hdg (hp ▸ k H locs ls hP hS hl)
theorem k_iand (C : kC Z cc own nL rm) {x y : Int32} (hdg : decode cc pc = .ok (.iand, 1)) (hp : pc + 1 = pc') (k : kV Z nL pc' lv (.int (x &&& y) :: stk) st) : kV Z nL pc lv (.int y :: .int x :: stk) st := fun H locs ls hP hS hl => lv_iand C.exec C.bytes hdg (hp ▸ k H locs ls hP hS hl)
theorem k_ior (C : kC Z cc own nL rm) {x y : Int32} (hdg : decode cc pc = .ok (.ior, 1)) (hp : pc + 1 = pc') (k : kV Z nL pc' lv (.int (x ||| y) :: stk) st) : kV Z nL pc lv (.int y :: .int x :: stk) st := fun H locs ls hP hS hl => lv_ior C.exec C.bytes hdg (hp ▸ k H locs ls hP hS hl)
theorem k_ixor (C : kC Z cc own nL rm) {x y : Int32} (hdg : decode cc pc = .ok (.ixor, 1)) (hp : pc + 1 = pc') (k : kV Z nL pc' lv (.int (x ^^^ y) :: stk) st) : kV Z nL pc lv (.int y :: .int x :: stk) st := fun H locs ls hP hS hl => lv_ixor C.exec C.bytes hdg (hp ▸ k H locs ls hP hS hl)
theorem k_ishl (C : kC Z cc own nL rm) {x y : Int32} (hdg : decode cc pc = .ok (.ishl, 1)) (hp : pc + 1 = pc') (k : kV Z nL pc' lv (.int (x <<< (y &&& 31)) :: stk) st) : kV Z nL pc lv (.int y :: .int x :: stk) st := fun H locs ls hP hS hl => lv_ishl C.exec C.bytes hdg (hp ▸ k H locs ls hP hS hl)
theorem k_ishr (C : kC Z cc own nL rm) {x y : Int32} (hdg : decode cc pc = .ok (.ishr, 1)) (hp : pc + 1 = pc') (k : kV Z nL pc' lv (.int (x >>> (y &&& 31)) :: stk) st) : kV Z nL pc lv (.int y :: .int x :: stk) st := fun H locs ls hP hS hl => lv_ishr C.exec C.bytes hdg (hp ▸ k H locs ls hP hS hl)
theorem k_iushr (C : kC Z cc own nL rm) {x y : Int32} (hdg : decode cc pc = .ok (.iushr, 1)) (hp : pc + 1 = pc') (k : kV Z nL pc' lv (.int ((x.toUInt32 >>> (y.toUInt32 &&& Int32.toUInt32 31)).toInt32) :: stk) st) : kV Z nL pc lv (.int y :: .int x :: stk) st := fun H locs ls hP hS hl => lv_iushr C.exec C.bytes hdg rfl (hp ▸ k H locs ls hP hS hl)
theorem k_idiv (C : kC Z cc own nL rm) {x y : Int32} (hne : ¬ y = 0) (hdg : decode cc pc = .ok (.idiv, 1)) (hp : pc + 1 = pc') (k : kV Z nL pc' lv (.int (x / y) :: stk) st) : kV Z nL pc lv (.int y :: .int x :: stk) st := fun H locs ls hP hS hl => lv_idiv C.exec C.bytes hdg hne (hp ▸ k H locs ls hP hS hl)
theorem k_irem (C : kC Z cc own nL rm) {x y : Int32} (hne : ¬ y = 0) (hdg : decode cc pc = .ok (.irem, 1)) (hp : pc + 1 = pc') (k : kV Z nL pc' lv (.int (x - x / y * y) :: stk) st) : kV Z nL pc lv (.int y :: .int x :: stk) st := fun H locs ls hP hS hl => lv_irem C.exec C.bytes hdg hne (hp ▸ k H locs ls hP hS hl)
theorem k_ineg (C : kC Z cc own nL rm) {x : Int32} (hdg : decode cc pc = .ok (.ineg, 1)) (hp : pc + 1 = pc') (k : kV Z nL pc' lv (.int (-x) :: stk) st) : kV Z nL pc lv (.int x :: stk) st := fun H locs ls hP hS hl => lv_ineg C.exec C.bytes hdg (hp ▸ k H locs ls hP hS hl)
theorem k_ladd (C : kC Z cc own nL rm) {x y : Int64} (hdg : decode cc pc = .ok (.ladd, 1)) (hp : pc + 1 = pc') (k : kV Z nL pc' lv (.long (x + y) :: stk) st) : kV Z nL pc lv (.long y :: .long x :: stk) st := fun H locs ls hP hS hl => lv_ladd C.exec C.bytes hdg (hp ▸ k H locs ls hP hS hl)
theorem k_lsub (C : kC Z cc own nL rm) {x y : Int64} (hdg : decode cc pc = .ok (.lsub, 1)) (hp : pc + 1 = pc') (k : kV Z nL pc' lv (.long (x - y) :: stk) st) : kV Z nL pc lv (.long y :: .long x :: stk) st := fun H locs ls hP hS hl => lv_lsub C.exec C.bytes hdg (hp ▸ k H locs ls hP hS hl)
theorem k_lmul (C : kC Z cc own nL rm) {x y : Int64} (hdg : decode cc pc = .ok (.lmul, 1)) (hp : pc + 1 = pc') (k : kV Z nL pc' lv (.long (x * y) :: stk) st) : kV Z nL pc lv (.long y :: .long x :: stk) st := fun H locs ls hP hS hl => lv_lmul C.exec C.bytes hdg (hp ▸ k H locs ls hP hS hl)
theorem k_land (C : kC Z cc own nL rm) {x y : Int64} (hdg : decode cc pc = .ok (.land, 1)) (hp : pc + 1 = pc') (k : kV Z nL pc' lv (.long (x &&& y) :: stk) st) : kV Z nL pc lv (.long y :: .long x :: stk) st := fun H locs ls hP hS hl => lv_land C.exec C.bytes hdg (hp ▸ k H locs ls hP hS hl)
theorem k_lor (C : kC Z cc own nL rm) {x y : Int64} (hdg : decode cc pc = .ok (.lor, 1)) (hp : pc + 1 = pc') (k : kV Z nL pc' lv (.long (x ||| y) :: stk) st) : kV Z nL pc lv (.long y :: .long x :: stk) st := fun H locs ls hP hS hl => lv_lor C.exec C.bytes hdg (hp ▸ k H locs ls hP hS hl)
theorem k_lshl (C : kC Z cc own nL rm) {x : Int64} {y : Int32} (hdg : decode cc pc = .ok (.lshl, 1)) (hp : pc + 1 = pc') (k : kV Z nL pc' lv (.long (x <<< (y.toInt64 &&& 63)) :: stk) st) : kV Z nL pc lv (.int y :: .long x :: stk) st := fun H locs ls hP hS hl => lv_lshl C.exec C.bytes hdg rfl (hp ▸ k H locs ls hP hS hl)
theorem k_lshr (C : kC Z cc own nL rm) {x : Int64} {y : Int32} (hdg : decode cc pc = .ok (.lshr, 1)) (hp : pc + 1 = pc') (k : kV Z nL pc' lv (.long (x >>> (y.toInt64 &&& 63)) :: stk) st) : kV Z nL pc lv (.int y :: .long x :: stk) st := fun H locs ls hP hS hl => lv_lshr C.exec C.bytes hdg rfl (hp ▸ k H locs ls hP hS hl)
theorem k_lcmp (C : kC Z cc own nL rm) {x y : Int64} (hdg : decode cc pc = .ok (.lcmp, 1)) (hp : pc + 1 = pc') (k : kV Z nL pc' lv (.int (lg_cmp x y) :: stk) st) : kV Z nL pc lv (.long y :: .long x :: stk) st := fun H locs ls hP hS hl => W.lcmp C.exec C.bytes hdg (hp ▸ k H locs ls hP hS hl)
theorem k_i2l (C : kC Z cc own nL rm) {x : Int32} (hdg : decode cc pc = .ok (.i2l, 1)) (hp : pc + 1 = pc') (k : kV Z nL pc' lv (.long x.toInt64 :: stk) st) : kV Z nL pc lv (.int x :: stk) st := fun H locs ls hP hS hl => lv_i2l C.exec C.bytes hdg rfl (hp ▸ k H locs ls hP hS hl)
theorem k_l2i (C : kC Z cc own nL rm) {x : Int64} (hdg : decode cc pc = .ok (.l2i, 1)) (hp : pc + 1 = pc') (k : kV Z nL pc' lv (.int x.toInt32 :: stk) st) : kV Z nL pc lv (.long x :: stk) st := fun H locs ls hP hS hl => lv_l2i C.exec C.bytes hdg rfl (hp ▸ k H locs ls hP hS hl)
theorem k_i2b (C : kC Z cc own nL rm) {x : Int32} (hdg : decode cc pc = .ok (.i2b, 1)) (hp : pc + 1 = pc') (k : kV Z nL pc' lv (.int x.toInt8.toInt32 :: stk) st) : kV Z nL pc lv (.int x :: stk) st := fun H locs ls hP hS hl => lv_i2b C.exec C.bytes hdg rfl (hp ▸ k H locs ls hP hS hl)
theorem k_i2s (C : kC Z cc own nL rm) {x : Int32} (hdg : decode cc pc = .ok (.i2s, 1)) (hp : pc + 1 = pc') (k : kV Z nL pc' lv (.int x.toInt16.toInt32 :: stk) st) : kV Z nL pc lv (.int x :: stk) st := fun H locs ls hP hS hl => lv_i2s C.exec C.bytes hdg rfl (hp ▸ k H locs ls hP hS hl)
theorem k_dup (C : kC Z cc own nL rm) {va : Value} (hva : va.category = 1) (hdg : decode cc pc = .ok (.dup, 1)) (hp : pc + 1 = pc') (k : kV Z nL pc' lv (va :: va :: stk) st) : kV Z nL pc lv (va :: stk) st := fun H locs ls hP hS hl => lv_dup C.exec C.bytes hdg hva (hp ▸ k H locs ls hP hS hl)
theorem k_pop (C : kC Z cc own nL rm) {va : Value} (hva : va.category = 1) (hdg : decode cc pc = .ok (.pop, 1)) (hp : pc + 1 = pc') (k : kV Z nL pc' lv (stk) st) : kV Z nL pc lv (va :: stk) st := fun H locs ls hP hS hl => lv_pop C.exec C.bytes hdg hva (hp ▸ k H locs ls hP hS hl)
theorem k_dup2 (C : kC Z cc own nL rm) {va vb : Value} (hva : va.category = 1) (hvb : vb.category = 1) (hdg : decode cc pc = .ok (.dup2, 1)) (hp : pc + 1 = pc') (k : kV Z nL pc' lv (va :: vb :: va :: vb :: stk) st) : kV Z nL pc lv (va :: vb :: stk) st := fun H locs ls hP hS hl => lv_dup2_11 C.exec C.bytes hdg hva hvb (hp ▸ k H locs ls hP hS hl)
theorem k_if_eq (C : kC Z cc own nL rm) {x : Int32} {off : Int} (tgt : Nat) (hdg : decode cc pc = .ok (.ifCond .eq off, 3)) (ht : (pc : Int) + off = (tgt : Int)) (hp : pc + 3 = pc') (kt : x = 0 → kV Z nL tgt lv stk st) (kf : ¬ x = 0 → kV Z nL pc' lv stk st) : kV Z nL pc lv (.int x :: stk) st := fun H locs ls hP hS hl => lv_if_eq C.exec C.bytes hdg ht (fun h => kt h H locs ls hP hS hl) (fun h => hp ▸ kf h H locs ls hP hS hl)
theorem k_if_ne (C : kC Z cc own nL rm) {x : Int32} {off : Int} (tgt : Nat) (hdg : decode cc pc = .ok (.ifCond .ne off, 3)) (ht : (pc : Int) + off = (tgt : Int)) (hp : pc + 3 = pc') (kt : ¬ x = 0 → kV Z nL tgt lv stk st) (kf : x = 0 → kV Z nL pc' lv stk st) : kV Z nL pc lv (.int x :: stk) st := fun H locs ls hP hS hl => lv_if_ne C.exec C.bytes hdg ht (fun h => kt h H locs ls hP hS hl) (fun h => hp ▸ kf h H locs ls hP hS hl)
theorem k_if_lt (C : kC Z cc own nL rm) {x : Int32} {off : Int} (tgt : Nat) (hdg : decode cc pc = .ok (.ifCond .lt off, 3)) (ht : (pc : Int) + off = (tgt : Int)) (hp : pc + 3 = pc') (kt : x < 0 → kV Z nL tgt lv stk st) (kf : ¬ x < 0 → kV Z nL pc' lv stk st) : kV Z nL pc lv (.int x :: stk) st := fun H locs ls hP hS hl => lv_if_lt C.exec C.bytes hdg ht (fun h => kt h H locs ls hP hS hl) (fun h => hp ▸ kf h H locs ls hP hS hl)
theorem k_if_ge (C : kC Z cc own nL rm) {x : Int32} {off : Int} (tgt : Nat) (hdg : decode cc pc = .ok (.ifCond .ge off, 3)) (ht : (pc : Int) + off = (tgt : Int)) (hp : pc + 3 = pc') (kt : 0 ≤ x → kV Z nL tgt lv stk st) (kf : ¬ 0 ≤ x → kV Z nL pc' lv stk st) : kV Z nL pc lv (.int x :: stk) st := fun H locs ls hP hS hl => lv_if_ge C.exec C.bytes hdg ht (fun h => kt h H locs ls hP hS hl) (fun h => hp ▸ kf h H locs ls hP hS hl)
theorem k_if_gt (C : kC Z cc own nL rm) {x : Int32} {off : Int} (tgt : Nat) (hdg : decode cc pc = .ok (.ifCond .gt off, 3)) (ht : (pc : Int) + off = (tgt : Int)) (hp : pc + 3 = pc') (kt : 0 < x → kV Z nL tgt lv stk st) (kf : ¬ 0 < x → kV Z nL pc' lv stk st) : kV Z nL pc lv (.int x :: stk) st := fun H locs ls hP hS hl => lv_if_gt C.exec C.bytes hdg ht (fun h => kt h H locs ls hP hS hl) (fun h => hp ▸ kf h H locs ls hP hS hl)
theorem k_if_le (C : kC Z cc own nL rm) {x : Int32} {off : Int} (tgt : Nat) (hdg : decode cc pc = .ok (.ifCond .le off, 3)) (ht : (pc : Int) + off = (tgt : Int)) (hp : pc + 3 = pc') (kt : x ≤ 0 → kV Z nL tgt lv stk st) (kf : ¬ x ≤ 0 → kV Z nL pc' lv stk st) : kV Z nL pc lv (.int x :: stk) st := fun H locs ls hP hS hl => lv_if_le C.exec C.bytes hdg ht (fun h => kt h H locs ls hP hS hl) (fun h => hp ▸ kf h H locs ls hP hS hl)
theorem k_icmp_eq (C : kC Z cc own nL rm) {x y : Int32} {off : Int} (tgt : Nat) (hdg : decode cc pc = .ok (.if_icmp .eq off, 3)) (ht : (pc : Int) + off = (tgt : Int)) (hp : pc + 3 = pc') (kt : x = y → kV Z nL tgt lv stk st) (kf : ¬ x = y → kV Z nL pc' lv stk st) : kV Z nL pc lv (.int y :: .int x :: stk) st := fun H locs ls hP hS hl => lv_icmp_eq C.exec C.bytes hdg ht (fun h => kt h H locs ls hP hS hl) (fun h => hp ▸ kf h H locs ls hP hS hl)
theorem k_icmp_ne (C : kC Z cc own nL rm) {x y : Int32} {off : Int} (tgt : Nat) (hdg : decode cc pc = .ok (.if_icmp .ne off, 3)) (ht : (pc : Int) + off = (tgt : Int)) (hp : pc + 3 = pc') (kt : ¬ x = y → kV Z nL tgt lv stk st) (kf : x = y → kV Z nL pc' lv stk st) : kV Z nL pc lv (.int y :: .int x :: stk) st := fun H locs ls hP hS hl => lv_icmp_ne C.exec C.bytes hdg ht (fun h => kt h H locs ls hP hS hl) (fun h => hp ▸ kf h H locs ls hP hS hl)
theorem k_icmp_lt (C : kC Z cc own nL rm) {x y : Int32} {off : Int} (tgt : Nat) (hdg : decode cc pc = .ok (.if_icmp .lt off, 3)) (ht : (pc : Int) + off = (tgt : Int)) (hp : pc + 3 = pc') (kt : x < y → kV Z nL tgt lv stk st) (kf : ¬ x < y → kV Z nL pc' lv stk st) : kV Z nL pc lv (.int y :: .int x :: stk) st := fun H locs ls hP hS hl => lv_icmp_lt C.exec C.bytes hdg ht (fun h => kt h H locs ls hP hS hl) (fun h => hp ▸ kf h H locs ls hP hS hl)
theorem k_icmp_ge (C : kC Z cc own nL rm) {x y : Int32} {off : Int} (tgt : Nat) (hdg : decode cc pc = .ok (.if_icmp .ge off, 3)) (ht : (pc : Int) + off = (tgt : Int)) (hp : pc + 3 = pc') (kt : y ≤ x → kV Z nL tgt lv stk st) (kf : ¬ y ≤ x → kV Z nL pc' lv stk st) : kV Z nL pc lv (.int y :: .int x :: stk) st := fun H locs ls hP hS hl => lv_icmp_ge C.exec C.bytes hdg ht (fun h => kt h H locs ls hP hS hl) (fun h => hp ▸ kf h H locs ls hP hS hl)
theorem k_icmp_gt (C : kC Z cc own nL rm) {x y : Int32} {off : Int} (tgt : Nat) (hdg : decode cc pc = .ok (.if_icmp .gt off, 3)) (ht : (pc : Int) + off = (tgt : Int)) (hp : pc + 3 = pc') (kt : y < x → kV Z nL tgt lv stk st) (kf : ¬ y < x → kV Z nL pc' lv stk st) : kV Z nL pc lv (.int y :: .int x :: stk) st := fun H locs ls hP hS hl => lv_icmp_gt C.exec C.bytes hdg ht (fun h => kt h H locs ls hP hS hl) (fun h => hp ▸ kf h H locs ls hP hS hl)
theorem k_icmp_le (C : kC Z cc own nL rm) {x y : Int32} {off : Int} (tgt : Nat) (hdg : decode cc pc = .ok (.if_icmp .le off, 3)) (ht : (pc : Int) + off = (tgt : Int)) (hp : pc + 3 = pc') (kt : x ≤ y → kV Z nL tgt lv stk st) (kf : ¬ x ≤ y → kV Z nL pc' lv stk st) : kV Z nL pc lv (.int y :: .int x :: stk) st := fun H locs ls hP hS hl => lv_icmp_le C.exec C.bytes hdg ht (fun h => kt h H locs ls hP hS hl) (fun h => hp ▸ kf h H locs ls hP hS hl)
theorem k_goto (C : kC Z cc own nL rm) {off : Int} (tgt : Nat) (hdg : decode cc pc = .ok (.goto off, 3)) (ht : (pc : Int) + off = (tgt : Int)) (k : kV Z nL tgt lv stk st) : kV Z nL pc lv stk st := fun H locs ls hP hS hl => lv_goto C.exec C.bytes hdg ht (k H locs ls hP hS hl)
theorem k_tabIn (C : kC Z cc own nL rm) {x : Int32} {dflt lo hi : Int} {offs : Array Int} {len : Nat} {off : Int} (tgt : Nat) (hdg : decode cc pc = .ok (.tableswitch dflt lo hi offs, len)) (h1 : ¬ x.toInt < lo) (h2 : ¬ hi < x.toInt) (ho : offs[(x.toInt - lo).toNat]? = some off) (ht : (pc : Int) + off = (tgt : Int)) (k : kV Z nL tgt lv stk st) : kV Z nL pc lv (.int x :: stk) st := fun H locs ls hP hS hl => lv_tableIn C.exec C.bytes hdg h1 h2 ho ht (k H locs ls hP hS hl)
theorem k_tabOut (C : kC Z cc own nL rm) {x : Int32} {dflt lo hi : Int} {offs : Array Int} {len : Nat} (tgt : Nat) (hdg : decode cc pc = .ok (.tableswitch dflt lo hi offs, len)) (h : x.toInt < lo ∨ hi < x.toInt) (ht : (pc : Int) + dflt = (tgt : Int)) (k : kV Z nL tgt lv stk st) : kV Z nL pc lv (.int x :: stk) st := fun H locs ls hP hS hl => lv_tableOut C.exec C.bytes hdg h ht (k H locs ls hP hS hl)
theorem k_lookup (C : kC Z cc own nL rm) {x : Int32} {dflt : Int} {ps : Array (Int × Int)} {len : Nat} {off : Int} (tgt : Nat) (hdg : decode cc pc = .ok (.lookupswitch dflt ps, len)) (hp : (ps.toList.zip (ps.toList.drop 1)).all (fun (a, next) => a.1 < next.1) = true) (ho : Op.lookupswitch.offset ps.toList dflt x.toInt = off) (ht : (pc : Int) + off = (tgt : Int)) (k : kV Z nL tgt lv stk st) : kV Z nL pc lv (.int x :: stk) st := fun H locs ls hP hS hl => lv_lookup C.exec C.bytes hdg hp ho ht (k H locs ls hP hS hl)
theorem k_astore_n (C : kC Z cc own nL rm) {q : Fin 4} {i a : Nat} (hdg : decode cc pc = .ok (.astore_n q, 1)) (hi : (q : Nat) = i) (hn : i < nL) (hl' : (i, Value.ref a) :: lv.filter (fun q => !(q.1 == i) && !(q.1 + 1 == i && q.2.category == 2)) = lv') (hp : pc + 1 = pc') (k : kV Z nL pc' lv' stk st) : kV Z nL pc lv (.ref a :: stk) st := fun H locs ls hP hS hl => lv_astore_n C.exec C.bytes hdg hi hl hn hl' (fun ls' h' => hp ▸ k H locs ls' hP hS h')
theorem k_astore (C : kC Z cc own nL rm) {i a : Nat} (hdg : decode cc pc = .ok (.astore i, 2)) (hn : i < nL) (hl' : (i, Value.ref a) :: lv.filter (fun q => !(q.1 == i) && !(q.1 + 1 == i && q.2.category == 2)) = lv') (hp : pc + 2 = pc') (k : kV Z nL pc' lv' stk st) : kV Z nL pc lv (.ref a :: stk) st := fun H locs ls hP hS hl => lv_astore C.exec C.bytes hdg hl hn hl' (fun ls' h' => hp ▸ k H locs ls' hP hS h')
theorem k_lstore (C : kC Z cc own nL rm) {i : Nat} {x : Int64} (hdg : decode cc pc = .ok (.lstore i, 2)) (hn : i + 1 < nL) (hl' : (i, Value.long x) :: lv.filter (fun q => !(q.1 == i) && (!(q.1 == i + 1) && !(q.1 + 1 == i && q.2.category == 2))) = lv') (hp : pc + 2 = pc') (k : kV Z nL pc' lv' stk st) : kV Z nL pc lv (.long x :: stk) st := fun H locs ls hP hS hl => lv_lstore C.exec C.bytes hdg hl hn hl' (fun ls' h' => hp ▸ k H locs ls' hP hS h')
theorem k_lstore_n (C : kC Z cc own nL rm) {q : Fin 4} {i : Nat} {x : Int64} (hdg : decode cc pc = .ok (.lstore_n q, 1)) (hi : (q : Nat) = i) (hn : i + 1 < nL) (hl' : (i, Value.long x) :: lv.filter (fun q => !(q.1 == i) && (!(q.1 == i + 1) && !(q.1 + 1 == i && q.2.category == 2))) = lv') (hp : pc + 1 = pc') (k : kV Z nL pc' lv' stk st) : kV Z nL pc lv (.long x :: stk) st := fun H locs ls hP hS hl => lv_lstore_n C.exec C.bytes hdg hi hl hn hl' (fun ls' h' => hp ▸ k H locs ls' hP hS h')
theorem k_get (C : kC Z cc own nL rm) {c kk j index : Nat} {CN : String} {T : u_T} {N : Nat} {v : Value} (hk : kd c = kk) (h7 : kk < 7) (hc : vwCl[kk]? = some (CN, T, N)) (hin : ∀ w ∈ u_ws CN T N, w ∈ kw) (hj : j < N) (hw : Cond.fieldLink own index (T j).1 (T j).2.1 (T j).2.2.1 ∈ kw) (hv : (kF (kzG Z) st c kk)[j]? = some v) (hdg : decode cc pc = .ok (.getfield index, 3)) (hp : pc + 3 = pc') (k : kV Z nL pc' lv (v :: stk) st) : kV Z nL pc lv (kr Z c :: stk) st := fun H locs ls hP hS hl =>
  va_get (D := (kzG Z).1) (ci := kk) (v := v) (C := CN) (T := T) (N := N) C.exec C.bytes C.hts hin C.hown C.K hP c (by rw [kW_at (kd_lt (by omega)), kE_obj hk h7]) hc j hj (C.hts _ hw) (fun _ h9 => h9) hv hdg (hp ▸ k H locs ls hP hS hl)
theorem k_put (C : kC Z cc own nL rm) {c kk j index : Nat} {CN : String} {T : u_T} {N : Nat} {v : Value} {ty : FieldType} {ty0 : Nat → FieldType} (hk : kd c = kk) (h7 : kk < 7) (hc : vwCl[kk]? = some (CN, T, N)) (hin : ∀ w ∈ u_ws CN T N, w ∈ kw) (hty : ∀ k, k < N → parseFieldDescriptor (T k).2.2.1 = some (ty0 k)) (hnm : ∀ a, a < N → ∀ b, b < N → a ≠ b → (T a).2.1 ≠ (T b).2.1) (hj : j < N) (hw : Cond.fieldLink own index (T j).1 (T j).2.1 (T j).2.2.1 ∈ kw) (hfin : (T j).2.2.2 = false) (hd : parseFieldDescriptor (T j).2.2.1 = some ty) (hn : narrow ty v = v) (hfit : fits ty v = true) (hfl : j < (kF (kzG Z) st c kk).length) (hst : kF (kzG Z) st' c kk = (kF (kzG Z) st c kk).set j v) (hoth : ∀ b, b ≠ c → kE (kzG Z) st' b = kE (kzG Z) st b) (hdg : decode cc pc = .ok (.putfield index, 3)) (hp : pc + 3 = pc') (k : kV Z nL pc' lv stk st') : kV Z nL pc lv (v :: kr Z c :: stk) st := fun H locs ls hP hS hl =>
  va_put (D := (kzG Z).1) (ci := kk) (v := v) (ty := ty) (C := CN) (T := T) (N := N) C.exec C.bytes C.hts hin ty0 hty hnm C.hown C.K hP (C.D st) hS c (by rw [kW_at (kd_lt (by omega)), kE_obj hk h7]) hc j hj (C.hts _ hw) (fun _ h9 => h9) hfin hd hn hfit hfl hdg (fun H1 locs1 hP1 _ hS1 => by
    rw [kW_set (st' := st') (kd_lt (by omega)) (by rw [kE_obj hk h7, hst]) hoth] at hP1
    exact hp ▸ k H1 locs1 ls hP1 hS1 hl)
theorem k_iald (C : kC Z cc own nL rm) {c n : Nat} {i : Int32} (hk : kd c = 7 ∧ kl c = n) (hin : ¬ (i < 0 ∨ n ≤ i.toNatClampNeg)) (hdg : decode cc pc = .ok (.iaload, 1)) (hp : pc + 1 = pc') (k : kV Z nL pc' lv (.int (st.1 c i.toNatClampNeg) :: stk) st) : kV Z nL pc lv (.int i :: kr Z c :: stk) st := fun H locs ls hP hS hl =>
  va_iald (D := (kzG Z).1) C.exec C.bytes C.K hP c 0 (cA := (kzG Z).2.2.1 0) (n := n) (f := st.1 c) (by rw [kW_at (kd_lt (by omega)), kE_arr hk.1 (by omega)]; simp only [kA, hk.2]) rfl hin hdg (hp ▸ k H locs ls hP hS hl)
theorem k_iast (C : kC Z cc own nL rm) {c n : Nat} {i x : Int32} (hk : kd c = 7 ∧ kl c = n) (hin : ¬ (i < 0 ∨ n ≤ i.toNatClampNeg)) (hdg : decode cc pc = .ok (.iastore, 1)) (hp : pc + 1 = pc') (k : kV Z nL pc' lv stk (kwr st c i.toNatClampNeg x)) : kV Z nL pc lv (.int x :: .int i :: kr Z c :: stk) st := fun H locs ls hP hS hl =>
  va_iast (D := (kzG Z).1) C.exec C.bytes C.K hP (C.D st) hS c 0 (cA := (kzG Z).2.2.1 0) (n := n) (f := st.1 c) (by rw [kW_at (kd_lt (by omega)), kE_arr hk.1 (by omega)]; simp only [kA, hk.2]) rfl hin hdg (fun H1 locs1 hP1 _ hS1 => by
    rw [kW_set (st' := kwr st c i.toNatClampNeg x) (kd_lt (by omega)) (by rw [kE_arr hk.1 (by omega)]; simp only [kA, hk.2, kwr, kset, va_up_self]; rfl) (fun b hb => kE_set b hb)] at hP1
    exact hp ▸ k H1 locs1 ls hP1 hS1 hl)
theorem k_lald (C : kC Z cc own nL rm) {c n : Nat} {i : Int32} (hk : kd c = 8 ∧ kl c = n) (hin : ¬ (i < 0 ∨ n ≤ i.toNatClampNeg)) (hdg : decode cc pc = .ok (.laload, 1)) (hp : pc + 1 = pc') (k : kV Z nL pc' lv (.long (st.2 c i.toNatClampNeg) :: stk) st) : kV Z nL pc lv (.int i :: kr Z c :: stk) st := fun H locs ls hP hS hl =>
  va_lald (D := (kzG Z).1) C.exec C.bytes C.K hP c 1 (cA := (kzG Z).2.2.1 1) (n := n) (f := st.2 c) (by rw [kW_at (kd_lt (by omega)), kE_arr hk.1 (by omega)]; simp only [kA, hk.2]) rfl hin hdg (hp ▸ k H locs ls hP hS hl)
theorem k_last (C : kC Z cc own nL rm) {c n : Nat} {i : Int32} {x : Int64} (hk : kd c = 8 ∧ kl c = n) (hin : ¬ (i < 0 ∨ n ≤ i.toNatClampNeg)) (hdg : decode cc pc = .ok (.lastore, 1)) (hp : pc + 1 = pc') (k : kV Z nL pc' lv stk (kwl st c i.toNatClampNeg x)) : kV Z nL pc lv (.long x :: .int i :: kr Z c :: stk) st := fun H locs ls hP hS hl =>
  va_last (D := (kzG Z).1) C.exec C.bytes C.K hP (C.D st) hS c 1 (cA := (kzG Z).2.2.1 1) (n := n) (f := st.2 c) (by rw [kW_at (kd_lt (by omega)), kE_arr hk.1 (by omega)]; simp only [kA, hk.2]) rfl hin hdg (fun H1 locs1 hP1 _ hS1 => by
    rw [kW_set (st' := kwl st c i.toNatClampNeg x) (kd_lt (by omega)) (by rw [kE_arr hk.1 (by omega)]; simp only [kA, hk.2, kwl, ksetL, va_up_self]; rfl) (fun b hb => kE_setL b hb)] at hP1
    exact hp ▸ k H1 locs1 ls hP1 hS1 hl)
theorem k_aldK (C : kC Z cc own nL rm) {c : Nat} {i : Int32} (hk : yd c) (hin : ¬ (i < 0 ∨ 10 ≤ i.toNatClampNeg)) (hdg : decode cc pc = .ok (.aaload, 1)) (hp : pc + 1 = pc') (k : kV Z nL pc' lv (kr Z (c + 5 + i.toNatClampNeg) :: stk) st) : kV Z nL pc lv (.int i :: kr Z (c + 3) :: stk) st := fun H locs ls hP hS hl =>
  va_aldq (D := (kzG Z).1) (C := "TalkKnots$Knot") C.exec C.bytes C.K hP (c + 3) 2 (cA := (kzG Z).2.2.1 2) (n := 10) (f := fun i => some ((kzG Z).2.1 (c + 3 + 2 + i))) (by have hk9 := yd_k hk; rw [kW_at (kd_lt (by omega)), kE_arr hk9 (by omega)]; rfl) rfl hin hdg (hp ▸ k H locs ls hP hS hl)
theorem k_aldS (C : kC Z cc own nL rm) {i : Int32} (hin : ¬ (i < 0 ∨ 4 ≤ i.toNatClampNeg)) (hdg : decode cc pc = .ok (.aaload, 1)) (hp : pc + 1 = pc') (k : kV Z nL pc' lv (kr Z (51 + 2 * i.toNatClampNeg) :: stk) st) : kV Z nL pc lv (.int i :: kr Z 49 :: stk) st := fun H locs ls hP hS hl =>
  va_aldq (D := (kzG Z).1) (C := "TalkKnots$Sheet") C.exec C.bytes C.K hP 49 3 (cA := (kzG Z).2.2.1 3) (n := 4) (f := fun i => some ((kzG Z).2.1 (51 + 2 * i))) (by rw [kW_at (by omega), kE_arr (k := 10) rfl (by omega)]; rfl) rfl hin hdg (hp ▸ k H locs ls hP hS hl)
end
end
section
/-! a method's contract over the world; its entry, its ends, its calls -/
def kQc (G : kG) (A : Nat → Prop) (o : Option Value) (st' : kM) : Array Value → State → Outcome → State → Prop := fun _ u oc t => (oc = .returned o ∧ va_P G.1 vwCl (kW G st') t.heap) ∧ va_F A u t
def kPc (G : kG) (av : List Value) (st : kM) (sz : Nat) : Array Value → State → Prop := va_Pc av (fun U => U.heap.size = sz ∧ va_P G.1 vwCl (kW G st) U.heap ∧ kFx G (va_A (kW G st) sz) U)
def kCt (G : kG) (y : MethodName) (cc : ByteArray) (nL : Nat) (ret : Option FieldType) (rm : Room) (av : List Value) (st : kM) (o : Option Value) (st' : kM) : Prop :=
  ∀ (l : Launch) (sz : Nat), Met l y (.code y cc nL ret :: kw) rm (kPc G av st sz) (kQc G (va_A (kW G st) sz) o st') 0 0 (va_A (kW G st) sz)
def kEnd (Z : kZ) (ret : Option FieldType) (o : Option Value) (st' : kM) : Prop :=
  (kzH Z).sig.returnType = ret ∧ (kzH Z).locks = false ∧ kzQ Z = MQ (kzB Z) (kQc (kzG Z) (kzA Z) o st') (kzV Z) (kzS Z) (kzc Z) (kzs Z) (kzA Z)
theorem kFx.same {G : kG} {A : Nat → Prop} {u U : State} (hv : U.vm = u.vm) (hh : U.heap = u.heap) (h : kFx G A u) : kFx G A U := by
  obtain ⟨h1, h2, h3, h4, h5, h6, h7, h8⟩ := h
  have ha : u.vm.Alike U.vm := by rw [hv]; exact Vm.Alike.refl u.vm
  refine ⟨h1.moved ha, h2, h3, fun q hq => h4 q (by rw [← hh]; exact hq), ?_, fun i hi => (h6 i hi).same hv, ?_, ?_⟩
  · rw [hh]; exact h5.moved ha
  · rw [hh]; exact h7.moved ha
  · rw [hh]; exact h8.moved ha
theorem kFx.call {G : kG} {A : Nat → Prop} {s U : State} {st : kM} {H : Heap} {locs : List Loc} (h : kFx G A s) (hP : va_P G.1 vwCl (kW G st) H) (hS : va_S A s.heap H locs) (hU : U.heap = H) (hW : s.WarmedH U.vm) : kFx G (va_A (kW G st) H.size) U := by
  obtain ⟨h1, h2, h3, h4, h5, h6, h7, h8⟩ := h
  have hAB : ∀ q, va_A (kW G st) H.size q → A q := by
    intro q hq
    rcases hq with ⟨k, e, hk⟩ | hq
    · obtain ⟨g1, g2⟩ := kW_out hk
      cases g2
      exact h3 k g1
    · exact h4 q (Nat.le_trans hS.1 hq)
  refine ⟨h1.moved hW.alike, h2, fun i hi => Or.inl ⟨i, _, kW_at hi⟩, fun q hq => Or.inr (by rw [← hU]; exact hq), ?_, fun i hi => (h6 i hi).warm hW, ?_, ?_⟩
  · rw [hU]; exact ((h5.kept hS.2.1).moved hW.alike).narrow hAB
  · rw [hU]; exact ((h7.kept hS.2.1).moved hW.alike).narrow hAB
  · rw [hU]; exact ((h8.kept hS.2.1).moved hW.alike).narrow hAB
theorem kPc.blind {G : kG} {av : List Value} {st : kM} {sz : Nat} : FrameBlind (kPc G av st sz) := by
  intro a U g mk h
  obtain ⟨h1, h2, h3, h4⟩ := h
  exact ⟨h1, h2, h3, h4.same rfl rfl⟩
/-- a method, from its entry -/
theorem kMet {G : kG} {y : MethodName} {cc : ByteArray} {nL : Nat} {ret : Option FieldType} {rm : Room} {av : List Value} {st st' : kM} {o : Option Value} (hy : plainName y.cls = true) (hn : (lg_sl av).length ≤ nL) (hcs : rm.cells = 0 ∧ rm.slots = 0)
    (body : ∀ (X : kX) (A : Nat → Prop) (Q : State → Prop), kC (X, G, A, Q, 0, 0) cc y.cls nL rm → kEnd (X, G, A, Q, 0, 0) ret o st' → kV (X, G, A, Q, 0, 0) nL 0 (lv_args 0 av) [] st) : kCt G y cc nL ret rm av st o st' := by
  intro l sz
  refine Met.ofW (cc := cc) (maxL := nL) (ret := ret) hy rfl ?_
  intro p e s m args below meth c s₁ B hml hv
  obtain ⟨rfl, hsz, hP, hF⟩ := hv
  have hts := atoms_spec (ws := .code y cc nL ret :: kw) B.pre
  have hl := lv_entry av (n := nL) hn
  rw [lg_entry_eq]
  generalize (lg_sl av ++ List.replicate (nL - (lg_sl av).length) Slot.unset).toArray = ls at hl ⊢
  subst hsz
  refine body (p, l, e, _, s, m, av.toArray, below, meth, c) (va_A (kW G st) s.heap.size) _ ?_ ?_ s.heap [] ls hP va_S.rf hl
  · exact ⟨B.exec, B.bytes, hml, findClass_of_methodNamed B.named, fun w hw => hts w (List.mem_cons_of_mem _ hw), rfl, ⟨Nat.zero_le _, Nat.zero_le _⟩, hF⟩
  · exact ⟨B.returns, B.notSynchronized, rfl⟩
section
variable {Z : kZ} {cc : ByteArray} {own : String} {nL pc pc' : Nat} {rm : Room} {lv lv' : List (Nat × Value)} {stk : List Value} {st st' : kM}
theorem k_iret (C : kC Z cc own nL rm) {x : Int32} {res : Int32 × kM} (K : kEnd Z (some .int) (some (.int res.1)) res.2) (hf : some (x, st) = some res) (hdg : decode cc pc = .ok (.ireturn, 1)) : kV Z nL pc lv [.int x] st := by
  cases hf
  intro H locs ls hP hS hl
  unfold kWW
  rw [K.2.2]
  exact W.iret C.exec C.bytes K.1 (fun t ht hW => ⟨⟨rfl, by rw [ht]; exact hP⟩, hS.F ht⟩) hS.2.2 hdg K.2.1
theorem k_zret (C : kC Z cc own nL rm) {x : Int32} {ty : FieldType} {res : Int32 × kM} (K : kEnd Z (some ty) (some (.int res.1)) res.2) (hf : some (x, st) = some res) (hn : narrow ty (.int x) = .int x) (hdg : decode cc pc = .ok (.ireturn, 1)) : kV Z nL pc lv [.int x] st := by
  cases hf
  intro H locs ls hP hS hl
  unfold kWW
  rw [K.2.2]
  exact W.zret C.exec C.bytes K.1 hn (fun t ht hW => ⟨⟨rfl, by rw [ht]; exact hP⟩, hS.F ht⟩) hS.2.2 hdg K.2.1
theorem k_lret (C : kC Z cc own nL rm) {x : Int64} {res : Int64 × kM} (K : kEnd Z (some .long) (some (.long res.1)) res.2) (hf : some (x, st) = some res) (hdg : decode cc pc = .ok (.lreturn, 1)) : kV Z nL pc lv [.long x] st := by
  cases hf
  intro H locs ls hP hS hl
  unfold kWW
  rw [K.2.2]
  exact W.lret C.exec C.bytes K.1 (fun t ht hW => ⟨⟨rfl, by rw [ht]; exact hP⟩, hS.F ht⟩) hS.2.2 hdg K.2.1
theorem k_vret (C : kC Z cc own nL rm) {res : kM} (K : kEnd Z none none res) (hf : some st = some res) (hdg : decode cc pc = .ok (.return_, 1)) : kV Z nL pc lv [] st := by
  cases hf
  intro H locs ls hP hS hl
  unfold kWW
  rw [K.2.2]
  exact W.vret C.exec C.bytes K.1 (fun t ht hW => ⟨⟨rfl, by rw [ht]; exact hP⟩, hS.F ht⟩) hS.2.2 hdg K.2.1
/-- the answer is a string of TextReader -/
theorem k_sret (C : kC Z cc own nL rm) {x : Nat} {CN : String} {res : Nat × kM} (K : kEnd Z (some (.object CN)) (some (ks Z res.1)) res.2) (hf : some (x, st) = some res) (hdg : decode cc pc = .ok (.areturn, 1)) : kV Z nL pc lv [ks Z x] st := by
  cases hf
  intro H locs ls hP hS hl
  unfold kWW
  rw [K.2.2]
  exact W.aret C.exec C.bytes K.1 (Or.inl ⟨_, rfl⟩) (Or.inr ⟨_, rfl⟩) (fun t ht hW => ⟨⟨rfl, by rw [ht]; exact hP⟩, hS.F ht⟩) hS.2.2 hdg K.2.1
theorem goodIn_appk {big a b : List Cond} (ha : GoodIn big a) (hb : GoodIn big b) : GoodIn big (a ++ b) := fun w h => (List.mem_append.mp h).elim (ha w) (hb w)
/-- behind a call -/
theorem k_back {y : MethodName} {o : Option Value} {H : Heap} {locs : List Loc} {ls : Array Slot} {stk0 : List Value} {a : Array Value} (hx : kFx (kzG Z) (kzA Z) (kzS Z)) (hr : va_Run (kzP Z) Z.1.2.1 Z.1.2.2.1 (kzR Z) (kzS Z) (kzM Z) (kzV Z) (kzB Z) (kzH Z) (kzC Z) H locs (kzc Z) (kzs Z) 0 0 (F0 (kzM Z) pc ls stk0) stk (kQc (kzG Z) (va_A (kW (kzG Z) st) H.size) o st' a) (va_A (kW (kzG Z) st) H.size)) (hS : va_S (kzA Z) (kzS Z).heap H locs) (hl : lv_has ls nL lv) (k : kV Z nL (pc + 3) lv (o.toList ++ stk) st') : kWW Z H locs (F0 (kzM Z) pc ls stk0) := by
  have hAB : ∀ q, va_A (kW (kzG Z) st) H.size q → kzA Z q := by
    intro q hq
    rcases hq with ⟨j, e, hk⟩ | hq
    · obtain ⟨g1, g2⟩ := kW_out hk
      cases g2
      exact hx.2.2.1 j g1
    · exact hx.2.2.2.1 q (Nat.le_trans hS.1 hq)
  intro T hT X
  obtain ⟨v, st₀, t, T', L, h0, X', hL, e1, e2, ⟨⟨hv, hb⟩, hz, hk⟩, sts⟩ := hr T hT X
  cases hv
  rw [h0] at hz hk
  obtain ⟨t2, a1, b1⟩ := k T'.heap (locs ++ L) ls (by rw [e1]; exact hb) ⟨Nat.le_trans hS.1 (by rw [e1]; exact hz), fun q h1 h2 => by rw [e1, hk q (Nat.lt_of_lt_of_le h1 hS.1) (fun z => h2 (hAB q z))]; exact hS.2.1 q h1 h2, fun q hq => by
      rcases List.mem_append.mp hq with h | h
      · exact hS.2.2 q h
      · exact hAB _ (hL q h)⟩ hl T' rfl X'
  exact ⟨t2, sts t2 a1, b1⟩
theorem k_good {y : MethodName} {cc' : ByteArray} {nL' : Nat} {ret : Option FieldType} (h : Cond.code y cc' nL' ret ∈ kw) : GoodIn kw (.code y cc' nL' ret :: kw) := by
  intro w hw
  have : w ∈ kw := by
    rcases List.mem_cons.mp hw with rfl | q
    · exact h
    · exact q
  exact ⟨this, good_of_word (kw_good this)⟩
theorem k_callV (C : kC Z cc own nL rm) {y : MethodName} {cc' : ByteArray} {nL' index n c kk : Nat} {CN : String} {T : u_T} {N : Nat} {ret : Option FieldType} {rm' : Room} {o : Option Value} (As : List Value) (hct : kCt (kzG Z) y cc' nL' ret rm' (kr Z c :: As) st o st') (hk : kd c = kk) (h7 : kk < 7) (hc : vwCl[kk]? = some (CN, T, N))
    (w1 : Cond.methodLink own index y ∈ kw) (w2 : Cond.instanceMethod y ∈ kw) (w3 : Cond.selects CN y y ∈ kw) (w4 : Cond.initialized CN ∈ kw) (w5 : Cond.code y cc' nL' ret ∈ kw)
    (hd : y.cls = CN ∧ y.cls ≠ "java/lang/invoke/MethodHandle" ∧ y.cls ≠ "java/lang/invoke/VarHandle" ∧ (parseMethodDescriptor y.desc).map (fun d => d.parameters.length) = some n) (hn : As.length = n) (hR : rm'.frames + 1 ≤ rm.frames ∧ 8 + (nL' + 11) + rm'.locals ≤ rm.locals) (hz : rm'.cells = 0 ∧ rm'.slots = 0) (hcat : (stk.map fun v => v.category).sum ≤ 8)
    (hdg : decode cc pc = .ok (.invokevirtual index, 3)) (hp : pc + 3 = pc') (k : kV Z nL pc' lv (o.toList ++ stk) st') {stk0 : List Value} (hstk : stk0 = As.reverse ++ kr Z c :: stk) : kV Z nL pc lv stk0 st := by
  subst hp
  intro H locs ls hP hS hl
  have hG : GoodIn kw (wsV own index CN y (.code y cc' nL' ret :: kw)) := goodIn_appk (fun w hw => by
      simp only [List.mem_cons, List.not_mem_nil, or_false] at hw
      rcases hw with rfl | rfl | rfl | rfl <;> first | exact ⟨w1, good_of_word (kw_good w1)⟩ | exact ⟨w2, good_of_word (kw_good w2)⟩ | exact ⟨w3, good_of_word (kw_good w3)⟩ | exact ⟨w4, good_of_word (kw_good w4)⟩) (k_good w5)
  have hrec : ∃ cell : Cell, H[(kzG Z).2.1 c]? = some cell ∧ cell.vm.isStatics = false ∧ (kzS Z).vm.findClass CN = some cell.cls := va_recv C.K hP hc (q0 := c) (by rw [kW_at (kd_lt (by omega)), kE_obj hk h7])
  refine k_back (y := y) C.fx (va_runV (As := As) (rest := stk) ⟨C.exec, C.bytes, C.maxL, C.hown, C.hts⟩ (hct Z.1.2.1 H.size) (cwV n C.hts hG rfl hz.1 hz.2 hd (by rw [C.room]; exact hR)) ⟨kPc.blind, hrec, fun U hU hW => ⟨rfl, by rw [hU], by rw [hU]; exact hP, C.fx.call hP hS hU hW⟩⟩ rfl hn hl.1 hstk (lv_room hcat) hdg ⟨?_, ?_⟩) hS hl k
  · rw [C.room]; exact C.cs.1
  · rw [C.room]; exact C.cs.2
theorem k_callS (C : kC Z cc own nL rm) {y : MethodName} {cc' : ByteArray} {nL' index n : Nat} {ret : Option FieldType} {rm' : Room} {o : Option Value} (As : List Value) (hct : kCt (kzG Z) y cc' nL' ret rm' As st o st')
    (w1 : Cond.methodLink own index y ∈ kw) (w2 : Cond.static y ∈ kw) (w4 : Cond.initialized y.cls ∈ kw) (w5 : Cond.code y cc' nL' ret ∈ kw)
    (hd : y.cls ≠ "java/lang/invoke/MethodHandle" ∧ y.cls ≠ "java/lang/invoke/VarHandle" ∧ (parseMethodDescriptor y.desc).map (fun d => d.parameters.length) = some n) (hn : As.length = n) (hR : rm'.frames + 1 ≤ rm.frames ∧ 8 + (nL' + 11) + rm'.locals ≤ rm.locals) (hz : rm'.cells = 0 ∧ rm'.slots = 0) (hcat : (stk.map fun v => v.category).sum ≤ 8)
    (hdg : decode cc pc = .ok (.invokestatic index, 3)) (hp : pc + 3 = pc') (k : kV Z nL pc' lv (o.toList ++ stk) st') {stk0 : List Value} (hstk : stk0 = As.reverse ++ stk) : kV Z nL pc lv stk0 st := by
  subst hp
  intro H locs ls hP hS hl
  have hG : GoodIn kw (va_wsS own index y (.code y cc' nL' ret :: kw)) := goodIn_appk (fun w hw => by
      simp only [List.mem_cons, List.not_mem_nil, or_false] at hw
      rcases hw with rfl | rfl | rfl <;> first | exact ⟨w1, good_of_word (kw_good w1)⟩ | exact ⟨w2, good_of_word (kw_good w2)⟩ | exact ⟨w4, good_of_word (kw_good w4)⟩) (k_good w5)
  refine k_back (y := y) C.fx (va_runS (As := As) (rest := stk) ⟨C.exec, C.bytes, C.maxL, C.hown, C.hts⟩ (hct Z.1.2.1 H.size) (va_cwS n C.hts hG rfl hz.1 hz.2 hd (by rw [C.room]; exact hR)) ⟨kPc.blind, fun U hU hW => ⟨rfl, by rw [hU], by rw [hU]; exact hP, C.fx.call hP hS hU hW⟩⟩ rfl hn hl.1 hstk (lv_room hcat) hdg ⟨?_, ?_⟩) hS hl k
  · rw [C.room]; exact C.cs.1
  · rw [C.room]; exact C.cs.2
-- Math, System
theorem k_mmax (C : kC Z cc own nL rm) {x y : Int32} {index : Nat} (w1 : Cond.methodLink own index Lib.Math.max.name ∈ kw) (w2 : Cond.static Lib.Math.max.name ∈ kw) (w3 : Cond.initialized "java/lang/Math" ∈ kw) (w4 : Cond.code Lib.Math.max.name Lib.Math.max.code 2 (some .int) ∈ kw) (hR : 1 ≤ rm.frames ∧ 21 ≤ rm.locals) (hcat : (stk.map fun v => v.category).sum ≤ 8) (hdg : decode cc pc = .ok (.invokestatic index, 3)) (hp : pc + 3 = pc') (k : kV Z nL pc' lv (.int (if x < y then y else x) :: stk) st) : kV Z nL pc lv (.int y :: .int x :: stk) st := by
  intro H locs ls hP hS hl
  exact va_mmax C.exec C.bytes (by rw [C.maxL]; exact hl.1.symm) C.hown (C.hts _ w1) (C.hts _ w2) (C.hts _ w3) (C.hts _ w4) (by rw [C.room]; exact hR.1) (by rw [C.room]; omega) (by rw [C.room]; exact C.cs.1) (by rw [C.room]; exact C.cs.2) hdg (hp ▸ k H locs ls hP hS hl)
theorem k_mmin (C : kC Z cc own nL rm) {x y : Int32} {index : Nat} (w1 : Cond.methodLink own index Lib.Math.min.name ∈ kw) (w2 : Cond.static Lib.Math.min.name ∈ kw) (w3 : Cond.initialized "java/lang/Math" ∈ kw) (w4 : Cond.code Lib.Math.min.name Lib.Math.min.code 2 (some .int) ∈ kw) (hR : 1 ≤ rm.frames ∧ 21 ≤ rm.locals) (hcat : (stk.map fun v => v.category).sum ≤ 8) (hdg : decode cc pc = .ok (.invokestatic index, 3)) (hp : pc + 3 = pc') (k : kV Z nL pc' lv (.int (if y < x then y else x) :: stk) st) : kV Z nL pc lv (.int y :: .int x :: stk) st := by
  intro H locs ls hP hS hl
  exact va_mmin C.exec C.bytes (by rw [C.maxL]; exact hl.1.symm) C.hown (C.hts _ w1) (C.hts _ w2) (C.hts _ w3) (C.hts _ w4) (by rw [C.room]; exact hR.1) (by rw [C.room]; omega) (by rw [C.room]; exact C.cs.1) (by rw [C.room]; exact C.cs.2) hdg (hp ▸ k H locs ls hP hS hl)
/-- a String constant of TextReader -/
theorem k_ldcS (C : kC Z cc RX3 nL rm) {index : Nat} (i : Nat) (hi : i < kSn) (hx : kSi i = index) (hdg : decode cc pc = .ok (.ldc index, 2)) (hp : pc + 2 = pc') (k : kV Z nL pc' lv (ks Z i :: stk) st) : kV Z nL pc lv stk st := fun H locs ls hP hS hl => va_ldcS C.exec C.bytes C.hown (C.fx.2.2.2.2.2.1 i hi) (by rw [hx]; exact hdg) (hp ▸ k H locs ls hP hS hl)
/-- System.arraycopy of ints, of longs -/
theorem k_copyi (C : kC Z cc own nL rm) {c0 c1 n0 n1 index : Nat} {sp dp n : Int32} (w1 : Cond.methodLink own index arraycopyName ∈ kw) (w2 : Cond.native arraycopyName ∈ kw) (w3 : Cond.static arraycopyName ∈ kw) (w4 : Cond.initialized "java/lang/System" ∈ kw) (h0 : kd c0 = 7 ∧ kl c0 = n0) (h1 : kd c1 = 7 ∧ kl c1 = n1) (g1 : ¬ sp < 0) (g2 : ¬ dp < 0) (g3 : ¬ n < 0) (g4 : sp.toNatClampNeg + n.toNatClampNeg ≤ n0) (g5 : dp.toNatClampNeg + n.toNatClampNeg ≤ n1) (hR : 1 ≤ rm.frames ∧ 40 ≤ rm.locals) (hcat : (stk.map fun v => v.category).sum ≤ 8) (hdg : decode cc pc = .ok (.invokestatic index, 3)) (hp : pc + 3 = pc')
    (k : kV Z nL pc' lv stk (kset st c1 (va_cpy (st.1 c0) (st.1 c1) sp.toNatClampNeg dp.toNatClampNeg n.toNatClampNeg))) : kV Z nL pc lv (.int n :: .int dp :: kr Z c1 :: .int sp :: kr Z c0 :: stk) st := by
  intro H locs ls hP hS hl
  refine va_copyi (D := (kzG Z).1) C.exec C.bytes (by rw [C.maxL]; exact hl.1.symm) C.hown (C.hts _ w1) (C.hts _ w2) (C.hts _ w3) (C.hts _ w4) C.K hP (C.D st) hS c0 c1 0 0 (c0 := (kzG Z).2.2.1 0) (c1 := (kzG Z).2.2.1 0) (n0 := n0) (n1 := n1) (f := st.1 c0) (g := st.1 c1) (ty := .int) (by rw [kW_at (kd_lt (by omega)), kE_arr h0.1 (by omega)]; simp only [kA, h0.2]) (by rw [kW_at (kd_lt (by omega)), kE_arr h1.1 (by omega)]; simp only [kA, h1.2]) rfl rfl rfl g1 g2 g3 g4 g5 (fun _ _ => rfl) (by rw [C.room]; exact hR.1) ?_ hdg (fun H1 locs1 hP1 _ hS1 => ?_)
  · rw [C.room]
    have : nativeFrameWords "java/lang/System" "arraycopy" 5 + 11 ≤ 32 := by decide
    omega
  · rw [kW_set (st' := kset st c1 (va_cpy (st.1 c0) (st.1 c1) sp.toNatClampNeg dp.toNatClampNeg n.toNatClampNeg)) (kd_lt (by omega)) (by rw [kE_arr h1.1 (by omega)]; simp only [kA, h1.2, kset, va_up_self]) (fun b hb => kE_set b hb)] at hP1
    exact hp ▸ k H1 locs1 ls hP1 hS1 hl
theorem k_copyl (C : kC Z cc own nL rm) {c0 c1 n0 n1 index : Nat} {sp dp n : Int32} (w1 : Cond.methodLink own index arraycopyName ∈ kw) (w2 : Cond.native arraycopyName ∈ kw) (w3 : Cond.static arraycopyName ∈ kw) (w4 : Cond.initialized "java/lang/System" ∈ kw) (h0 : kd c0 = 8 ∧ kl c0 = n0) (h1 : kd c1 = 8 ∧ kl c1 = n1) (g1 : ¬ sp < 0) (g2 : ¬ dp < 0) (g3 : ¬ n < 0) (g4 : sp.toNatClampNeg + n.toNatClampNeg ≤ n0) (g5 : dp.toNatClampNeg + n.toNatClampNeg ≤ n1) (hR : 1 ≤ rm.frames ∧ 40 ≤ rm.locals) (hcat : (stk.map fun v => v.category).sum ≤ 8) (hdg : decode cc pc = .ok (.invokestatic index, 3)) (hp : pc + 3 = pc')
    (k : kV Z nL pc' lv stk (ksetL st c1 (va_cpy (st.2 c0) (st.2 c1) sp.toNatClampNeg dp.toNatClampNeg n.toNatClampNeg))) : kV Z nL pc lv (.int n :: .int dp :: kr Z c1 :: .int sp :: kr Z c0 :: stk) st := by
  intro H locs ls hP hS hl
  refine va_copyl (D := (kzG Z).1) C.exec C.bytes (by rw [C.maxL]; exact hl.1.symm) C.hown (C.hts _ w1) (C.hts _ w2) (C.hts _ w3) (C.hts _ w4) C.K hP (C.D st) hS c0 c1 1 1 (c0 := (kzG Z).2.2.1 1) (c1 := (kzG Z).2.2.1 1) (n0 := n0) (n1 := n1) (f := st.2 c0) (g := st.2 c1) (ty := .long) (by rw [kW_at (kd_lt (by omega)), kE_arr h0.1 (by omega)]; simp only [kA, h0.2]) (by rw [kW_at (kd_lt (by omega)), kE_arr h1.1 (by omega)]; simp only [kA, h1.2]) rfl rfl rfl g1 g2 g3 g4 g5 (fun _ _ => rfl) (by rw [C.room]; exact hR.1) ?_ hdg (fun H1 locs1 hP1 _ hS1 => ?_)
  · rw [C.room]
    have : nativeFrameWords "java/lang/System" "arraycopy" 5 + 11 ≤ 32 := by decide
    omega
  · rw [kW_set (st' := ksetL st c1 (va_cpy (st.2 c0) (st.2 c1) sp.toNatClampNeg dp.toNatClampNeg n.toNatClampNeg)) (kd_lt (by omega)) (by rw [kE_arr h1.1 (by omega)]; simp only [kA, h1.2, ksetL, va_up_self]) (fun b hb => kE_setL b hb)] at hP1
    exact hp ▸ k H1 locs1 ls hP1 hS1 hl
end
end
section
theorem kf_t {α : Type} {c : Prop} [Decidable c] {A B : Option α} {r : α} (h : (if c then A else B) = some r) (hc : c) : A = some r := by rw [if_pos hc] at h; exact h
theorem kf_f {α : Type} {c : Prop} [Decidable c] {A B : Option α} {r : α} (h : (if c then A else B) = some r) (hc : ¬ c) : B = some r := by rw [if_neg hc] at h; exact h
theorem kf_g {α : Type} {c : Prop} [Decidable c] {B : Option α} {r : α} (h : (if c then none else B) = some r) : ¬ c ∧ B = some r := by
  by_cases hc : c
  · rw [if_pos hc] at h; cases h
  · rw [if_neg hc] at h; exact ⟨hc, h⟩
theorem kf_y {α : Type} {c : Prop} [Decidable c] {B : Option α} {r : α} (h : (if c then B else none) = some r) : c ∧ B = some r := by
  by_cases hc : c
  · rw [if_pos hc] at h; exact ⟨hc, h⟩
  · rw [if_neg hc] at h; cases h
theorem kf_b {α β : Type} {a : Option α} {f : α → Option β} {r : β} (h : a.bind f = some r) : ∃ x, a = some x ∧ f x = some r := by
  cases a with
  | none => cases h
  | some x => exact ⟨x, rfl, h⟩
theorem kb_n {x : Int32} (h : x = 0 ∨ x = 1) : narrow .boolean (.int x) = .int x := by rcases h with rfl | rfl <;> rfl
theorem kb_f {x : Int32} (h : x = 0 ∨ x = 1) : fits .boolean (.int x) = true := by rcases h with rfl | rfl <;> rfl
theorem inK0 : ∀ w ∈ u_ws RX0 TX0 5, w ∈ kw := show ∀ w ∈ [Jvm.Cond.lays "TalkKnots$Knot" "TalkKnots$Knot" "kind" "I", Jvm.Cond.lays "TalkKnots$Knot" "TalkKnots$Knot" "mast" "I", Jvm.Cond.lays "TalkKnots$Knot" "TalkKnots$Knot" "open" "I", Jvm.Cond.lays "TalkKnots$Knot" "TalkKnots$Knot" "age" "I", Jvm.Cond.lays "TalkKnots$Knot" "TalkKnots$Knot" "fast" "Z"], w ∈ kw from List.forall_mem_cons.mpr ⟨kw_1_52, List.forall_mem_cons.mpr ⟨kw_1_54, List.forall_mem_cons.mpr ⟨kw_1_56, List.forall_mem_cons.mpr ⟨kw_1_58, List.forall_mem_cons.mpr ⟨kw_1_60, fun _ h => absurd h List.not_mem_nil⟩⟩⟩⟩⟩
theorem inK1 : ∀ w ∈ u_ws RX1 TX1 3, w ∈ kw := show ∀ w ∈ [Jvm.Cond.lays "TalkKnots$Sheet" "TalkKnots$Sheet" "bits" "I", Jvm.Cond.lays "TalkKnots$Sheet" "TalkKnots$Sheet" "size" "I", Jvm.Cond.laysFinal "TalkKnots$Sheet" "TalkKnots$Sheet" "numbers" "[J"], w ∈ kw from List.forall_mem_cons.mpr ⟨kw_1_152, List.forall_mem_cons.mpr ⟨kw_1_154, List.forall_mem_cons.mpr ⟨kw_1_156, fun _ h => absurd h List.not_mem_nil⟩⟩⟩
theorem inK2 : ∀ w ∈ u_ws RX2 TX2 2, w ∈ kw := show ∀ w ∈ [Jvm.Cond.laysFinal "TalkKnots$Tape" "TalkKnots$Tape" "bytes" "[I", Jvm.Cond.lays "TalkKnots$Tape" "TalkKnots$Tape" "length" "I"], w ∈ kw from List.forall_mem_cons.mpr ⟨kw_1_106, List.forall_mem_cons.mpr ⟨kw_1_108, fun _ h => absurd h List.not_mem_nil⟩⟩
theorem inK3 : ∀ w ∈ u_ws RX3 TX3 7, w ∈ kw := show ∀ w ∈ [Jvm.Cond.laysFinal "TalkKnots$TextReader" "TalkKnots$TextReader" "tape" "LTalkKnots$Tape;", Jvm.Cond.laysFinal "TalkKnots$TextReader" "TalkKnots$TextReader" "yard" "LTalkKnots$Yard;", Jvm.Cond.lays "TalkKnots$TextReader" "TalkKnots$TextReader" "at" "I", Jvm.Cond.lays "TalkKnots$TextReader" "TalkKnots$TextReader" "token" "I", Jvm.Cond.lays "TalkKnots$TextReader" "TalkKnots$TextReader" "start" "I", Jvm.Cond.lays "TalkKnots$TextReader" "TalkKnots$TextReader" "value" "I", Jvm.Cond.lays "TalkKnots$TextReader" "TalkKnots$TextReader" "taken" "I"], w ∈ kw from List.forall_mem_cons.mpr ⟨kw_1_124, List.forall_mem_cons.mpr ⟨kw_1_126, List.forall_mem_cons.mpr ⟨kw_1_128, List.forall_mem_cons.mpr ⟨kw_1_130, List.forall_mem_cons.mpr ⟨kw_1_132, List.forall_mem_cons.mpr ⟨kw_1_134, List.forall_mem_cons.mpr ⟨kw_1_136, fun _ h => absurd h List.not_mem_nil⟩⟩⟩⟩⟩⟩⟩
theorem inK4 : ∀ w ∈ u_ws RX4 TX4 7, w ∈ kw := show ∀ w ∈ [Jvm.Cond.lays "TalkKnots$Yard" "TalkKnots$Yard" "hour" "I", Jvm.Cond.lays "TalkKnots$Yard" "TalkKnots$Yard" "count" "I", Jvm.Cond.lays "TalkKnots$Yard" "TalkKnots$Yard" "up" "I", Jvm.Cond.laysFinal "TalkKnots$Yard" "TalkKnots$Yard" "winds" "[I", Jvm.Cond.laysFinal "TalkKnots$Yard" "TalkKnots$Yard" "weights" "[I", Jvm.Cond.laysFinal "TalkKnots$Yard" "TalkKnots$Yard" "knots" "[LTalkKnots$Knot;", Jvm.Cond.laysFinal "TalkKnots$Yard" "TalkKnots$Yard" "fastOn" "[I"], w ∈ kw from List.forall_mem_cons.mpr ⟨kw_1_81, List.forall_mem_cons.mpr ⟨kw_1_83, List.forall_mem_cons.mpr ⟨kw_1_85, List.forall_mem_cons.mpr ⟨kw_1_87, List.forall_mem_cons.mpr ⟨kw_1_89, List.forall_mem_cons.mpr ⟨kw_1_91, List.forall_mem_cons.mpr ⟨kw_1_93, fun _ h => absurd h List.not_mem_nil⟩⟩⟩⟩⟩⟩⟩
theorem inK5 : ∀ w ∈ u_ws RX5 TX5 8, w ∈ kw := show ∀ w ∈ [Jvm.Cond.laysFinal "TalkKnots" "TalkKnots" "present" "LTalkKnots$Yard;", Jvm.Cond.laysFinal "TalkKnots" "TalkKnots" "trial" "LTalkKnots$Yard;", Jvm.Cond.laysFinal "TalkKnots" "TalkKnots" "kept" "LTalkKnots$Yard;", Jvm.Cond.lays "TalkKnots" "TalkKnots" "isKept" "Z", Jvm.Cond.laysFinal "TalkKnots" "TalkKnots" "tape" "LTalkKnots$Tape;", Jvm.Cond.laysFinal "TalkKnots" "TalkKnots" "reader" "LTalkKnots$TextReader;", Jvm.Cond.laysFinal "TalkKnots" "TalkKnots" "sheets" "[LTalkKnots$Sheet;", Jvm.Cond.laysFinal "TalkKnots" "TalkKnots" "told" "[I"], w ∈ kw from List.forall_mem_cons.mpr ⟨kw_1_168, List.forall_mem_cons.mpr ⟨kw_1_170, List.forall_mem_cons.mpr ⟨kw_1_172, List.forall_mem_cons.mpr ⟨kw_1_174, List.forall_mem_cons.mpr ⟨kw_1_176, List.forall_mem_cons.mpr ⟨kw_1_178, List.forall_mem_cons.mpr ⟨kw_1_180, List.forall_mem_cons.mpr ⟨kw_1_182, fun _ h => absurd h List.not_mem_nil⟩⟩⟩⟩⟩⟩⟩⟩
theorem inK6 : ∀ w ∈ u_ws RX6 TX6 19, w ∈ kw := show ∀ w ∈ [Jvm.Cond.laysFinal "TalkKnotsModel" "TalkKnotsModel" "row" "[I", Jvm.Cond.laysFinal "TalkKnotsModel" "TalkKnotsModel" "found" "[I", Jvm.Cond.laysFinal "TalkKnotsModel" "TalkKnotsModel" "tried" "[I", Jvm.Cond.laysFinal "TalkKnotsModel" "TalkKnotsModel" "before1" "[I", Jvm.Cond.laysFinal "TalkKnotsModel" "TalkKnotsModel" "tape" "[I", Jvm.Cond.lays "TalkKnotsModel" "TalkKnotsModel" "tapeMany" "I", Jvm.Cond.lays "TalkKnotsModel" "TalkKnotsModel" "sort" "I", Jvm.Cond.lays "TalkKnotsModel" "TalkKnotsModel" "begins" "I", Jvm.Cond.lays "TalkKnotsModel" "TalkKnotsModel" "tokenEnds" "I", Jvm.Cond.lays "TalkKnotsModel" "TalkKnotsModel" "word" "J", Jvm.Cond.lays "TalkKnotsModel" "TalkKnotsModel" "value" "I", Jvm.Cond.lays "TalkKnotsModel" "TalkKnotsModel" "good" "Z", Jvm.Cond.laysFinal "TalkKnotsModel" "TalkKnotsModel" "bitsOf" "[I", Jvm.Cond.laysFinal "TalkKnotsModel" "TalkKnotsModel" "sizeOf" "[I", Jvm.Cond.laysFinal "TalkKnotsModel" "TalkKnotsModel" "sheets" "[J", Jvm.Cond.laysFinal "TalkKnotsModel" "TalkKnotsModel" "lent" "[J", Jvm.Cond.laysFinal "TalkKnotsModel" "TalkKnotsModel" "image" "[I", Jvm.Cond.laysFinal "TalkKnotsModel" "TalkKnotsModel" "before" "[I", Jvm.Cond.lays "TalkKnotsModel" "TalkKnotsModel" "isKept" "Z"], w ∈ kw from List.forall_mem_cons.mpr ⟨kw_4_17, List.forall_mem_cons.mpr ⟨kw_4_19, List.forall_mem_cons.mpr ⟨kw_4_21, List.forall_mem_cons.mpr ⟨kw_4_23, List.forall_mem_cons.mpr ⟨kw_4_25, List.forall_mem_cons.mpr ⟨kw_4_27, List.forall_mem_cons.mpr ⟨kw_4_29, List.forall_mem_cons.mpr ⟨kw_4_31, List.forall_mem_cons.mpr ⟨kw_4_33, List.forall_mem_cons.mpr ⟨kw_4_35, List.forall_mem_cons.mpr ⟨kw_4_37, List.forall_mem_cons.mpr ⟨kw_4_39, List.forall_mem_cons.mpr ⟨kw_4_41, List.forall_mem_cons.mpr ⟨kw_4_43, List.forall_mem_cons.mpr ⟨kw_4_45, List.forall_mem_cons.mpr ⟨kw_4_47, List.forall_mem_cons.mpr ⟨kw_4_49, List.forall_mem_cons.mpr ⟨kw_4_51, List.forall_mem_cons.mpr ⟨kw_4_53, fun _ h => absurd h List.not_mem_nil⟩⟩⟩⟩⟩⟩⟩⟩⟩⟩⟩⟩⟩⟩⟩⟩⟩⟩⟩
section
variable {Z : kZ} {cc : ByteArray} {own : String} {nL pc pc' : Nat} {rm : Room} {lv : List (Nat × Value)} {stk : List Value} {st : kM}
theorem g_X0_kind (C : kC Z cc own nL rm) {c index : Nat} (hk : kd c = 0) (hw : Cond.fieldLink own index "TalkKnots$Knot" "kind" "I" ∈ kw) (hdg : decode cc pc = .ok (.getfield index, 3)) (hp : pc + 3 = pc') (k : kV Z nL pc' lv (.int (st.1 c 0) :: stk) st) : kV Z nL pc lv (kr Z c :: stk) st := k_get (j := 0) C hk (by decide) rfl inK0 (by decide) hw rfl hdg hp k
theorem p_X0_kind (C : kC Z cc own nL rm) {c index : Nat} {x : Int32} (hk : kd c = 0) (hw : Cond.fieldLink own index "TalkKnots$Knot" "kind" "I" ∈ kw) (hdg : decode cc pc = .ok (.putfield index, 3)) (hp : pc + 3 = pc') (k : kV Z nL pc' lv stk (kwr st c 0 x)) : kV Z nL pc lv (.int x :: kr Z c :: stk) st := k_put (j := 0) (ty := .int) (ty0 := tyX0) (st' := kwr st c 0 x) C hk (by decide) rfl inK0 tyX0_ok nmX0 (by decide) hw rfl (by decide +kernel) rfl rfl (Nat.le_of_ble_eq_true rfl) (by simp [kF, kwr, kset, va_up]) (fun b hb => kE_set b hb) hdg hp k
theorem g_X0_mast (C : kC Z cc own nL rm) {c index : Nat} (hk : kd c = 0) (hw : Cond.fieldLink own index "TalkKnots$Knot" "mast" "I" ∈ kw) (hdg : decode cc pc = .ok (.getfield index, 3)) (hp : pc + 3 = pc') (k : kV Z nL pc' lv (.int (st.1 c 1) :: stk) st) : kV Z nL pc lv (kr Z c :: stk) st := k_get (j := 1) C hk (by decide) rfl inK0 (by decide) hw rfl hdg hp k
theorem p_X0_mast (C : kC Z cc own nL rm) {c index : Nat} {x : Int32} (hk : kd c = 0) (hw : Cond.fieldLink own index "TalkKnots$Knot" "mast" "I" ∈ kw) (hdg : decode cc pc = .ok (.putfield index, 3)) (hp : pc + 3 = pc') (k : kV Z nL pc' lv stk (kwr st c 1 x)) : kV Z nL pc lv (.int x :: kr Z c :: stk) st := k_put (j := 1) (ty := .int) (ty0 := tyX0) (st' := kwr st c 1 x) C hk (by decide) rfl inK0 tyX0_ok nmX0 (by decide) hw rfl (by decide +kernel) rfl rfl (Nat.le_of_ble_eq_true rfl) (by simp [kF, kwr, kset, va_up]) (fun b hb => kE_set b hb) hdg hp k
theorem g_X0_open (C : kC Z cc own nL rm) {c index : Nat} (hk : kd c = 0) (hw : Cond.fieldLink own index "TalkKnots$Knot" "open" "I" ∈ kw) (hdg : decode cc pc = .ok (.getfield index, 3)) (hp : pc + 3 = pc') (k : kV Z nL pc' lv (.int (st.1 c 2) :: stk) st) : kV Z nL pc lv (kr Z c :: stk) st := k_get (j := 2) C hk (by decide) rfl inK0 (by decide) hw rfl hdg hp k
theorem p_X0_open (C : kC Z cc own nL rm) {c index : Nat} {x : Int32} (hk : kd c = 0) (hw : Cond.fieldLink own index "TalkKnots$Knot" "open" "I" ∈ kw) (hdg : decode cc pc = .ok (.putfield index, 3)) (hp : pc + 3 = pc') (k : kV Z nL pc' lv stk (kwr st c 2 x)) : kV Z nL pc lv (.int x :: kr Z c :: stk) st := k_put (j := 2) (ty := .int) (ty0 := tyX0) (st' := kwr st c 2 x) C hk (by decide) rfl inK0 tyX0_ok nmX0 (by decide) hw rfl (by decide +kernel) rfl rfl (Nat.le_of_ble_eq_true rfl) (by simp [kF, kwr, kset, va_up]) (fun b hb => kE_set b hb) hdg hp k
theorem g_X0_age (C : kC Z cc own nL rm) {c index : Nat} (hk : kd c = 0) (hw : Cond.fieldLink own index "TalkKnots$Knot" "age" "I" ∈ kw) (hdg : decode cc pc = .ok (.getfield index, 3)) (hp : pc + 3 = pc') (k : kV Z nL pc' lv (.int (st.1 c 3) :: stk) st) : kV Z nL pc lv (kr Z c :: stk) st := k_get (j := 3) C hk (by decide) rfl inK0 (by decide) hw rfl hdg hp k
theorem p_X0_age (C : kC Z cc own nL rm) {c index : Nat} {x : Int32} (hk : kd c = 0) (hw : Cond.fieldLink own index "TalkKnots$Knot" "age" "I" ∈ kw) (hdg : decode cc pc = .ok (.putfield index, 3)) (hp : pc + 3 = pc') (k : kV Z nL pc' lv stk (kwr st c 3 x)) : kV Z nL pc lv (.int x :: kr Z c :: stk) st := k_put (j := 3) (ty := .int) (ty0 := tyX0) (st' := kwr st c 3 x) C hk (by decide) rfl inK0 tyX0_ok nmX0 (by decide) hw rfl (by decide +kernel) rfl rfl (Nat.le_of_ble_eq_true rfl) (by simp [kF, kwr, kset, va_up]) (fun b hb => kE_set b hb) hdg hp k
theorem g_X0_fast (C : kC Z cc own nL rm) {c index : Nat} (hk : kd c = 0) (hw : Cond.fieldLink own index "TalkKnots$Knot" "fast" "Z" ∈ kw) (hdg : decode cc pc = .ok (.getfield index, 3)) (hp : pc + 3 = pc') (k : kV Z nL pc' lv (.int (st.1 c 4) :: stk) st) : kV Z nL pc lv (kr Z c :: stk) st := k_get (j := 4) C hk (by decide) rfl inK0 (by decide) hw rfl hdg hp k
theorem p_X0_fast (C : kC Z cc own nL rm) {c index : Nat} {x : Int32} (hb : x = 0 ∨ x = 1) (hk : kd c = 0) (hw : Cond.fieldLink own index "TalkKnots$Knot" "fast" "Z" ∈ kw) (hdg : decode cc pc = .ok (.putfield index, 3)) (hp : pc + 3 = pc') (k : kV Z nL pc' lv stk (kwr st c 4 x)) : kV Z nL pc lv (.int x :: kr Z c :: stk) st := k_put (j := 4) (ty := .boolean) (ty0 := tyX0) (st' := kwr st c 4 x) C hk (by decide) rfl inK0 tyX0_ok nmX0 (by decide) hw rfl (by decide +kernel) (kb_n hb) (kb_f hb) (Nat.le_of_ble_eq_true rfl) (by simp [kF, kwr, kset, va_up]) (fun b hb => kE_set b hb) hdg hp k
theorem g_X1_bits (C : kC Z cc own nL rm) {c index : Nat} (hk : kd c = 1) (hw : Cond.fieldLink own index "TalkKnots$Sheet" "bits" "I" ∈ kw) (hdg : decode cc pc = .ok (.getfield index, 3)) (hp : pc + 3 = pc') (k : kV Z nL pc' lv (.int (st.1 c 0) :: stk) st) : kV Z nL pc lv (kr Z c :: stk) st := k_get (j := 0) C hk (by decide) rfl inK1 (by decide) hw rfl hdg hp k
theorem p_X1_bits (C : kC Z cc own nL rm) {c index : Nat} {x : Int32} (hk : kd c = 1) (hw : Cond.fieldLink own index "TalkKnots$Sheet" "bits" "I" ∈ kw) (hdg : decode cc pc = .ok (.putfield index, 3)) (hp : pc + 3 = pc') (k : kV Z nL pc' lv stk (kwr st c 0 x)) : kV Z nL pc lv (.int x :: kr Z c :: stk) st := k_put (j := 0) (ty := .int) (ty0 := tyX1) (st' := kwr st c 0 x) C hk (by decide) rfl inK1 tyX1_ok nmX1 (by decide) hw rfl (by decide +kernel) rfl rfl (Nat.le_of_ble_eq_true rfl) (by simp [kF, kwr, kset, va_up]) (fun b hb => kE_set b hb) hdg hp k
theorem g_X1_size (C : kC Z cc own nL rm) {c index : Nat} (hk : kd c = 1) (hw : Cond.fieldLink own index "TalkKnots$Sheet" "size" "I" ∈ kw) (hdg : decode cc pc = .ok (.getfield index, 3)) (hp : pc + 3 = pc') (k : kV Z nL pc' lv (.int (st.1 c 1) :: stk) st) : kV Z nL pc lv (kr Z c :: stk) st := k_get (j := 1) C hk (by decide) rfl inK1 (by decide) hw rfl hdg hp k
theorem p_X1_size (C : kC Z cc own nL rm) {c index : Nat} {x : Int32} (hk : kd c = 1) (hw : Cond.fieldLink own index "TalkKnots$Sheet" "size" "I" ∈ kw) (hdg : decode cc pc = .ok (.putfield index, 3)) (hp : pc + 3 = pc') (k : kV Z nL pc' lv stk (kwr st c 1 x)) : kV Z nL pc lv (.int x :: kr Z c :: stk) st := k_put (j := 1) (ty := .int) (ty0 := tyX1) (st' := kwr st c 1 x) C hk (by decide) rfl inK1 tyX1_ok nmX1 (by decide) hw rfl (by decide +kernel) rfl rfl (Nat.le_of_ble_eq_true rfl) (by simp [kF, kwr, kset, va_up]) (fun b hb => kE_set b hb) hdg hp k
theorem g_X1_numbers (C : kC Z cc own nL rm) {c index : Nat} (hk : kd c = 1) (hw : Cond.fieldLink own index "TalkKnots$Sheet" "numbers" "[J" ∈ kw) (hdg : decode cc pc = .ok (.getfield index, 3)) (hp : pc + 3 = pc') (k : kV Z nL pc' lv (kr Z (c + 1) :: stk) st) : kV Z nL pc lv (kr Z c :: stk) st := k_get (j := 2) C hk (by decide) rfl inK1 (by decide) hw rfl hdg hp k
theorem g_X2_bytes (C : kC Z cc own nL rm) {c index : Nat} (hk : kd c = 2) (hw : Cond.fieldLink own index "TalkKnots$Tape" "bytes" "[I" ∈ kw) (hdg : decode cc pc = .ok (.getfield index, 3)) (hp : pc + 3 = pc') (k : kV Z nL pc' lv (kr Z 47 :: stk) st) : kV Z nL pc lv (kr Z c :: stk) st := k_get (j := 0) C hk (by decide) rfl inK2 (by decide) hw rfl hdg hp k
theorem g_X2_length (C : kC Z cc own nL rm) {c index : Nat} (hk : kd c = 2) (hw : Cond.fieldLink own index "TalkKnots$Tape" "length" "I" ∈ kw) (hdg : decode cc pc = .ok (.getfield index, 3)) (hp : pc + 3 = pc') (k : kV Z nL pc' lv (.int (st.1 c 1) :: stk) st) : kV Z nL pc lv (kr Z c :: stk) st := k_get (j := 1) C hk (by decide) rfl inK2 (by decide) hw rfl hdg hp k
theorem p_X2_length (C : kC Z cc own nL rm) {c index : Nat} {x : Int32} (hk : kd c = 2) (hw : Cond.fieldLink own index "TalkKnots$Tape" "length" "I" ∈ kw) (hdg : decode cc pc = .ok (.putfield index, 3)) (hp : pc + 3 = pc') (k : kV Z nL pc' lv stk (kwr st c 1 x)) : kV Z nL pc lv (.int x :: kr Z c :: stk) st := k_put (j := 1) (ty := .int) (ty0 := tyX2) (st' := kwr st c 1 x) C hk (by decide) rfl inK2 tyX2_ok nmX2 (by decide) hw rfl (by decide +kernel) rfl rfl (Nat.le_of_ble_eq_true rfl) (by simp [kF, kwr, kset, va_up]) (fun b hb => kE_set b hb) hdg hp k
theorem g_X3_tape (C : kC Z cc own nL rm) {c index : Nat} (hk : kd c = 3) (hw : Cond.fieldLink own index "TalkKnots$TextReader" "tape" "LTalkKnots$Tape;" ∈ kw) (hdg : decode cc pc = .ok (.getfield index, 3)) (hp : pc + 3 = pc') (k : kV Z nL pc' lv (kr Z 46 :: stk) st) : kV Z nL pc lv (kr Z c :: stk) st := k_get (j := 0) C hk (by decide) rfl inK3 (by decide) hw rfl hdg hp k
theorem g_X3_yard (C : kC Z cc own nL rm) {c index : Nat} (hk : kd c = 3) (hw : Cond.fieldLink own index "TalkKnots$TextReader" "yard" "LTalkKnots$Yard;" ∈ kw) (hdg : decode cc pc = .ok (.getfield index, 3)) (hp : pc + 3 = pc') (k : kV Z nL pc' lv (kr Z 16 :: stk) st) : kV Z nL pc lv (kr Z c :: stk) st := k_get (j := 1) C hk (by decide) rfl inK3 (by decide) hw rfl hdg hp k
theorem g_X3_at (C : kC Z cc own nL rm) {c index : Nat} (hk : kd c = 3) (hw : Cond.fieldLink own index "TalkKnots$TextReader" "at" "I" ∈ kw) (hdg : decode cc pc = .ok (.getfield index, 3)) (hp : pc + 3 = pc') (k : kV Z nL pc' lv (.int (st.1 c 2) :: stk) st) : kV Z nL pc lv (kr Z c :: stk) st := k_get (j := 2) C hk (by decide) rfl inK3 (by decide) hw rfl hdg hp k
theorem p_X3_at (C : kC Z cc own nL rm) {c index : Nat} {x : Int32} (hk : kd c = 3) (hw : Cond.fieldLink own index "TalkKnots$TextReader" "at" "I" ∈ kw) (hdg : decode cc pc = .ok (.putfield index, 3)) (hp : pc + 3 = pc') (k : kV Z nL pc' lv stk (kwr st c 2 x)) : kV Z nL pc lv (.int x :: kr Z c :: stk) st := k_put (j := 2) (ty := .int) (ty0 := tyX3) (st' := kwr st c 2 x) C hk (by decide) rfl inK3 tyX3_ok nmX3 (by decide) hw rfl (by decide +kernel) rfl rfl (Nat.le_of_ble_eq_true rfl) (by simp [kF, kwr, kset, va_up]) (fun b hb => kE_set b hb) hdg hp k
theorem g_X3_token (C : kC Z cc own nL rm) {c index : Nat} (hk : kd c = 3) (hw : Cond.fieldLink own index "TalkKnots$TextReader" "token" "I" ∈ kw) (hdg : decode cc pc = .ok (.getfield index, 3)) (hp : pc + 3 = pc') (k : kV Z nL pc' lv (.int (st.1 c 3) :: stk) st) : kV Z nL pc lv (kr Z c :: stk) st := k_get (j := 3) C hk (by decide) rfl inK3 (by decide) hw rfl hdg hp k
theorem p_X3_token (C : kC Z cc own nL rm) {c index : Nat} {x : Int32} (hk : kd c = 3) (hw : Cond.fieldLink own index "TalkKnots$TextReader" "token" "I" ∈ kw) (hdg : decode cc pc = .ok (.putfield index, 3)) (hp : pc + 3 = pc') (k : kV Z nL pc' lv stk (kwr st c 3 x)) : kV Z nL pc lv (.int x :: kr Z c :: stk) st := k_put (j := 3) (ty := .int) (ty0 := tyX3) (st' := kwr st c 3 x) C hk (by decide) rfl inK3 tyX3_ok nmX3 (by decide) hw rfl (by decide +kernel) rfl rfl (Nat.le_of_ble_eq_true rfl) (by simp [kF, kwr, kset, va_up]) (fun b hb => kE_set b hb) hdg hp k
theorem g_X3_start (C : kC Z cc own nL rm) {c index : Nat} (hk : kd c = 3) (hw : Cond.fieldLink own index "TalkKnots$TextReader" "start" "I" ∈ kw) (hdg : decode cc pc = .ok (.getfield index, 3)) (hp : pc + 3 = pc') (k : kV Z nL pc' lv (.int (st.1 c 4) :: stk) st) : kV Z nL pc lv (kr Z c :: stk) st := k_get (j := 4) C hk (by decide) rfl inK3 (by decide) hw rfl hdg hp k
theorem p_X3_start (C : kC Z cc own nL rm) {c index : Nat} {x : Int32} (hk : kd c = 3) (hw : Cond.fieldLink own index "TalkKnots$TextReader" "start" "I" ∈ kw) (hdg : decode cc pc = .ok (.putfield index, 3)) (hp : pc + 3 = pc') (k : kV Z nL pc' lv stk (kwr st c 4 x)) : kV Z nL pc lv (.int x :: kr Z c :: stk) st := k_put (j := 4) (ty := .int) (ty0 := tyX3) (st' := kwr st c 4 x) C hk (by decide) rfl inK3 tyX3_ok nmX3 (by decide) hw rfl (by decide +kernel) rfl rfl (Nat.le_of_ble_eq_true rfl) (by simp [kF, kwr, kset, va_up]) (fun b hb => kE_set b hb) hdg hp k
theorem g_X3_value (C : kC Z cc own nL rm) {c index : Nat} (hk : kd c = 3) (hw : Cond.fieldLink own index "TalkKnots$TextReader" "value" "I" ∈ kw) (hdg : decode cc pc = .ok (.getfield index, 3)) (hp : pc + 3 = pc') (k : kV Z nL pc' lv (.int (st.1 c 5) :: stk) st) : kV Z nL pc lv (kr Z c :: stk) st := k_get (j := 5) C hk (by decide) rfl inK3 (by decide) hw rfl hdg hp k
theorem p_X3_value (C : kC Z cc own nL rm) {c index : Nat} {x : Int32} (hk : kd c = 3) (hw : Cond.fieldLink own index "TalkKnots$TextReader" "value" "I" ∈ kw) (hdg : decode cc pc = .ok (.putfield index, 3)) (hp : pc + 3 = pc') (k : kV Z nL pc' lv stk (kwr st c 5 x)) : kV Z nL pc lv (.int x :: kr Z c :: stk) st := k_put (j := 5) (ty := .int) (ty0 := tyX3) (st' := kwr st c 5 x) C hk (by decide) rfl inK3 tyX3_ok nmX3 (by decide) hw rfl (by decide +kernel) rfl rfl (Nat.le_of_ble_eq_true rfl) (by simp [kF, kwr, kset, va_up]) (fun b hb => kE_set b hb) hdg hp k
theorem g_X3_taken (C : kC Z cc own nL rm) {c index : Nat} (hk : kd c = 3) (hw : Cond.fieldLink own index "TalkKnots$TextReader" "taken" "I" ∈ kw) (hdg : decode cc pc = .ok (.getfield index, 3)) (hp : pc + 3 = pc') (k : kV Z nL pc' lv (.int (st.1 c 6) :: stk) st) : kV Z nL pc lv (kr Z c :: stk) st := k_get (j := 6) C hk (by decide) rfl inK3 (by decide) hw rfl hdg hp k
theorem p_X3_taken (C : kC Z cc own nL rm) {c index : Nat} {x : Int32} (hk : kd c = 3) (hw : Cond.fieldLink own index "TalkKnots$TextReader" "taken" "I" ∈ kw) (hdg : decode cc pc = .ok (.putfield index, 3)) (hp : pc + 3 = pc') (k : kV Z nL pc' lv stk (kwr st c 6 x)) : kV Z nL pc lv (.int x :: kr Z c :: stk) st := k_put (j := 6) (ty := .int) (ty0 := tyX3) (st' := kwr st c 6 x) C hk (by decide) rfl inK3 tyX3_ok nmX3 (by decide) hw rfl (by decide +kernel) rfl rfl (Nat.le_of_ble_eq_true rfl) (by simp [kF, kwr, kset, va_up]) (fun b hb => kE_set b hb) hdg hp k
theorem g_X4_hour (C : kC Z cc own nL rm) {c index : Nat} (hk : kd c = 4) (hw : Cond.fieldLink own index "TalkKnots$Yard" "hour" "I" ∈ kw) (hdg : decode cc pc = .ok (.getfield index, 3)) (hp : pc + 3 = pc') (k : kV Z nL pc' lv (.int (st.1 c 0) :: stk) st) : kV Z nL pc lv (kr Z c :: stk) st := k_get (j := 0) C hk (by decide) rfl inK4 (by decide) hw rfl hdg hp k
theorem p_X4_hour (C : kC Z cc own nL rm) {c index : Nat} {x : Int32} (hk : kd c = 4) (hw : Cond.fieldLink own index "TalkKnots$Yard" "hour" "I" ∈ kw) (hdg : decode cc pc = .ok (.putfield index, 3)) (hp : pc + 3 = pc') (k : kV Z nL pc' lv stk (kwr st c 0 x)) : kV Z nL pc lv (.int x :: kr Z c :: stk) st := k_put (j := 0) (ty := .int) (ty0 := tyX4) (st' := kwr st c 0 x) C hk (by decide) rfl inK4 tyX4_ok nmX4 (by decide) hw rfl (by decide +kernel) rfl rfl (Nat.le_of_ble_eq_true rfl) (by simp [kF, kwr, kset, va_up]) (fun b hb => kE_set b hb) hdg hp k
theorem g_X4_count (C : kC Z cc own nL rm) {c index : Nat} (hk : kd c = 4) (hw : Cond.fieldLink own index "TalkKnots$Yard" "count" "I" ∈ kw) (hdg : decode cc pc = .ok (.getfield index, 3)) (hp : pc + 3 = pc') (k : kV Z nL pc' lv (.int (st.1 c 1) :: stk) st) : kV Z nL pc lv (kr Z c :: stk) st := k_get (j := 1) C hk (by decide) rfl inK4 (by decide) hw rfl hdg hp k
theorem p_X4_count (C : kC Z cc own nL rm) {c index : Nat} {x : Int32} (hk : kd c = 4) (hw : Cond.fieldLink own index "TalkKnots$Yard" "count" "I" ∈ kw) (hdg : decode cc pc = .ok (.putfield index, 3)) (hp : pc + 3 = pc') (k : kV Z nL pc' lv stk (kwr st c 1 x)) : kV Z nL pc lv (.int x :: kr Z c :: stk) st := k_put (j := 1) (ty := .int) (ty0 := tyX4) (st' := kwr st c 1 x) C hk (by decide) rfl inK4 tyX4_ok nmX4 (by decide) hw rfl (by decide +kernel) rfl rfl (Nat.le_of_ble_eq_true rfl) (by simp [kF, kwr, kset, va_up]) (fun b hb => kE_set b hb) hdg hp k
theorem g_X4_up (C : kC Z cc own nL rm) {c index : Nat} (hk : kd c = 4) (hw : Cond.fieldLink own index "TalkKnots$Yard" "up" "I" ∈ kw) (hdg : decode cc pc = .ok (.getfield index, 3)) (hp : pc + 3 = pc') (k : kV Z nL pc' lv (.int (st.1 c 2) :: stk) st) : kV Z nL pc lv (kr Z c :: stk) st := k_get (j := 2) C hk (by decide) rfl inK4 (by decide) hw rfl hdg hp k
theorem p_X4_up (C : kC Z cc own nL rm) {c index : Nat} {x : Int32} (hk : kd c = 4) (hw : Cond.fieldLink own index "TalkKnots$Yard" "up" "I" ∈ kw) (hdg : decode cc pc = .ok (.putfield index, 3)) (hp : pc + 3 = pc') (k : kV Z nL pc' lv stk (kwr st c 2 x)) : kV Z nL pc lv (.int x :: kr Z c :: stk) st := k_put (j := 2) (ty := .int) (ty0 := tyX4) (st' := kwr st c 2 x) C hk (by decide) rfl inK4 tyX4_ok nmX4 (by decide) hw rfl (by decide +kernel) rfl rfl (Nat.le_of_ble_eq_true rfl) (by simp [kF, kwr, kset, va_up]) (fun b hb => kE_set b hb) hdg hp k
theorem g_X4_winds (C : kC Z cc own nL rm) {c index : Nat} (hk : kd c = 4) (hw : Cond.fieldLink own index "TalkKnots$Yard" "winds" "[I" ∈ kw) (hdg : decode cc pc = .ok (.getfield index, 3)) (hp : pc + 3 = pc') (k : kV Z nL pc' lv (kr Z (c + 1) :: stk) st) : kV Z nL pc lv (kr Z c :: stk) st := k_get (j := 3) C hk (by decide) rfl inK4 (by decide) hw rfl hdg hp k
theorem g_X4_weights (C : kC Z cc own nL rm) {c index : Nat} (hk : kd c = 4) (hw : Cond.fieldLink own index "TalkKnots$Yard" "weights" "[I" ∈ kw) (hdg : decode cc pc = .ok (.getfield index, 3)) (hp : pc + 3 = pc') (k : kV Z nL pc' lv (kr Z (c + 2) :: stk) st) : kV Z nL pc lv (kr Z c :: stk) st := k_get (j := 4) C hk (by decide) rfl inK4 (by decide) hw rfl hdg hp k
theorem g_X4_knots (C : kC Z cc own nL rm) {c index : Nat} (hk : kd c = 4) (hw : Cond.fieldLink own index "TalkKnots$Yard" "knots" "[LTalkKnots$Knot;" ∈ kw) (hdg : decode cc pc = .ok (.getfield index, 3)) (hp : pc + 3 = pc') (k : kV Z nL pc' lv (kr Z (c + 3) :: stk) st) : kV Z nL pc lv (kr Z c :: stk) st := k_get (j := 5) C hk (by decide) rfl inK4 (by decide) hw rfl hdg hp k
theorem g_X4_fastOn (C : kC Z cc own nL rm) {c index : Nat} (hk : kd c = 4) (hw : Cond.fieldLink own index "TalkKnots$Yard" "fastOn" "[I" ∈ kw) (hdg : decode cc pc = .ok (.getfield index, 3)) (hp : pc + 3 = pc') (k : kV Z nL pc' lv (kr Z (c + 4) :: stk) st) : kV Z nL pc lv (kr Z c :: stk) st := k_get (j := 6) C hk (by decide) rfl inK4 (by decide) hw rfl hdg hp k
theorem g_X5_present (C : kC Z cc own nL rm) {c index : Nat} (hk : kd c = 5) (hw : Cond.fieldLink own index "TalkKnots" "present" "LTalkKnots$Yard;" ∈ kw) (hdg : decode cc pc = .ok (.getfield index, 3)) (hp : pc + 3 = pc') (k : kV Z nL pc' lv (kr Z 1 :: stk) st) : kV Z nL pc lv (kr Z c :: stk) st := k_get (j := 0) C hk (by decide) rfl inK5 (by decide) hw rfl hdg hp k
theorem g_X5_trial (C : kC Z cc own nL rm) {c index : Nat} (hk : kd c = 5) (hw : Cond.fieldLink own index "TalkKnots" "trial" "LTalkKnots$Yard;" ∈ kw) (hdg : decode cc pc = .ok (.getfield index, 3)) (hp : pc + 3 = pc') (k : kV Z nL pc' lv (kr Z 16 :: stk) st) : kV Z nL pc lv (kr Z c :: stk) st := k_get (j := 1) C hk (by decide) rfl inK5 (by decide) hw rfl hdg hp k
theorem g_X5_kept (C : kC Z cc own nL rm) {c index : Nat} (hk : kd c = 5) (hw : Cond.fieldLink own index "TalkKnots" "kept" "LTalkKnots$Yard;" ∈ kw) (hdg : decode cc pc = .ok (.getfield index, 3)) (hp : pc + 3 = pc') (k : kV Z nL pc' lv (kr Z 31 :: stk) st) : kV Z nL pc lv (kr Z c :: stk) st := k_get (j := 2) C hk (by decide) rfl inK5 (by decide) hw rfl hdg hp k
theorem g_X5_isKept (C : kC Z cc own nL rm) {c index : Nat} (hk : kd c = 5) (hw : Cond.fieldLink own index "TalkKnots" "isKept" "Z" ∈ kw) (hdg : decode cc pc = .ok (.getfield index, 3)) (hp : pc + 3 = pc') (k : kV Z nL pc' lv (.int (st.1 c 3) :: stk) st) : kV Z nL pc lv (kr Z c :: stk) st := k_get (j := 3) C hk (by decide) rfl inK5 (by decide) hw rfl hdg hp k
theorem p_X5_isKept (C : kC Z cc own nL rm) {c index : Nat} {x : Int32} (hb : x = 0 ∨ x = 1) (hk : kd c = 5) (hw : Cond.fieldLink own index "TalkKnots" "isKept" "Z" ∈ kw) (hdg : decode cc pc = .ok (.putfield index, 3)) (hp : pc + 3 = pc') (k : kV Z nL pc' lv stk (kwr st c 3 x)) : kV Z nL pc lv (.int x :: kr Z c :: stk) st := k_put (j := 3) (ty := .boolean) (ty0 := tyX5) (st' := kwr st c 3 x) C hk (by decide) rfl inK5 tyX5_ok nmX5 (by decide) hw rfl (by decide +kernel) (kb_n hb) (kb_f hb) (Nat.le_of_ble_eq_true rfl) (by simp [kF, kwr, kset, va_up]) (fun b hb => kE_set b hb) hdg hp k
theorem g_X5_tape (C : kC Z cc own nL rm) {c index : Nat} (hk : kd c = 5) (hw : Cond.fieldLink own index "TalkKnots" "tape" "LTalkKnots$Tape;" ∈ kw) (hdg : decode cc pc = .ok (.getfield index, 3)) (hp : pc + 3 = pc') (k : kV Z nL pc' lv (kr Z 46 :: stk) st) : kV Z nL pc lv (kr Z c :: stk) st := k_get (j := 4) C hk (by decide) rfl inK5 (by decide) hw rfl hdg hp k
theorem g_X5_reader (C : kC Z cc own nL rm) {c index : Nat} (hk : kd c = 5) (hw : Cond.fieldLink own index "TalkKnots" "reader" "LTalkKnots$TextReader;" ∈ kw) (hdg : decode cc pc = .ok (.getfield index, 3)) (hp : pc + 3 = pc') (k : kV Z nL pc' lv (kr Z 48 :: stk) st) : kV Z nL pc lv (kr Z c :: stk) st := k_get (j := 5) C hk (by decide) rfl inK5 (by decide) hw rfl hdg hp k
theorem g_X5_sheets (C : kC Z cc own nL rm) {c index : Nat} (hk : kd c = 5) (hw : Cond.fieldLink own index "TalkKnots" "sheets" "[LTalkKnots$Sheet;" ∈ kw) (hdg : decode cc pc = .ok (.getfield index, 3)) (hp : pc + 3 = pc') (k : kV Z nL pc' lv (kr Z 49 :: stk) st) : kV Z nL pc lv (kr Z c :: stk) st := k_get (j := 6) C hk (by decide) rfl inK5 (by decide) hw rfl hdg hp k
theorem g_X5_told (C : kC Z cc own nL rm) {c index : Nat} (hk : kd c = 5) (hw : Cond.fieldLink own index "TalkKnots" "told" "[I" ∈ kw) (hdg : decode cc pc = .ok (.getfield index, 3)) (hp : pc + 3 = pc') (k : kV Z nL pc' lv (kr Z 50 :: stk) st) : kV Z nL pc lv (kr Z c :: stk) st := k_get (j := 7) C hk (by decide) rfl inK5 (by decide) hw rfl hdg hp k
theorem g_X6_row (C : kC Z cc own nL rm) {c index : Nat} (hk : kd c = 6) (hw : Cond.fieldLink own index "TalkKnotsModel" "row" "[I" ∈ kw) (hdg : decode cc pc = .ok (.getfield index, 3)) (hp : pc + 3 = pc') (k : kV Z nL pc' lv (kr Z 60 :: stk) st) : kV Z nL pc lv (kr Z c :: stk) st := k_get (j := 0) C hk (by decide) rfl inK6 (by decide) hw rfl hdg hp k
theorem g_X6_found (C : kC Z cc own nL rm) {c index : Nat} (hk : kd c = 6) (hw : Cond.fieldLink own index "TalkKnotsModel" "found" "[I" ∈ kw) (hdg : decode cc pc = .ok (.getfield index, 3)) (hp : pc + 3 = pc') (k : kV Z nL pc' lv (kr Z 61 :: stk) st) : kV Z nL pc lv (kr Z c :: stk) st := k_get (j := 1) C hk (by decide) rfl inK6 (by decide) hw rfl hdg hp k
theorem g_X6_tried (C : kC Z cc own nL rm) {c index : Nat} (hk : kd c = 6) (hw : Cond.fieldLink own index "TalkKnotsModel" "tried" "[I" ∈ kw) (hdg : decode cc pc = .ok (.getfield index, 3)) (hp : pc + 3 = pc') (k : kV Z nL pc' lv (kr Z 62 :: stk) st) : kV Z nL pc lv (kr Z c :: stk) st := k_get (j := 2) C hk (by decide) rfl inK6 (by decide) hw rfl hdg hp k
theorem g_X6_before1 (C : kC Z cc own nL rm) {c index : Nat} (hk : kd c = 6) (hw : Cond.fieldLink own index "TalkKnotsModel" "before1" "[I" ∈ kw) (hdg : decode cc pc = .ok (.getfield index, 3)) (hp : pc + 3 = pc') (k : kV Z nL pc' lv (kr Z 63 :: stk) st) : kV Z nL pc lv (kr Z c :: stk) st := k_get (j := 3) C hk (by decide) rfl inK6 (by decide) hw rfl hdg hp k
theorem g_X6_tape (C : kC Z cc own nL rm) {c index : Nat} (hk : kd c = 6) (hw : Cond.fieldLink own index "TalkKnotsModel" "tape" "[I" ∈ kw) (hdg : decode cc pc = .ok (.getfield index, 3)) (hp : pc + 3 = pc') (k : kV Z nL pc' lv (kr Z 64 :: stk) st) : kV Z nL pc lv (kr Z c :: stk) st := k_get (j := 4) C hk (by decide) rfl inK6 (by decide) hw rfl hdg hp k
theorem g_X6_tapeMany (C : kC Z cc own nL rm) {c index : Nat} (hk : kd c = 6) (hw : Cond.fieldLink own index "TalkKnotsModel" "tapeMany" "I" ∈ kw) (hdg : decode cc pc = .ok (.getfield index, 3)) (hp : pc + 3 = pc') (k : kV Z nL pc' lv (.int (st.1 c 5) :: stk) st) : kV Z nL pc lv (kr Z c :: stk) st := k_get (j := 5) C hk (by decide) rfl inK6 (by decide) hw rfl hdg hp k
theorem p_X6_tapeMany (C : kC Z cc own nL rm) {c index : Nat} {x : Int32} (hk : kd c = 6) (hw : Cond.fieldLink own index "TalkKnotsModel" "tapeMany" "I" ∈ kw) (hdg : decode cc pc = .ok (.putfield index, 3)) (hp : pc + 3 = pc') (k : kV Z nL pc' lv stk (kwr st c 5 x)) : kV Z nL pc lv (.int x :: kr Z c :: stk) st := k_put (j := 5) (ty := .int) (ty0 := tyX6) (st' := kwr st c 5 x) C hk (by decide) rfl inK6 tyX6_ok nmX6 (by decide) hw rfl (by decide +kernel) rfl rfl (Nat.le_of_ble_eq_true rfl) (by simp [kF, kwr, kset, va_up]) (fun b hb => kE_set b hb) hdg hp k
theorem g_X6_sort (C : kC Z cc own nL rm) {c index : Nat} (hk : kd c = 6) (hw : Cond.fieldLink own index "TalkKnotsModel" "sort" "I" ∈ kw) (hdg : decode cc pc = .ok (.getfield index, 3)) (hp : pc + 3 = pc') (k : kV Z nL pc' lv (.int (st.1 c 6) :: stk) st) : kV Z nL pc lv (kr Z c :: stk) st := k_get (j := 6) C hk (by decide) rfl inK6 (by decide) hw rfl hdg hp k
theorem p_X6_sort (C : kC Z cc own nL rm) {c index : Nat} {x : Int32} (hk : kd c = 6) (hw : Cond.fieldLink own index "TalkKnotsModel" "sort" "I" ∈ kw) (hdg : decode cc pc = .ok (.putfield index, 3)) (hp : pc + 3 = pc') (k : kV Z nL pc' lv stk (kwr st c 6 x)) : kV Z nL pc lv (.int x :: kr Z c :: stk) st := k_put (j := 6) (ty := .int) (ty0 := tyX6) (st' := kwr st c 6 x) C hk (by decide) rfl inK6 tyX6_ok nmX6 (by decide) hw rfl (by decide +kernel) rfl rfl (Nat.le_of_ble_eq_true rfl) (by simp [kF, kwr, kset, va_up]) (fun b hb => kE_set b hb) hdg hp k
theorem g_X6_begins (C : kC Z cc own nL rm) {c index : Nat} (hk : kd c = 6) (hw : Cond.fieldLink own index "TalkKnotsModel" "begins" "I" ∈ kw) (hdg : decode cc pc = .ok (.getfield index, 3)) (hp : pc + 3 = pc') (k : kV Z nL pc' lv (.int (st.1 c 7) :: stk) st) : kV Z nL pc lv (kr Z c :: stk) st := k_get (j := 7) C hk (by decide) rfl inK6 (by decide) hw rfl hdg hp k
theorem p_X6_begins (C : kC Z cc own nL rm) {c index : Nat} {x : Int32} (hk : kd c = 6) (hw : Cond.fieldLink own index "TalkKnotsModel" "begins" "I" ∈ kw) (hdg : decode cc pc = .ok (.putfield index, 3)) (hp : pc + 3 = pc') (k : kV Z nL pc' lv stk (kwr st c 7 x)) : kV Z nL pc lv (.int x :: kr Z c :: stk) st := k_put (j := 7) (ty := .int) (ty0 := tyX6) (st' := kwr st c 7 x) C hk (by decide) rfl inK6 tyX6_ok nmX6 (by decide) hw rfl (by decide +kernel) rfl rfl (Nat.le_of_ble_eq_true rfl) (by simp [kF, kwr, kset, va_up]) (fun b hb => kE_set b hb) hdg hp k
theorem g_X6_tokenEnds (C : kC Z cc own nL rm) {c index : Nat} (hk : kd c = 6) (hw : Cond.fieldLink own index "TalkKnotsModel" "tokenEnds" "I" ∈ kw) (hdg : decode cc pc = .ok (.getfield index, 3)) (hp : pc + 3 = pc') (k : kV Z nL pc' lv (.int (st.1 c 8) :: stk) st) : kV Z nL pc lv (kr Z c :: stk) st := k_get (j := 8) C hk (by decide) rfl inK6 (by decide) hw rfl hdg hp k
theorem p_X6_tokenEnds (C : kC Z cc own nL rm) {c index : Nat} {x : Int32} (hk : kd c = 6) (hw : Cond.fieldLink own index "TalkKnotsModel" "tokenEnds" "I" ∈ kw) (hdg : decode cc pc = .ok (.putfield index, 3)) (hp : pc + 3 = pc') (k : kV Z nL pc' lv stk (kwr st c 8 x)) : kV Z nL pc lv (.int x :: kr Z c :: stk) st := k_put (j := 8) (ty := .int) (ty0 := tyX6) (st' := kwr st c 8 x) C hk (by decide) rfl inK6 tyX6_ok nmX6 (by decide) hw rfl (by decide +kernel) rfl rfl (Nat.le_of_ble_eq_true rfl) (by simp [kF, kwr, kset, va_up]) (fun b hb => kE_set b hb) hdg hp k
theorem g_X6_word (C : kC Z cc own nL rm) {c index : Nat} (hk : kd c = 6) (hw : Cond.fieldLink own index "TalkKnotsModel" "word" "J" ∈ kw) (hdg : decode cc pc = .ok (.getfield index, 3)) (hp : pc + 3 = pc') (k : kV Z nL pc' lv (.long (st.2 c 9) :: stk) st) : kV Z nL pc lv (kr Z c :: stk) st := k_get (j := 9) C hk (by decide) rfl inK6 (by decide) hw rfl hdg hp k
theorem p_X6_word (C : kC Z cc own nL rm) {c index : Nat} {x : Int64} (hk : kd c = 6) (hw : Cond.fieldLink own index "TalkKnotsModel" "word" "J" ∈ kw) (hdg : decode cc pc = .ok (.putfield index, 3)) (hp : pc + 3 = pc') (k : kV Z nL pc' lv stk (kwl st c 9 x)) : kV Z nL pc lv (.long x :: kr Z c :: stk) st := k_put (j := 9) (ty := .long) (ty0 := tyX6) (st' := kwl st c 9 x) C hk (by decide) rfl inK6 tyX6_ok nmX6 (by decide) hw rfl (by decide +kernel) rfl rfl (Nat.le_of_ble_eq_true rfl) (by simp [kF, kwl, ksetL, va_up]) (fun b hb => kE_setL b hb) hdg hp k
theorem g_X6_value (C : kC Z cc own nL rm) {c index : Nat} (hk : kd c = 6) (hw : Cond.fieldLink own index "TalkKnotsModel" "value" "I" ∈ kw) (hdg : decode cc pc = .ok (.getfield index, 3)) (hp : pc + 3 = pc') (k : kV Z nL pc' lv (.int (st.1 c 10) :: stk) st) : kV Z nL pc lv (kr Z c :: stk) st := k_get (j := 10) C hk (by decide) rfl inK6 (by decide) hw rfl hdg hp k
theorem p_X6_value (C : kC Z cc own nL rm) {c index : Nat} {x : Int32} (hk : kd c = 6) (hw : Cond.fieldLink own index "TalkKnotsModel" "value" "I" ∈ kw) (hdg : decode cc pc = .ok (.putfield index, 3)) (hp : pc + 3 = pc') (k : kV Z nL pc' lv stk (kwr st c 10 x)) : kV Z nL pc lv (.int x :: kr Z c :: stk) st := k_put (j := 10) (ty := .int) (ty0 := tyX6) (st' := kwr st c 10 x) C hk (by decide) rfl inK6 tyX6_ok nmX6 (by decide) hw rfl (by decide +kernel) rfl rfl (Nat.le_of_ble_eq_true rfl) (by simp [kF, kwr, kset, va_up]) (fun b hb => kE_set b hb) hdg hp k
theorem g_X6_good (C : kC Z cc own nL rm) {c index : Nat} (hk : kd c = 6) (hw : Cond.fieldLink own index "TalkKnotsModel" "good" "Z" ∈ kw) (hdg : decode cc pc = .ok (.getfield index, 3)) (hp : pc + 3 = pc') (k : kV Z nL pc' lv (.int (st.1 c 11) :: stk) st) : kV Z nL pc lv (kr Z c :: stk) st := k_get (j := 11) C hk (by decide) rfl inK6 (by decide) hw rfl hdg hp k
theorem p_X6_good (C : kC Z cc own nL rm) {c index : Nat} {x : Int32} (hb : x = 0 ∨ x = 1) (hk : kd c = 6) (hw : Cond.fieldLink own index "TalkKnotsModel" "good" "Z" ∈ kw) (hdg : decode cc pc = .ok (.putfield index, 3)) (hp : pc + 3 = pc') (k : kV Z nL pc' lv stk (kwr st c 11 x)) : kV Z nL pc lv (.int x :: kr Z c :: stk) st := k_put (j := 11) (ty := .boolean) (ty0 := tyX6) (st' := kwr st c 11 x) C hk (by decide) rfl inK6 tyX6_ok nmX6 (by decide) hw rfl (by decide +kernel) (kb_n hb) (kb_f hb) (Nat.le_of_ble_eq_true rfl) (by simp [kF, kwr, kset, va_up]) (fun b hb => kE_set b hb) hdg hp k
theorem g_X6_bitsOf (C : kC Z cc own nL rm) {c index : Nat} (hk : kd c = 6) (hw : Cond.fieldLink own index "TalkKnotsModel" "bitsOf" "[I" ∈ kw) (hdg : decode cc pc = .ok (.getfield index, 3)) (hp : pc + 3 = pc') (k : kV Z nL pc' lv (kr Z 65 :: stk) st) : kV Z nL pc lv (kr Z c :: stk) st := k_get (j := 12) C hk (by decide) rfl inK6 (by decide) hw rfl hdg hp k
theorem g_X6_sizeOf (C : kC Z cc own nL rm) {c index : Nat} (hk : kd c = 6) (hw : Cond.fieldLink own index "TalkKnotsModel" "sizeOf" "[I" ∈ kw) (hdg : decode cc pc = .ok (.getfield index, 3)) (hp : pc + 3 = pc') (k : kV Z nL pc' lv (kr Z 66 :: stk) st) : kV Z nL pc lv (kr Z c :: stk) st := k_get (j := 13) C hk (by decide) rfl inK6 (by decide) hw rfl hdg hp k
theorem g_X6_sheets (C : kC Z cc own nL rm) {c index : Nat} (hk : kd c = 6) (hw : Cond.fieldLink own index "TalkKnotsModel" "sheets" "[J" ∈ kw) (hdg : decode cc pc = .ok (.getfield index, 3)) (hp : pc + 3 = pc') (k : kV Z nL pc' lv (kr Z 67 :: stk) st) : kV Z nL pc lv (kr Z c :: stk) st := k_get (j := 14) C hk (by decide) rfl inK6 (by decide) hw rfl hdg hp k
theorem g_X6_lent (C : kC Z cc own nL rm) {c index : Nat} (hk : kd c = 6) (hw : Cond.fieldLink own index "TalkKnotsModel" "lent" "[J" ∈ kw) (hdg : decode cc pc = .ok (.getfield index, 3)) (hp : pc + 3 = pc') (k : kV Z nL pc' lv (kr Z 68 :: stk) st) : kV Z nL pc lv (kr Z c :: stk) st := k_get (j := 15) C hk (by decide) rfl inK6 (by decide) hw rfl hdg hp k
theorem g_X6_image (C : kC Z cc own nL rm) {c index : Nat} (hk : kd c = 6) (hw : Cond.fieldLink own index "TalkKnotsModel" "image" "[I" ∈ kw) (hdg : decode cc pc = .ok (.getfield index, 3)) (hp : pc + 3 = pc') (k : kV Z nL pc' lv (kr Z 69 :: stk) st) : kV Z nL pc lv (kr Z c :: stk) st := k_get (j := 16) C hk (by decide) rfl inK6 (by decide) hw rfl hdg hp k
theorem g_X6_before (C : kC Z cc own nL rm) {c index : Nat} (hk : kd c = 6) (hw : Cond.fieldLink own index "TalkKnotsModel" "before" "[I" ∈ kw) (hdg : decode cc pc = .ok (.getfield index, 3)) (hp : pc + 3 = pc') (k : kV Z nL pc' lv (kr Z 70 :: stk) st) : kV Z nL pc lv (kr Z c :: stk) st := k_get (j := 17) C hk (by decide) rfl inK6 (by decide) hw rfl hdg hp k
theorem g_X6_isKept (C : kC Z cc own nL rm) {c index : Nat} (hk : kd c = 6) (hw : Cond.fieldLink own index "TalkKnotsModel" "isKept" "Z" ∈ kw) (hdg : decode cc pc = .ok (.getfield index, 3)) (hp : pc + 3 = pc') (k : kV Z nL pc' lv (.int (st.1 c 18) :: stk) st) : kV Z nL pc lv (kr Z c :: stk) st := k_get (j := 18) C hk (by decide) rfl inK6 (by decide) hw rfl hdg hp k
theorem p_X6_isKept (C : kC Z cc own nL rm) {c index : Nat} {x : Int32} (hb : x = 0 ∨ x = 1) (hk : kd c = 6) (hw : Cond.fieldLink own index "TalkKnotsModel" "isKept" "Z" ∈ kw) (hdg : decode cc pc = .ok (.putfield index, 3)) (hp : pc + 3 = pc') (k : kV Z nL pc' lv stk (kwr st c 18 x)) : kV Z nL pc lv (.int x :: kr Z c :: stk) st := k_put (j := 18) (ty := .boolean) (ty0 := tyX6) (st' := kwr st c 18 x) C hk (by decide) rfl inK6 tyX6_ok nmX6 (by decide) hw rfl (by decide +kernel) (kb_n hb) (kb_f hb) (Nat.le_of_ble_eq_true rfl) (by simp [kF, kwr, kset, va_up]) (fun b hb => kE_set b hb) hdg hp k
end
end
