-- ===== PART A: goes FIRST, ahead of the names: the tables' words, and 'selects' of the private methods out of them =====
/-- a private method of a class that the tables say can be made, by its rows of tables_1 -/
def lw_okq (q : MethodName × Nat) : Prop := (q.1.cls ≠ "java/lang/invoke/MethodHandle" ∧ q.1.cls ≠ "java/lang/invoke/VarHandle") ∧ Cond.instantiable q.1.cls q.2 ∈ tables_1 ∧ Cond.privateMethod q.1 ∈ tables_1 ∧ Cond.instanceMethod q.1 ∈ tables_1
theorem lw_p0 : lw_okq (⟨"SpanValues", "putFour", "(I)V"⟩, 16) := ⟨⟨by decide +kernel, by decide +kernel⟩, List.mem_of_getElem? (i := 23) (by decide +kernel), List.mem_of_getElem? (i := 634) (by decide +kernel), List.mem_of_getElem? (i := 635) (by decide +kernel)⟩
theorem lw_p1 : lw_okq (⟨"SpanValues$Reader", "advance", "()V"⟩, 9) := ⟨⟨by decide +kernel, by decide +kernel⟩, List.mem_of_getElem? (i := 31) (by decide +kernel), List.mem_of_getElem? (i := 651) (by decide +kernel), List.mem_of_getElem? (i := 652) (by decide +kernel)⟩
theorem lw_p2 : lw_okq (⟨"SpanValues$Reader", "isWord", "(Ljava/lang/String;)Z"⟩, 9) := ⟨⟨by decide +kernel, by decide +kernel⟩, List.mem_of_getElem? (i := 31) (by decide +kernel), List.mem_of_getElem? (i := 668) (by decide +kernel), List.mem_of_getElem? (i := 669) (by decide +kernel)⟩
theorem lw_p3 : lw_okq (⟨"SpanValues$Reader", "readRule", "()V"⟩, 9) := ⟨⟨by decide +kernel, by decide +kernel⟩, List.mem_of_getElem? (i := 31) (by decide +kernel), List.mem_of_getElem? (i := 720) (by decide +kernel), List.mem_of_getElem? (i := 721) (by decide +kernel)⟩
theorem lw_p4 : lw_okq (⟨"SpanValues$Reader", "fail", "(I)V"⟩, 9) := ⟨⟨by decide +kernel, by decide +kernel⟩, List.mem_of_getElem? (i := 31) (by decide +kernel), List.mem_of_getElem? (i := 724) (by decide +kernel), List.mem_of_getElem? (i := 725) (by decide +kernel)⟩
theorem lw_p5 : lw_okq (⟨"SpanValues$Reader", "readPart", "(Z)I"⟩, 9) := ⟨⟨by decide +kernel, by decide +kernel⟩, List.mem_of_getElem? (i := 31) (by decide +kernel), List.mem_of_getElem? (i := 728) (by decide +kernel), List.mem_of_getElem? (i := 729) (by decide +kernel)⟩
theorem lw_p6 : lw_okq (⟨"SpanValues$Reader", "isLabel", "()Z"⟩, 9) := ⟨⟨by decide +kernel, by decide +kernel⟩, List.mem_of_getElem? (i := 31) (by decide +kernel), List.mem_of_getElem? (i := 732) (by decide +kernel), List.mem_of_getElem? (i := 733) (by decide +kernel)⟩
theorem lw_p7 : lw_okq (⟨"SpanValues$Reader", "isLetter", "()Z"⟩, 9) := ⟨⟨by decide +kernel, by decide +kernel⟩, List.mem_of_getElem? (i := 31) (by decide +kernel), List.mem_of_getElem? (i := 736) (by decide +kernel), List.mem_of_getElem? (i := 737) (by decide +kernel)⟩
theorem lw_p8 : lw_okq (⟨"SpanValues$Reader", "passSign", "(C)V"⟩, 9) := ⟨⟨by decide +kernel, by decide +kernel⟩, List.mem_of_getElem? (i := 31) (by decide +kernel), List.mem_of_getElem? (i := 740) (by decide +kernel), List.mem_of_getElem? (i := 741) (by decide +kernel)⟩
theorem lw_p9 : lw_okq (⟨"SpanValues$Reader", "readNumber", "(II)I"⟩, 9) := ⟨⟨by decide +kernel, by decide +kernel⟩, List.mem_of_getElem? (i := 31) (by decide +kernel), List.mem_of_getElem? (i := 745) (by decide +kernel), List.mem_of_getElem? (i := 746) (by decide +kernel)⟩
theorem lw_p10 : lw_okq (⟨"SpanValues$Reader", "readTable", "()V"⟩, 9) := ⟨⟨by decide +kernel, by decide +kernel⟩, List.mem_of_getElem? (i := 31) (by decide +kernel), List.mem_of_getElem? (i := 751) (by decide +kernel), List.mem_of_getElem? (i := 752) (by decide +kernel)⟩
theorem lw_p11 : lw_okq (⟨"SpanValues$Reader", "passWord", "(Ljava/lang/String;)V"⟩, 9) := ⟨⟨by decide +kernel, by decide +kernel⟩, List.mem_of_getElem? (i := 31) (by decide +kernel), List.mem_of_getElem? (i := 756) (by decide +kernel), List.mem_of_getElem? (i := 757) (by decide +kernel)⟩
theorem lw_p12 : lw_okq (⟨"SpanValues$Reader", "readRow", "([I)V"⟩, 9) := ⟨⟨by decide +kernel, by decide +kernel⟩, List.mem_of_getElem? (i := 31) (by decide +kernel), List.mem_of_getElem? (i := 762) (by decide +kernel), List.mem_of_getElem? (i := 763) (by decide +kernel)⟩
theorem lw_p13 : lw_okq (⟨"SpanValues", "forgetCases", "()V"⟩, 16) := ⟨⟨by decide +kernel, by decide +kernel⟩, List.mem_of_getElem? (i := 23) (by decide +kernel), List.mem_of_getElem? (i := 771) (by decide +kernel), List.mem_of_getElem? (i := 772) (by decide +kernel)⟩
theorem lw_p14 : lw_okq (⟨"SpanValues", "forgetCosts", "()V"⟩, 16) := ⟨⟨by decide +kernel, by decide +kernel⟩, List.mem_of_getElem? (i := 23) (by decide +kernel), List.mem_of_getElem? (i := 787) (by decide +kernel), List.mem_of_getElem? (i := 788) (by decide +kernel)⟩
theorem lw_p15 : lw_okq (⟨"SpanValues", "lettersAlone", "(I)Z"⟩, 16) := ⟨⟨by decide +kernel, by decide +kernel⟩, List.mem_of_getElem? (i := 23) (by decide +kernel), List.mem_of_getElem? (i := 826) (by decide +kernel), List.mem_of_getElem? (i := 827) (by decide +kernel)⟩
def lw_privs_1 : List (MethodName × Nat) := [(⟨"SpanValues", "putFour", "(I)V"⟩, 16), (⟨"SpanValues$Reader", "advance", "()V"⟩, 9), (⟨"SpanValues$Reader", "isWord", "(Ljava/lang/String;)Z"⟩, 9), (⟨"SpanValues$Reader", "readRule", "()V"⟩, 9), (⟨"SpanValues$Reader", "fail", "(I)V"⟩, 9), (⟨"SpanValues$Reader", "readPart", "(Z)I"⟩, 9), (⟨"SpanValues$Reader", "isLabel", "()Z"⟩, 9), (⟨"SpanValues$Reader", "isLetter", "()Z"⟩, 9), (⟨"SpanValues$Reader", "passSign", "(C)V"⟩, 9), (⟨"SpanValues$Reader", "readNumber", "(II)I"⟩, 9), (⟨"SpanValues$Reader", "readTable", "()V"⟩, 9), (⟨"SpanValues$Reader", "passWord", "(Ljava/lang/String;)V"⟩, 9), (⟨"SpanValues$Reader", "readRow", "([I)V"⟩, 9), (⟨"SpanValues", "forgetCases", "()V"⟩, 16), (⟨"SpanValues", "forgetCosts", "()V"⟩, 16), (⟨"SpanValues", "lettersAlone", "(I)Z"⟩, 16)]
theorem lw_r1 : ∀ q ∈ lw_privs_1, lw_okq q := List.forall_mem_cons.mpr ⟨lw_p0, List.forall_mem_cons.mpr ⟨lw_p1, List.forall_mem_cons.mpr ⟨lw_p2, List.forall_mem_cons.mpr ⟨lw_p3, List.forall_mem_cons.mpr ⟨lw_p4, List.forall_mem_cons.mpr ⟨lw_p5, List.forall_mem_cons.mpr ⟨lw_p6, List.forall_mem_cons.mpr ⟨lw_p7, List.forall_mem_cons.mpr ⟨lw_p8, List.forall_mem_cons.mpr ⟨lw_p9, List.forall_mem_cons.mpr ⟨lw_p10, List.forall_mem_cons.mpr ⟨lw_p11, List.forall_mem_cons.mpr ⟨lw_p12, List.forall_mem_cons.mpr ⟨lw_p13, List.forall_mem_cons.mpr ⟨lw_p14, List.forall_mem_cons.mpr ⟨lw_p15, fun _ h => absurd h List.not_mem_nil⟩⟩⟩⟩⟩⟩⟩⟩⟩⟩⟩⟩⟩⟩⟩⟩
theorem lw_p16 : lw_okq (⟨"SpanValues$Chart", "layOutSpans", "()V"⟩, 18) := ⟨⟨by decide +kernel, by decide +kernel⟩, List.mem_of_getElem? (i := 173) (by decide +kernel), List.mem_of_getElem? (i := 856) (by decide +kernel), List.mem_of_getElem? (i := 857) (by decide +kernel)⟩
theorem lw_p17 : lw_okq (⟨"SpanValues$Chart", "gatherLive", "()V"⟩, 18) := ⟨⟨by decide +kernel, by decide +kernel⟩, List.mem_of_getElem? (i := 173) (by decide +kernel), List.mem_of_getElem? (i := 860) (by decide +kernel), List.mem_of_getElem? (i := 861) (by decide +kernel)⟩
theorem lw_p18 : lw_okq (⟨"SpanValues$Chart", "addSpan", "(I)V"⟩, 18) := ⟨⟨by decide +kernel, by decide +kernel⟩, List.mem_of_getElem? (i := 173) (by decide +kernel), List.mem_of_getElem? (i := 868) (by decide +kernel), List.mem_of_getElem? (i := 869) (by decide +kernel)⟩
theorem lw_p19 : lw_okq (⟨"SpanValues$Chart", "addCases", "(II)V"⟩, 18) := ⟨⟨by decide +kernel, by decide +kernel⟩, List.mem_of_getElem? (i := 173) (by decide +kernel), List.mem_of_getElem? (i := 872) (by decide +kernel), List.mem_of_getElem? (i := 873) (by decide +kernel)⟩
theorem lw_p20 : lw_okq (⟨"SpanValues$Chart", "partOver", "(III)I"⟩, 18) := ⟨⟨by decide +kernel, by decide +kernel⟩, List.mem_of_getElem? (i := 173) (by decide +kernel), List.mem_of_getElem? (i := 876) (by decide +kernel), List.mem_of_getElem? (i := 877) (by decide +kernel)⟩
theorem lw_p21 : lw_okq (⟨"SpanValues$Chart", "addCase", "(IIII)V"⟩, 18) := ⟨⟨by decide +kernel, by decide +kernel⟩, List.mem_of_getElem? (i := 173) (by decide +kernel), List.mem_of_getElem? (i := 880) (by decide +kernel), List.mem_of_getElem? (i := 881) (by decide +kernel)⟩
theorem lw_p22 : lw_okq (⟨"SpanValues$Costs", "fill", "([IIZ)V"⟩, 10) := ⟨⟨by decide +kernel, by decide +kernel⟩, List.mem_of_getElem? (i := 277) (by decide +kernel), List.mem_of_getElem? (i := 884) (by decide +kernel), List.mem_of_getElem? (i := 885) (by decide +kernel)⟩
theorem lw_p23 : lw_okq (⟨"SpanValues$Costs", "leastOfCases", "([IIIZ)I"⟩, 10) := ⟨⟨by decide +kernel, by decide +kernel⟩, List.mem_of_getElem? (i := 277) (by decide +kernel), List.mem_of_getElem? (i := 888) (by decide +kernel), List.mem_of_getElem? (i := 889) (by decide +kernel)⟩
theorem lw_p24 : lw_okq (⟨"SpanValues$Costs", "relax", "([IIIZ)Z"⟩, 10) := ⟨⟨by decide +kernel, by decide +kernel⟩, List.mem_of_getElem? (i := 277) (by decide +kernel), List.mem_of_getElem? (i := 913) (by decide +kernel), List.mem_of_getElem? (i := 914) (by decide +kernel)⟩
theorem lw_p25 : lw_okq (⟨"SpanValues", "itemOf", "(III)I"⟩, 16) := ⟨⟨by decide +kernel, by decide +kernel⟩, List.mem_of_getElem? (i := 23) (by decide +kernel), List.mem_of_getElem? (i := 969) (by decide +kernel), List.mem_of_getElem? (i := 970) (by decide +kernel)⟩
theorem lw_p26 : lw_okq (⟨"SpanValues$Facts", "countSpan", "(I)V"⟩, 9) := ⟨⟨by decide +kernel, by decide +kernel⟩, List.mem_of_getElem? (i := 316) (by decide +kernel), List.mem_of_getElem? (i := 996) (by decide +kernel), List.mem_of_getElem? (i := 997) (by decide +kernel)⟩
theorem lw_p27 : lw_okq (⟨"SpanValues$Facts", "countCases", "(I)J"⟩, 9) := ⟨⟨by decide +kernel, by decide +kernel⟩, List.mem_of_getElem? (i := 316) (by decide +kernel), List.mem_of_getElem? (i := 1000) (by decide +kernel), List.mem_of_getElem? (i := 1001) (by decide +kernel)⟩
theorem lw_p28 : lw_okq (⟨"SpanValues$Facts", "labelsThatGoOn", "(I)I"⟩, 9) := ⟨⟨by decide +kernel, by decide +kernel⟩, List.mem_of_getElem? (i := 316) (by decide +kernel), List.mem_of_getElem? (i := 1026) (by decide +kernel), List.mem_of_getElem? (i := 1027) (by decide +kernel)⟩
theorem lw_p29 : lw_okq (⟨"SpanValues$Facts", "targets", "(II)I"⟩, 9) := ⟨⟨by decide +kernel, by decide +kernel⟩, List.mem_of_getElem? (i := 316) (by decide +kernel), List.mem_of_getElem? (i := 1030) (by decide +kernel), List.mem_of_getElem? (i := 1031) (by decide +kernel)⟩
theorem lw_p30 : lw_okq (⟨"SpanValues$Facts", "addTargets", "(II)V"⟩, 9) := ⟨⟨by decide +kernel, by decide +kernel⟩, List.mem_of_getElem? (i := 316) (by decide +kernel), List.mem_of_getElem? (i := 1035) (by decide +kernel), List.mem_of_getElem? (i := 1036) (by decide +kernel)⟩
theorem lw_p31 : lw_okq (⟨"SpanValues$Facts", "gather", "([JZ)V"⟩, 9) := ⟨⟨by decide +kernel, by decide +kernel⟩, List.mem_of_getElem? (i := 316) (by decide +kernel), List.mem_of_getElem? (i := 1060) (by decide +kernel), List.mem_of_getElem? (i := 1061) (by decide +kernel)⟩
def lw_privs_2 : List (MethodName × Nat) := [(⟨"SpanValues$Chart", "layOutSpans", "()V"⟩, 18), (⟨"SpanValues$Chart", "gatherLive", "()V"⟩, 18), (⟨"SpanValues$Chart", "addSpan", "(I)V"⟩, 18), (⟨"SpanValues$Chart", "addCases", "(II)V"⟩, 18), (⟨"SpanValues$Chart", "partOver", "(III)I"⟩, 18), (⟨"SpanValues$Chart", "addCase", "(IIII)V"⟩, 18), (⟨"SpanValues$Costs", "fill", "([IIZ)V"⟩, 10), (⟨"SpanValues$Costs", "leastOfCases", "([IIIZ)I"⟩, 10), (⟨"SpanValues$Costs", "relax", "([IIIZ)Z"⟩, 10), (⟨"SpanValues", "itemOf", "(III)I"⟩, 16), (⟨"SpanValues$Facts", "countSpan", "(I)V"⟩, 9), (⟨"SpanValues$Facts", "countCases", "(I)J"⟩, 9), (⟨"SpanValues$Facts", "labelsThatGoOn", "(I)I"⟩, 9), (⟨"SpanValues$Facts", "targets", "(II)I"⟩, 9), (⟨"SpanValues$Facts", "addTargets", "(II)V"⟩, 9), (⟨"SpanValues$Facts", "gather", "([JZ)V"⟩, 9)]
theorem lw_r2 : ∀ q ∈ lw_privs_2, lw_okq q := List.forall_mem_cons.mpr ⟨lw_p16, List.forall_mem_cons.mpr ⟨lw_p17, List.forall_mem_cons.mpr ⟨lw_p18, List.forall_mem_cons.mpr ⟨lw_p19, List.forall_mem_cons.mpr ⟨lw_p20, List.forall_mem_cons.mpr ⟨lw_p21, List.forall_mem_cons.mpr ⟨lw_p22, List.forall_mem_cons.mpr ⟨lw_p23, List.forall_mem_cons.mpr ⟨lw_p24, List.forall_mem_cons.mpr ⟨lw_p25, List.forall_mem_cons.mpr ⟨lw_p26, List.forall_mem_cons.mpr ⟨lw_p27, List.forall_mem_cons.mpr ⟨lw_p28, List.forall_mem_cons.mpr ⟨lw_p29, List.forall_mem_cons.mpr ⟨lw_p30, List.forall_mem_cons.mpr ⟨lw_p31, fun _ h => absurd h List.not_mem_nil⟩⟩⟩⟩⟩⟩⟩⟩⟩⟩⟩⟩⟩⟩⟩⟩
theorem lw_p32 : lw_okq (⟨"SpanValues$Facts", "gatherCases", "([JIZ)J"⟩, 9) := ⟨⟨by decide +kernel, by decide +kernel⟩, List.mem_of_getElem? (i := 316) (by decide +kernel), List.mem_of_getElem? (i := 1064) (by decide +kernel), List.mem_of_getElem? (i := 1065) (by decide +kernel)⟩
theorem lw_p33 : lw_okq (⟨"SpanValues$Facts", "gatherUnaries", "([JIZ)Z"⟩, 9) := ⟨⟨by decide +kernel, by decide +kernel⟩, List.mem_of_getElem? (i := 316) (by decide +kernel), List.mem_of_getElem? (i := 1069) (by decide +kernel), List.mem_of_getElem? (i := 1070) (by decide +kernel)⟩
theorem lw_p34 : lw_okq (⟨"SpanValues$Sums", "solveSpan", "(I)V"⟩, 8) := ⟨⟨by decide +kernel, by decide +kernel⟩, List.mem_of_getElem? (i := 351) (by decide +kernel), List.mem_of_getElem? (i := 1086) (by decide +kernel), List.mem_of_getElem? (i := 1087) (by decide +kernel)⟩
theorem lw_p35 : lw_okq (⟨"SpanValues$Sums", "setEquation", "(II)Z"⟩, 8) := ⟨⟨by decide +kernel, by decide +kernel⟩, List.mem_of_getElem? (i := 351) (by decide +kernel), List.mem_of_getElem? (i := 1092) (by decide +kernel), List.mem_of_getElem? (i := 1093) (by decide +kernel)⟩
theorem lw_p36 : lw_okq (⟨"SpanValues$Sums", "eliminate", "(I)Z"⟩, 8) := ⟨⟨by decide +kernel, by decide +kernel⟩, List.mem_of_getElem? (i := 351) (by decide +kernel), List.mem_of_getElem? (i := 1103) (by decide +kernel), List.mem_of_getElem? (i := 1104) (by decide +kernel)⟩
theorem lw_p37 : lw_okq (⟨"SpanValues$Sums", "swapRows", "(II)V"⟩, 8) := ⟨⟨by decide +kernel, by decide +kernel⟩, List.mem_of_getElem? (i := 351) (by decide +kernel), List.mem_of_getElem? (i := 1107) (by decide +kernel), List.mem_of_getElem? (i := 1108) (by decide +kernel)⟩
theorem lw_p38 : lw_okq (⟨"SpanValues$Sums", "scaleRow", "(II)V"⟩, 8) := ⟨⟨by decide +kernel, by decide +kernel⟩, List.mem_of_getElem? (i := 351) (by decide +kernel), List.mem_of_getElem? (i := 1114) (by decide +kernel), List.mem_of_getElem? (i := 1115) (by decide +kernel)⟩
theorem lw_p39 : lw_okq (⟨"SpanValues$Sums", "subtractRow", "(III)V"⟩, 8) := ⟨⟨by decide +kernel, by decide +kernel⟩, List.mem_of_getElem? (i := 351) (by decide +kernel), List.mem_of_getElem? (i := 1118) (by decide +kernel), List.mem_of_getElem? (i := 1119) (by decide +kernel)⟩
theorem lw_p40 : lw_okq (⟨"SpanValues$Values", "changeAll", "()Z"⟩, 7) := ⟨⟨by decide +kernel, by decide +kernel⟩, List.mem_of_getElem? (i := 382) (by decide +kernel), List.mem_of_getElem? (i := 1136) (by decide +kernel), List.mem_of_getElem? (i := 1137) (by decide +kernel)⟩
theorem lw_p41 : lw_okq (⟨"SpanValues$Values", "renewed", "(I)I"⟩, 7) := ⟨⟨by decide +kernel, by decide +kernel⟩, List.mem_of_getElem? (i := 382) (by decide +kernel), List.mem_of_getElem? (i := 1141) (by decide +kernel), List.mem_of_getElem? (i := 1142) (by decide +kernel)⟩
theorem lw_p42 : lw_okq (⟨"SpanValues$Values", "partValue", "(I)I"⟩, 7) := ⟨⟨by decide +kernel, by decide +kernel⟩, List.mem_of_getElem? (i := 382) (by decide +kernel), List.mem_of_getElem? (i := 1147) (by decide +kernel), List.mem_of_getElem? (i := 1148) (by decide +kernel)⟩
theorem lw_p43 : lw_okq (⟨"SpanValues$Values", "meetAll", "()V"⟩, 7) := ⟨⟨by decide +kernel, by decide +kernel⟩, List.mem_of_getElem? (i := 382) (by decide +kernel), List.mem_of_getElem? (i := 1169) (by decide +kernel), List.mem_of_getElem? (i := 1170) (by decide +kernel)⟩
theorem lw_p44 : lw_okq (⟨"SpanValues$Values", "lawsOfOne", "(I)I"⟩, 7) := ⟨⟨by decide +kernel, by decide +kernel⟩, List.mem_of_getElem? (i := 382) (by decide +kernel), List.mem_of_getElem? (i := 1173) (by decide +kernel), List.mem_of_getElem? (i := 1174) (by decide +kernel)⟩
theorem lw_p45 : lw_okq (⟨"SpanValues$Values", "lawsOfMore", "(II)I"⟩, 7) := ⟨⟨by decide +kernel, by decide +kernel⟩, List.mem_of_getElem? (i := 382) (by decide +kernel), List.mem_of_getElem? (i := 1180) (by decide +kernel), List.mem_of_getElem? (i := 1181) (by decide +kernel)⟩
theorem lw_p46 : lw_okq (⟨"SpanValues$Costs", "putInOrder", "(I)V"⟩, 10) := ⟨⟨by decide +kernel, by decide +kernel⟩, List.mem_of_getElem? (i := 277) (by decide +kernel), List.mem_of_getElem? (i := 1207) (by decide +kernel), List.mem_of_getElem? (i := 1208) (by decide +kernel)⟩
theorem lw_p47 : lw_okq (⟨"SpanValues$Forest", "growSpan", "(I)V"⟩, 18) := ⟨⟨by decide +kernel, by decide +kernel⟩, List.mem_of_getElem? (i := 410) (by decide +kernel), List.mem_of_getElem? (i := 1235) (by decide +kernel), List.mem_of_getElem? (i := 1236) (by decide +kernel)⟩
def lw_privs_3 : List (MethodName × Nat) := [(⟨"SpanValues$Facts", "gatherCases", "([JIZ)J"⟩, 9), (⟨"SpanValues$Facts", "gatherUnaries", "([JIZ)Z"⟩, 9), (⟨"SpanValues$Sums", "solveSpan", "(I)V"⟩, 8), (⟨"SpanValues$Sums", "setEquation", "(II)Z"⟩, 8), (⟨"SpanValues$Sums", "eliminate", "(I)Z"⟩, 8), (⟨"SpanValues$Sums", "swapRows", "(II)V"⟩, 8), (⟨"SpanValues$Sums", "scaleRow", "(II)V"⟩, 8), (⟨"SpanValues$Sums", "subtractRow", "(III)V"⟩, 8), (⟨"SpanValues$Values", "changeAll", "()Z"⟩, 7), (⟨"SpanValues$Values", "renewed", "(I)I"⟩, 7), (⟨"SpanValues$Values", "partValue", "(I)I"⟩, 7), (⟨"SpanValues$Values", "meetAll", "()V"⟩, 7), (⟨"SpanValues$Values", "lawsOfOne", "(I)I"⟩, 7), (⟨"SpanValues$Values", "lawsOfMore", "(II)I"⟩, 7), (⟨"SpanValues$Costs", "putInOrder", "(I)V"⟩, 10), (⟨"SpanValues$Forest", "growSpan", "(I)V"⟩, 18)]
theorem lw_r3 : ∀ q ∈ lw_privs_3, lw_okq q := List.forall_mem_cons.mpr ⟨lw_p32, List.forall_mem_cons.mpr ⟨lw_p33, List.forall_mem_cons.mpr ⟨lw_p34, List.forall_mem_cons.mpr ⟨lw_p35, List.forall_mem_cons.mpr ⟨lw_p36, List.forall_mem_cons.mpr ⟨lw_p37, List.forall_mem_cons.mpr ⟨lw_p38, List.forall_mem_cons.mpr ⟨lw_p39, List.forall_mem_cons.mpr ⟨lw_p40, List.forall_mem_cons.mpr ⟨lw_p41, List.forall_mem_cons.mpr ⟨lw_p42, List.forall_mem_cons.mpr ⟨lw_p43, List.forall_mem_cons.mpr ⟨lw_p44, List.forall_mem_cons.mpr ⟨lw_p45, List.forall_mem_cons.mpr ⟨lw_p46, List.forall_mem_cons.mpr ⟨lw_p47, fun _ h => absurd h List.not_mem_nil⟩⟩⟩⟩⟩⟩⟩⟩⟩⟩⟩⟩⟩⟩⟩⟩
theorem lw_p48 : lw_okq (⟨"SpanValues$Forest", "caseOfRule", "(II)I"⟩, 18) := ⟨⟨by decide +kernel, by decide +kernel⟩, List.mem_of_getElem? (i := 410) (by decide +kernel), List.mem_of_getElem? (i := 1239) (by decide +kernel), List.mem_of_getElem? (i := 1240) (by decide +kernel)⟩
theorem lw_p49 : lw_okq (⟨"SpanValues$Forest", "gatherBase", "(II)V"⟩, 18) := ⟨⟨by decide +kernel, by decide +kernel⟩, List.mem_of_getElem? (i := 410) (by decide +kernel), List.mem_of_getElem? (i := 1245) (by decide +kernel), List.mem_of_getElem? (i := 1246) (by decide +kernel)⟩
theorem lw_p50 : lw_okq (⟨"SpanValues$Forest", "gatherPairs", "(II)V"⟩, 18) := ⟨⟨by decide +kernel, by decide +kernel⟩, List.mem_of_getElem? (i := 410) (by decide +kernel), List.mem_of_getElem? (i := 1251) (by decide +kernel), List.mem_of_getElem? (i := 1252) (by decide +kernel)⟩
theorem lw_p51 : lw_okq (⟨"SpanValues$Forest", "putInBase", "(IIII)Z"⟩, 18) := ⟨⟨by decide +kernel, by decide +kernel⟩, List.mem_of_getElem? (i := 410) (by decide +kernel), List.mem_of_getElem? (i := 1255) (by decide +kernel), List.mem_of_getElem? (i := 1256) (by decide +kernel)⟩
theorem lw_p52 : lw_okq (⟨"SpanValues$Forest", "isSmaller", "(IIII)Z"⟩, 18) := ⟨⟨by decide +kernel, by decide +kernel⟩, List.mem_of_getElem? (i := 410) (by decide +kernel), List.mem_of_getElem? (i := 1259) (by decide +kernel), List.mem_of_getElem? (i := 1260) (by decide +kernel)⟩
theorem lw_p53 : lw_okq (⟨"SpanValues$Forest", "takeAllOfBase", "(II)V"⟩, 18) := ⟨⟨by decide +kernel, by decide +kernel⟩, List.mem_of_getElem? (i := 410) (by decide +kernel), List.mem_of_getElem? (i := 1264) (by decide +kernel), List.mem_of_getElem? (i := 1265) (by decide +kernel)⟩
theorem lw_p54 : lw_okq (⟨"SpanValues$Forest", "takeOfBase", "(II)V"⟩, 18) := ⟨⟨by decide +kernel, by decide +kernel⟩, List.mem_of_getElem? (i := 410) (by decide +kernel), List.mem_of_getElem? (i := 1268) (by decide +kernel), List.mem_of_getElem? (i := 1269) (by decide +kernel)⟩
theorem lw_p55 : lw_okq (⟨"SpanValues$Forest", "append", "(IIII)V"⟩, 18) := ⟨⟨by decide +kernel, by decide +kernel⟩, List.mem_of_getElem? (i := 410) (by decide +kernel), List.mem_of_getElem? (i := 1272) (by decide +kernel), List.mem_of_getElem? (i := 1273) (by decide +kernel)⟩
theorem lw_p56 : lw_okq (⟨"SpanValues$Forest", "takeLeast", "(II)Z"⟩, 18) := ⟨⟨by decide +kernel, by decide +kernel⟩, List.mem_of_getElem? (i := 410) (by decide +kernel), List.mem_of_getElem? (i := 1276) (by decide +kernel), List.mem_of_getElem? (i := 1277) (by decide +kernel)⟩
theorem lw_p57 : lw_okq (⟨"SpanValues$Forest", "findHead", "(II)V"⟩, 18) := ⟨⟨by decide +kernel, by decide +kernel⟩, List.mem_of_getElem? (i := 410) (by decide +kernel), List.mem_of_getElem? (i := 1280) (by decide +kernel), List.mem_of_getElem? (i := 1281) (by decide +kernel)⟩
theorem lw_p58 : lw_okq (⟨"SpanValues$Walk", "push", "(II)V"⟩, 10) := ⟨⟨by decide +kernel, by decide +kernel⟩, List.mem_of_getElem? (i := 473) (by decide +kernel), List.mem_of_getElem? (i := 1292) (by decide +kernel), List.mem_of_getElem? (i := 1293) (by decide +kernel)⟩
theorem lw_p59 : lw_okq (⟨"SpanValues$Walk", "pushTree", "(II)V"⟩, 10) := ⟨⟨by decide +kernel, by decide +kernel⟩, List.mem_of_getElem? (i := 473) (by decide +kernel), List.mem_of_getElem? (i := 1301) (by decide +kernel), List.mem_of_getElem? (i := 1302) (by decide +kernel)⟩
theorem lw_p60 : lw_okq (⟨"SpanValues$Walk", "caseAt", "(I)I"⟩, 10) := ⟨⟨by decide +kernel, by decide +kernel⟩, List.mem_of_getElem? (i := 473) (by decide +kernel), List.mem_of_getElem? (i := 1317) (by decide +kernel), List.mem_of_getElem? (i := 1318) (by decide +kernel)⟩
theorem lw_p61 : lw_okq (⟨"SpanValues", "wholeItem", "()I"⟩, 16) := ⟨⟨by decide +kernel, by decide +kernel⟩, List.mem_of_getElem? (i := 23) (by decide +kernel), List.mem_of_getElem? (i := 1325) (by decide +kernel), List.mem_of_getElem? (i := 1326) (by decide +kernel)⟩
theorem lw_p62 : lw_okq (⟨"SpanValues$Walk", "put", "([II)V"⟩, 10) := ⟨⟨by decide +kernel, by decide +kernel⟩, List.mem_of_getElem? (i := 473) (by decide +kernel), List.mem_of_getElem? (i := 1351) (by decide +kernel), List.mem_of_getElem? (i := 1352) (by decide +kernel)⟩
theorem lw_p63 : lw_okq (⟨"SpanValues$Walk", "open", "([II)V"⟩, 10) := ⟨⟨by decide +kernel, by decide +kernel⟩, List.mem_of_getElem? (i := 473) (by decide +kernel), List.mem_of_getElem? (i := 1355) (by decide +kernel), List.mem_of_getElem? (i := 1356) (by decide +kernel)⟩
def lw_privs_4 : List (MethodName × Nat) := [(⟨"SpanValues$Forest", "caseOfRule", "(II)I"⟩, 18), (⟨"SpanValues$Forest", "gatherBase", "(II)V"⟩, 18), (⟨"SpanValues$Forest", "gatherPairs", "(II)V"⟩, 18), (⟨"SpanValues$Forest", "putInBase", "(IIII)Z"⟩, 18), (⟨"SpanValues$Forest", "isSmaller", "(IIII)Z"⟩, 18), (⟨"SpanValues$Forest", "takeAllOfBase", "(II)V"⟩, 18), (⟨"SpanValues$Forest", "takeOfBase", "(II)V"⟩, 18), (⟨"SpanValues$Forest", "append", "(IIII)V"⟩, 18), (⟨"SpanValues$Forest", "takeLeast", "(II)Z"⟩, 18), (⟨"SpanValues$Forest", "findHead", "(II)V"⟩, 18), (⟨"SpanValues$Walk", "push", "(II)V"⟩, 10), (⟨"SpanValues$Walk", "pushTree", "(II)V"⟩, 10), (⟨"SpanValues$Walk", "caseAt", "(I)I"⟩, 10), (⟨"SpanValues", "wholeItem", "()I"⟩, 16), (⟨"SpanValues$Walk", "put", "([II)V"⟩, 10), (⟨"SpanValues$Walk", "open", "([II)V"⟩, 10)]
theorem lw_r4 : ∀ q ∈ lw_privs_4, lw_okq q := List.forall_mem_cons.mpr ⟨lw_p48, List.forall_mem_cons.mpr ⟨lw_p49, List.forall_mem_cons.mpr ⟨lw_p50, List.forall_mem_cons.mpr ⟨lw_p51, List.forall_mem_cons.mpr ⟨lw_p52, List.forall_mem_cons.mpr ⟨lw_p53, List.forall_mem_cons.mpr ⟨lw_p54, List.forall_mem_cons.mpr ⟨lw_p55, List.forall_mem_cons.mpr ⟨lw_p56, List.forall_mem_cons.mpr ⟨lw_p57, List.forall_mem_cons.mpr ⟨lw_p58, List.forall_mem_cons.mpr ⟨lw_p59, List.forall_mem_cons.mpr ⟨lw_p60, List.forall_mem_cons.mpr ⟨lw_p61, List.forall_mem_cons.mpr ⟨lw_p62, List.forall_mem_cons.mpr ⟨lw_p63, fun _ h => absurd h List.not_mem_nil⟩⟩⟩⟩⟩⟩⟩⟩⟩⟩⟩⟩⟩⟩⟩⟩
theorem lw_p64 : lw_okq (⟨"SpanValues$Walk", "pushPart", "(II)V"⟩, 10) := ⟨⟨by decide +kernel, by decide +kernel⟩, List.mem_of_getElem? (i := 473) (by decide +kernel), List.mem_of_getElem? (i := 1359) (by decide +kernel), List.mem_of_getElem? (i := 1360) (by decide +kernel)⟩
theorem lw_p65 : lw_okq (⟨"SpanValues$Tally", "countSpan", "(II)V"⟩, 7) := ⟨⟨by decide +kernel, by decide +kernel⟩, List.mem_of_getElem? (i := 512) (by decide +kernel), List.mem_of_getElem? (i := 1378) (by decide +kernel), List.mem_of_getElem? (i := 1379) (by decide +kernel)⟩
theorem lw_p66 : lw_okq (⟨"SpanValues$Tally", "countItem", "(II)J"⟩, 7) := ⟨⟨by decide +kernel, by decide +kernel⟩, List.mem_of_getElem? (i := 512) (by decide +kernel), List.mem_of_getElem? (i := 1382) (by decide +kernel), List.mem_of_getElem? (i := 1383) (by decide +kernel)⟩
theorem lw_p67 : lw_okq (⟨"SpanValues$Tally", "countCase", "(II)J"⟩, 7) := ⟨⟨by decide +kernel, by decide +kernel⟩, List.mem_of_getElem? (i := 512) (by decide +kernel), List.mem_of_getElem? (i := 1390) (by decide +kernel), List.mem_of_getElem? (i := 1391) (by decide +kernel)⟩
theorem lw_p68 : lw_okq (⟨"SpanValues$Tally", "countPairs", "(III)J"⟩, 7) := ⟨⟨by decide +kernel, by decide +kernel⟩, List.mem_of_getElem? (i := 512) (by decide +kernel), List.mem_of_getElem? (i := 1395) (by decide +kernel), List.mem_of_getElem? (i := 1396) (by decide +kernel)⟩
theorem lw_p69 : lw_okq (⟨"SpanValues$Mender", "goDown", "(I)V"⟩, 10) := ⟨⟨by decide +kernel, by decide +kernel⟩, List.mem_of_getElem? (i := 540) (by decide +kernel), List.mem_of_getElem? (i := 1433) (by decide +kernel), List.mem_of_getElem? (i := 1434) (by decide +kernel)⟩
theorem lw_p70 : lw_okq (⟨"SpanValues$Mender", "relax", "(I)Z"⟩, 10) := ⟨⟨by decide +kernel, by decide +kernel⟩, List.mem_of_getElem? (i := 540) (by decide +kernel), List.mem_of_getElem? (i := 1437) (by decide +kernel), List.mem_of_getElem? (i := 1438) (by decide +kernel)⟩
theorem lw_p71 : lw_okq (⟨"SpanValues$Mender", "goToParts", "(I)V"⟩, 10) := ⟨⟨by decide +kernel, by decide +kernel⟩, List.mem_of_getElem? (i := 540) (by decide +kernel), List.mem_of_getElem? (i := 1445) (by decide +kernel), List.mem_of_getElem? (i := 1446) (by decide +kernel)⟩
theorem lw_p72 : lw_okq (⟨"SpanValues$Mender", "tryRule", "(II)V"⟩, 10) := ⟨⟨by decide +kernel, by decide +kernel⟩, List.mem_of_getElem? (i := 540) (by decide +kernel), List.mem_of_getElem? (i := 1451) (by decide +kernel), List.mem_of_getElem? (i := 1452) (by decide +kernel)⟩
theorem lw_p73 : lw_okq (⟨"SpanValues$Mender", "tryLetter", "(IIII)V"⟩, 10) := ⟨⟨by decide +kernel, by decide +kernel⟩, List.mem_of_getElem? (i := 540) (by decide +kernel), List.mem_of_getElem? (i := 1455) (by decide +kernel), List.mem_of_getElem? (i := 1456) (by decide +kernel)⟩
theorem lw_p74 : lw_okq (⟨"SpanValues$Mender", "partCost", "(III)I"⟩, 10) := ⟨⟨by decide +kernel, by decide +kernel⟩, List.mem_of_getElem? (i := 540) (by decide +kernel), List.mem_of_getElem? (i := 1459) (by decide +kernel), List.mem_of_getElem? (i := 1460) (by decide +kernel)⟩
theorem lw_p75 : lw_okq (⟨"SpanValues$Mender", "choose", "()V"⟩, 10) := ⟨⟨by decide +kernel, by decide +kernel⟩, List.mem_of_getElem? (i := 540) (by decide +kernel), List.mem_of_getElem? (i := 1464) (by decide +kernel), List.mem_of_getElem? (i := 1465) (by decide +kernel)⟩
theorem lw_p76 : lw_okq (⟨"SpanValues$Grammar", "fruitfulLabels", "()I"⟩, 13) := ⟨⟨by decide +kernel, by decide +kernel⟩, List.mem_of_getElem? (i := 37) (by decide +kernel), List.mem_of_getElem? (i := 1489) (by decide +kernel), List.mem_of_getElem? (i := 1490) (by decide +kernel)⟩
theorem lw_p77 : lw_okq (⟨"SpanValues$Grammar", "partsWithin", "(II)Z"⟩, 13) := ⟨⟨by decide +kernel, by decide +kernel⟩, List.mem_of_getElem? (i := 37) (by decide +kernel), List.mem_of_getElem? (i := 1493) (by decide +kernel), List.mem_of_getElem? (i := 1494) (by decide +kernel)⟩
theorem lw_p78 : lw_okq (⟨"SpanValuesModel", "advance", "()V"⟩, 66) := ⟨⟨by decide +kernel, by decide +kernel⟩, List.mem_of_getElem? (i := 1501) (by decide +kernel), List.mem_of_getElem? (i := 1722) (by decide +kernel), List.mem_of_getElem? (i := 1723) (by decide +kernel)⟩
theorem lw_p79 : lw_okq (⟨"SpanValuesModel", "see", "(I)I"⟩, 66) := ⟨⟨by decide +kernel, by decide +kernel⟩, List.mem_of_getElem? (i := 1501) (by decide +kernel), List.mem_of_getElem? (i := 1726) (by decide +kernel), List.mem_of_getElem? (i := 1727) (by decide +kernel)⟩
def lw_privs_5 : List (MethodName × Nat) := [(⟨"SpanValues$Walk", "pushPart", "(II)V"⟩, 10), (⟨"SpanValues$Tally", "countSpan", "(II)V"⟩, 7), (⟨"SpanValues$Tally", "countItem", "(II)J"⟩, 7), (⟨"SpanValues$Tally", "countCase", "(II)J"⟩, 7), (⟨"SpanValues$Tally", "countPairs", "(III)J"⟩, 7), (⟨"SpanValues$Mender", "goDown", "(I)V"⟩, 10), (⟨"SpanValues$Mender", "relax", "(I)Z"⟩, 10), (⟨"SpanValues$Mender", "goToParts", "(I)V"⟩, 10), (⟨"SpanValues$Mender", "tryRule", "(II)V"⟩, 10), (⟨"SpanValues$Mender", "tryLetter", "(IIII)V"⟩, 10), (⟨"SpanValues$Mender", "partCost", "(III)I"⟩, 10), (⟨"SpanValues$Mender", "choose", "()V"⟩, 10), (⟨"SpanValues$Grammar", "fruitfulLabels", "()I"⟩, 13), (⟨"SpanValues$Grammar", "partsWithin", "(II)Z"⟩, 13), (⟨"SpanValuesModel", "advance", "()V"⟩, 66), (⟨"SpanValuesModel", "see", "(I)I"⟩, 66)]
theorem lw_r5 : ∀ q ∈ lw_privs_5, lw_okq q := List.forall_mem_cons.mpr ⟨lw_p64, List.forall_mem_cons.mpr ⟨lw_p65, List.forall_mem_cons.mpr ⟨lw_p66, List.forall_mem_cons.mpr ⟨lw_p67, List.forall_mem_cons.mpr ⟨lw_p68, List.forall_mem_cons.mpr ⟨lw_p69, List.forall_mem_cons.mpr ⟨lw_p70, List.forall_mem_cons.mpr ⟨lw_p71, List.forall_mem_cons.mpr ⟨lw_p72, List.forall_mem_cons.mpr ⟨lw_p73, List.forall_mem_cons.mpr ⟨lw_p74, List.forall_mem_cons.mpr ⟨lw_p75, List.forall_mem_cons.mpr ⟨lw_p76, List.forall_mem_cons.mpr ⟨lw_p77, List.forall_mem_cons.mpr ⟨lw_p78, List.forall_mem_cons.mpr ⟨lw_p79, fun _ h => absurd h List.not_mem_nil⟩⟩⟩⟩⟩⟩⟩⟩⟩⟩⟩⟩⟩⟩⟩⟩
theorem lw_p80 : lw_okq (⟨"SpanValuesModel", "good", "()Z"⟩, 66) := ⟨⟨by decide +kernel, by decide +kernel⟩, List.mem_of_getElem? (i := 1501) (by decide +kernel), List.mem_of_getElem? (i := 1737) (by decide +kernel), List.mem_of_getElem? (i := 1738) (by decide +kernel)⟩
theorem lw_p81 : lw_okq (⟨"SpanValuesModel", "is", "(Ljava/lang/String;)Z"⟩, 66) := ⟨⟨by decide +kernel, by decide +kernel⟩, List.mem_of_getElem? (i := 1501) (by decide +kernel), List.mem_of_getElem? (i := 1742) (by decide +kernel), List.mem_of_getElem? (i := 1743) (by decide +kernel)⟩
theorem lw_p82 : lw_okq (⟨"SpanValuesModel", "readTable", "()V"⟩, 66) := ⟨⟨by decide +kernel, by decide +kernel⟩, List.mem_of_getElem? (i := 1501) (by decide +kernel), List.mem_of_getElem? (i := 1748) (by decide +kernel), List.mem_of_getElem? (i := 1749) (by decide +kernel)⟩
theorem lw_p83 : lw_okq (⟨"SpanValuesModel", "takes", "(II)I"⟩, 66) := ⟨⟨by decide +kernel, by decide +kernel⟩, List.mem_of_getElem? (i := 1501) (by decide +kernel), List.mem_of_getElem? (i := 1752) (by decide +kernel), List.mem_of_getElem? (i := 1753) (by decide +kernel)⟩
theorem lw_p84 : lw_okq (⟨"SpanValuesModel", "errs", "(I)V"⟩, 66) := ⟨⟨by decide +kernel, by decide +kernel⟩, List.mem_of_getElem? (i := 1501) (by decide +kernel), List.mem_of_getElem? (i := 1756) (by decide +kernel), List.mem_of_getElem? (i := 1757) (by decide +kernel)⟩
theorem lw_p85 : lw_okq (⟨"SpanValuesModel", "takesWord", "(Ljava/lang/String;)V"⟩, 66) := ⟨⟨by decide +kernel, by decide +kernel⟩, List.mem_of_getElem? (i := 1501) (by decide +kernel), List.mem_of_getElem? (i := 1761) (by decide +kernel), List.mem_of_getElem? (i := 1762) (by decide +kernel)⟩
theorem lw_p86 : lw_okq (⟨"SpanValuesModel", "readRule", "()V"⟩, 66) := ⟨⟨by decide +kernel, by decide +kernel⟩, List.mem_of_getElem? (i := 1501) (by decide +kernel), List.mem_of_getElem? (i := 1769) (by decide +kernel), List.mem_of_getElem? (i := 1770) (by decide +kernel)⟩
theorem lw_p87 : lw_okq (⟨"SpanValuesModel", "takesSign", "(I)V"⟩, 66) := ⟨⟨by decide +kernel, by decide +kernel⟩, List.mem_of_getElem? (i := 1501) (by decide +kernel), List.mem_of_getElem? (i := 1773) (by decide +kernel), List.mem_of_getElem? (i := 1774) (by decide +kernel)⟩
theorem lw_p88 : lw_okq (⟨"SpanValuesModel", "readPart", "()I"⟩, 66) := ⟨⟨by decide +kernel, by decide +kernel⟩, List.mem_of_getElem? (i := 1501) (by decide +kernel), List.mem_of_getElem? (i := 1777) (by decide +kernel), List.mem_of_getElem? (i := 1778) (by decide +kernel)⟩
theorem lw_p89 : lw_okq (⟨"SpanValuesModel", "isPart", "()Z"⟩, 66) := ⟨⟨by decide +kernel, by decide +kernel⟩, List.mem_of_getElem? (i := 1501) (by decide +kernel), List.mem_of_getElem? (i := 1781) (by decide +kernel), List.mem_of_getElem? (i := 1782) (by decide +kernel)⟩
theorem lw_p90 : lw_okq (⟨"SpanValuesModel", "isRule", "(I)Z"⟩, 66) := ⟨⟨by decide +kernel, by decide +kernel⟩, List.mem_of_getElem? (i := 1501) (by decide +kernel), List.mem_of_getElem? (i := 1799) (by decide +kernel), List.mem_of_getElem? (i := 1800) (by decide +kernel)⟩
theorem lw_p91 : lw_okq (⟨"SpanValuesModel", "isElement", "(I)Z"⟩, 66) := ⟨⟨by decide +kernel, by decide +kernel⟩, List.mem_of_getElem? (i := 1501) (by decide +kernel), List.mem_of_getElem? (i := 1807) (by decide +kernel), List.mem_of_getElem? (i := 1808) (by decide +kernel)⟩
theorem lw_p92 : lw_okq (⟨"SpanValuesModel", "sum2", "(II)I"⟩, 66) := ⟨⟨by decide +kernel, by decide +kernel⟩, List.mem_of_getElem? (i := 1501) (by decide +kernel), List.mem_of_getElem? (i := 1811) (by decide +kernel), List.mem_of_getElem? (i := 1812) (by decide +kernel)⟩
theorem lw_p93 : lw_okq (⟨"SpanValuesModel", "product2", "(II)I"⟩, 66) := ⟨⟨by decide +kernel, by decide +kernel⟩, List.mem_of_getElem? (i := 1501) (by decide +kernel), List.mem_of_getElem? (i := 1815) (by decide +kernel), List.mem_of_getElem? (i := 1816) (by decide +kernel)⟩
theorem lw_p94 : lw_okq (⟨"SpanValuesModel", "isItem", "(III)Z"⟩, 66) := ⟨⟨by decide +kernel, by decide +kernel⟩, List.mem_of_getElem? (i := 1501) (by decide +kernel), List.mem_of_getElem? (i := 1837) (by decide +kernel), List.mem_of_getElem? (i := 1838) (by decide +kernel)⟩
theorem lw_p95 : lw_okq (⟨"SpanValuesModel", "looks", "()V"⟩, 66) := ⟨⟨by decide +kernel, by decide +kernel⟩, List.mem_of_getElem? (i := 1501) (by decide +kernel), List.mem_of_getElem? (i := 1842) (by decide +kernel), List.mem_of_getElem? (i := 1843) (by decide +kernel)⟩
def lw_privs_6 : List (MethodName × Nat) := [(⟨"SpanValuesModel", "good", "()Z"⟩, 66), (⟨"SpanValuesModel", "is", "(Ljava/lang/String;)Z"⟩, 66), (⟨"SpanValuesModel", "readTable", "()V"⟩, 66), (⟨"SpanValuesModel", "takes", "(II)I"⟩, 66), (⟨"SpanValuesModel", "errs", "(I)V"⟩, 66), (⟨"SpanValuesModel", "takesWord", "(Ljava/lang/String;)V"⟩, 66), (⟨"SpanValuesModel", "readRule", "()V"⟩, 66), (⟨"SpanValuesModel", "takesSign", "(I)V"⟩, 66), (⟨"SpanValuesModel", "readPart", "()I"⟩, 66), (⟨"SpanValuesModel", "isPart", "()Z"⟩, 66), (⟨"SpanValuesModel", "isRule", "(I)Z"⟩, 66), (⟨"SpanValuesModel", "isElement", "(I)Z"⟩, 66), (⟨"SpanValuesModel", "sum2", "(II)I"⟩, 66), (⟨"SpanValuesModel", "product2", "(II)I"⟩, 66), (⟨"SpanValuesModel", "isItem", "(III)Z"⟩, 66), (⟨"SpanValuesModel", "looks", "()V"⟩, 66)]
theorem lw_r6 : ∀ q ∈ lw_privs_6, lw_okq q := List.forall_mem_cons.mpr ⟨lw_p80, List.forall_mem_cons.mpr ⟨lw_p81, List.forall_mem_cons.mpr ⟨lw_p82, List.forall_mem_cons.mpr ⟨lw_p83, List.forall_mem_cons.mpr ⟨lw_p84, List.forall_mem_cons.mpr ⟨lw_p85, List.forall_mem_cons.mpr ⟨lw_p86, List.forall_mem_cons.mpr ⟨lw_p87, List.forall_mem_cons.mpr ⟨lw_p88, List.forall_mem_cons.mpr ⟨lw_p89, List.forall_mem_cons.mpr ⟨lw_p90, List.forall_mem_cons.mpr ⟨lw_p91, List.forall_mem_cons.mpr ⟨lw_p92, List.forall_mem_cons.mpr ⟨lw_p93, List.forall_mem_cons.mpr ⟨lw_p94, List.forall_mem_cons.mpr ⟨lw_p95, fun _ h => absurd h List.not_mem_nil⟩⟩⟩⟩⟩⟩⟩⟩⟩⟩⟩⟩⟩⟩⟩⟩
theorem lw_p96 : lw_okq (⟨"SpanValuesModel", "laysLeast", "(J)V"⟩, 66) := ⟨⟨by decide +kernel, by decide +kernel⟩, List.mem_of_getElem? (i := 1501) (by decide +kernel), List.mem_of_getElem? (i := 1846) (by decide +kernel), List.mem_of_getElem? (i := 1847) (by decide +kernel)⟩
theorem lw_p97 : lw_okq (⟨"SpanValuesModel", "laysSpan", "(II)V"⟩, 66) := ⟨⟨by decide +kernel, by decide +kernel⟩, List.mem_of_getElem? (i := 1501) (by decide +kernel), List.mem_of_getElem? (i := 1851) (by decide +kernel), List.mem_of_getElem? (i := 1852) (by decide +kernel)⟩
theorem lw_p98 : lw_okq (⟨"SpanValuesModel", "isIn", "(I)Z"⟩, 66) := ⟨⟨by decide +kernel, by decide +kernel⟩, List.mem_of_getElem? (i := 1501) (by decide +kernel), List.mem_of_getElem? (i := 1855) (by decide +kernel), List.mem_of_getElem? (i := 1856) (by decide +kernel)⟩
theorem lw_p99 : lw_okq (⟨"SpanValuesModel", "laysTwos", "(III)V"⟩, 66) := ⟨⟨by decide +kernel, by decide +kernel⟩, List.mem_of_getElem? (i := 1501) (by decide +kernel), List.mem_of_getElem? (i := 1859) (by decide +kernel), List.mem_of_getElem? (i := 1860) (by decide +kernel)⟩
theorem lw_p100 : lw_okq (⟨"SpanValuesModel", "fits", "(III)Z"⟩, 66) := ⟨⟨by decide +kernel, by decide +kernel⟩, List.mem_of_getElem? (i := 1501) (by decide +kernel), List.mem_of_getElem? (i := 1863) (by decide +kernel), List.mem_of_getElem? (i := 1864) (by decide +kernel)⟩
theorem lw_p101 : lw_okq (⟨"SpanValuesModel", "leastPart", "(III)I"⟩, 66) := ⟨⟨by decide +kernel, by decide +kernel⟩, List.mem_of_getElem? (i := 1501) (by decide +kernel), List.mem_of_getElem? (i := 1870) (by decide +kernel), List.mem_of_getElem? (i := 1871) (by decide +kernel)⟩
theorem lw_p102 : lw_okq (⟨"SpanValuesModel", "lowers", "(IIII)Z"⟩, 66) := ⟨⟨by decide +kernel, by decide +kernel⟩, List.mem_of_getElem? (i := 1501) (by decide +kernel), List.mem_of_getElem? (i := 1874) (by decide +kernel), List.mem_of_getElem? (i := 1875) (by decide +kernel)⟩
theorem lw_p103 : lw_okq (⟨"SpanValuesModel", "has", "(III)Z"⟩, 66) := ⟨⟨by decide +kernel, by decide +kernel⟩, List.mem_of_getElem? (i := 1501) (by decide +kernel), List.mem_of_getElem? (i := 1878) (by decide +kernel), List.mem_of_getElem? (i := 1879) (by decide +kernel)⟩
theorem lw_p104 : lw_okq (⟨"SpanValuesModel", "laysEndless", "()V"⟩, 66) := ⟨⟨by decide +kernel, by decide +kernel⟩, List.mem_of_getElem? (i := 1501) (by decide +kernel), List.mem_of_getElem? (i := 1891) (by decide +kernel), List.mem_of_getElem? (i := 1892) (by decide +kernel)⟩
theorem lw_p105 : lw_okq (⟨"SpanValuesModel", "laysEndlessSpan", "(II)V"⟩, 66) := ⟨⟨by decide +kernel, by decide +kernel⟩, List.mem_of_getElem? (i := 1501) (by decide +kernel), List.mem_of_getElem? (i := 1895) (by decide +kernel), List.mem_of_getElem? (i := 1896) (by decide +kernel)⟩
theorem lw_p106 : lw_okq (⟨"SpanValuesModel", "ringsAt", "(II)I"⟩, 66) := ⟨⟨by decide +kernel, by decide +kernel⟩, List.mem_of_getElem? (i := 1501) (by decide +kernel), List.mem_of_getElem? (i := 1899) (by decide +kernel), List.mem_of_getElem? (i := 1900) (by decide +kernel)⟩
theorem lw_p107 : lw_okq (⟨"SpanValuesModel", "isSingle", "(I)Z"⟩, 66) := ⟨⟨by decide +kernel, by decide +kernel⟩, List.mem_of_getElem? (i := 1501) (by decide +kernel), List.mem_of_getElem? (i := 1903) (by decide +kernel), List.mem_of_getElem? (i := 1904) (by decide +kernel)⟩
theorem lw_p108 : lw_okq (⟨"SpanValuesModel", "goesOn", "(III)Z"⟩, 66) := ⟨⟨by decide +kernel, by decide +kernel⟩, List.mem_of_getElem? (i := 1501) (by decide +kernel), List.mem_of_getElem? (i := 1907) (by decide +kernel), List.mem_of_getElem? (i := 1908) (by decide +kernel)⟩
theorem lw_p109 : lw_okq (⟨"SpanValuesModel", "isEndlessPart", "(III)Z"⟩, 66) := ⟨⟨by decide +kernel, by decide +kernel⟩, List.mem_of_getElem? (i := 1501) (by decide +kernel), List.mem_of_getElem? (i := 1911) (by decide +kernel), List.mem_of_getElem? (i := 1912) (by decide +kernel)⟩
theorem lw_p110 : lw_okq (⟨"SpanValuesModel", "waysItem", "(III)J"⟩, 66) := ⟨⟨by decide +kernel, by decide +kernel⟩, List.mem_of_getElem? (i := 1501) (by decide +kernel), List.mem_of_getElem? (i := 1916) (by decide +kernel), List.mem_of_getElem? (i := 1917) (by decide +kernel)⟩
theorem lw_p111 : lw_okq (⟨"SpanValuesModel", "waysPart", "(III)J"⟩, 66) := ⟨⟨by decide +kernel, by decide +kernel⟩, List.mem_of_getElem? (i := 1501) (by decide +kernel), List.mem_of_getElem? (i := 1920) (by decide +kernel), List.mem_of_getElem? (i := 1921) (by decide +kernel)⟩
def lw_privs_7 : List (MethodName × Nat) := [(⟨"SpanValuesModel", "laysLeast", "(J)V"⟩, 66), (⟨"SpanValuesModel", "laysSpan", "(II)V"⟩, 66), (⟨"SpanValuesModel", "isIn", "(I)Z"⟩, 66), (⟨"SpanValuesModel", "laysTwos", "(III)V"⟩, 66), (⟨"SpanValuesModel", "fits", "(III)Z"⟩, 66), (⟨"SpanValuesModel", "leastPart", "(III)I"⟩, 66), (⟨"SpanValuesModel", "lowers", "(IIII)Z"⟩, 66), (⟨"SpanValuesModel", "has", "(III)Z"⟩, 66), (⟨"SpanValuesModel", "laysEndless", "()V"⟩, 66), (⟨"SpanValuesModel", "laysEndlessSpan", "(II)V"⟩, 66), (⟨"SpanValuesModel", "ringsAt", "(II)I"⟩, 66), (⟨"SpanValuesModel", "isSingle", "(I)Z"⟩, 66), (⟨"SpanValuesModel", "goesOn", "(III)Z"⟩, 66), (⟨"SpanValuesModel", "isEndlessPart", "(III)Z"⟩, 66), (⟨"SpanValuesModel", "waysItem", "(III)J"⟩, 66), (⟨"SpanValuesModel", "waysPart", "(III)J"⟩, 66)]
theorem lw_r7 : ∀ q ∈ lw_privs_7, lw_okq q := List.forall_mem_cons.mpr ⟨lw_p96, List.forall_mem_cons.mpr ⟨lw_p97, List.forall_mem_cons.mpr ⟨lw_p98, List.forall_mem_cons.mpr ⟨lw_p99, List.forall_mem_cons.mpr ⟨lw_p100, List.forall_mem_cons.mpr ⟨lw_p101, List.forall_mem_cons.mpr ⟨lw_p102, List.forall_mem_cons.mpr ⟨lw_p103, List.forall_mem_cons.mpr ⟨lw_p104, List.forall_mem_cons.mpr ⟨lw_p105, List.forall_mem_cons.mpr ⟨lw_p106, List.forall_mem_cons.mpr ⟨lw_p107, List.forall_mem_cons.mpr ⟨lw_p108, List.forall_mem_cons.mpr ⟨lw_p109, List.forall_mem_cons.mpr ⟨lw_p110, List.forall_mem_cons.mpr ⟨lw_p111, fun _ h => absurd h List.not_mem_nil⟩⟩⟩⟩⟩⟩⟩⟩⟩⟩⟩⟩⟩⟩⟩⟩
theorem lw_p112 : lw_okq (⟨"SpanValuesModel", "laysDear", "(II)V"⟩, 66) := ⟨⟨by decide +kernel, by decide +kernel⟩, List.mem_of_getElem? (i := 1501) (by decide +kernel), List.mem_of_getElem? (i := 1940) (by decide +kernel), List.mem_of_getElem? (i := 1941) (by decide +kernel)⟩
theorem lw_p113 : lw_okq (⟨"SpanValuesModel", "lowersDear", "(III)Z"⟩, 66) := ⟨⟨by decide +kernel, by decide +kernel⟩, List.mem_of_getElem? (i := 1501) (by decide +kernel), List.mem_of_getElem? (i := 1944) (by decide +kernel), List.mem_of_getElem? (i := 1945) (by decide +kernel)⟩
theorem lw_p114 : lw_okq (⟨"SpanValuesModel", "dearPart", "(III)I"⟩, 66) := ⟨⟨by decide +kernel, by decide +kernel⟩, List.mem_of_getElem? (i := 1501) (by decide +kernel), List.mem_of_getElem? (i := 1948) (by decide +kernel), List.mem_of_getElem? (i := 1949) (by decide +kernel)⟩
theorem lw_p115 : lw_okq (⟨"SpanValuesModel", "meets", "(III)V"⟩, 66) := ⟨⟨by decide +kernel, by decide +kernel⟩, List.mem_of_getElem? (i := 1501) (by decide +kernel), List.mem_of_getElem? (i := 1957) (by decide +kernel), List.mem_of_getElem? (i := 1958) (by decide +kernel)⟩
theorem lw_p116 : lw_okq (⟨"SpanValuesModel", "meetsPart", "(III)V"⟩, 66) := ⟨⟨by decide +kernel, by decide +kernel⟩, List.mem_of_getElem? (i := 1501) (by decide +kernel), List.mem_of_getElem? (i := 1961) (by decide +kernel), List.mem_of_getElem? (i := 1962) (by decide +kernel)⟩
theorem lw_p117 : lw_okq (⟨"SpanValuesModel", "laysSums", "(II)V"⟩, 66) := ⟨⟨by decide +kernel, by decide +kernel⟩, List.mem_of_getElem? (i := 1501) (by decide +kernel), List.mem_of_getElem? (i := 1969) (by decide +kernel), List.mem_of_getElem? (i := 1970) (by decide +kernel)⟩
theorem lw_p118 : lw_okq (⟨"SpanValuesModel", "brings", "(III)Z"⟩, 66) := ⟨⟨by decide +kernel, by decide +kernel⟩, List.mem_of_getElem? (i := 1501) (by decide +kernel), List.mem_of_getElem? (i := 1973) (by decide +kernel), List.mem_of_getElem? (i := 1974) (by decide +kernel)⟩
theorem lw_p119 : lw_okq (⟨"SpanValuesModel", "rowOf", "(I)I"⟩, 66) := ⟨⟨by decide +kernel, by decide +kernel⟩, List.mem_of_getElem? (i := 1501) (by decide +kernel), List.mem_of_getElem? (i := 1977) (by decide +kernel), List.mem_of_getElem? (i := 1978) (by decide +kernel)⟩
theorem lw_p120 : lw_okq (⟨"SpanValuesModel", "failsPart", "(III)Z"⟩, 66) := ⟨⟨by decide +kernel, by decide +kernel⟩, List.mem_of_getElem? (i := 1501) (by decide +kernel), List.mem_of_getElem? (i := 1981) (by decide +kernel), List.mem_of_getElem? (i := 1982) (by decide +kernel)⟩
theorem lw_p121 : lw_okq (⟨"SpanValuesModel", "sumPart", "(III)J"⟩, 66) := ⟨⟨by decide +kernel, by decide +kernel⟩, List.mem_of_getElem? (i := 1501) (by decide +kernel), List.mem_of_getElem? (i := 1988) (by decide +kernel), List.mem_of_getElem? (i := 1989) (by decide +kernel)⟩
theorem lw_p122 : lw_okq (⟨"SpanValuesModel", "clears", "(I)Z"⟩, 66) := ⟨⟨by decide +kernel, by decide +kernel⟩, List.mem_of_getElem? (i := 1501) (by decide +kernel), List.mem_of_getElem? (i := 1993) (by decide +kernel), List.mem_of_getElem? (i := 1994) (by decide +kernel)⟩
theorem lw_p123 : lw_okq (⟨"SpanValuesModel", "settles", "()Z"⟩, 66) := ⟨⟨by decide +kernel, by decide +kernel⟩, List.mem_of_getElem? (i := 1501) (by decide +kernel), List.mem_of_getElem? (i := 2004) (by decide +kernel), List.mem_of_getElem? (i := 2005) (by decide +kernel)⟩
theorem lw_p124 : lw_okq (⟨"SpanValuesModel", "turnsOnce", "()Z"⟩, 66) := ⟨⟨by decide +kernel, by decide +kernel⟩, List.mem_of_getElem? (i := 1501) (by decide +kernel), List.mem_of_getElem? (i := 2008) (by decide +kernel), List.mem_of_getElem? (i := 2009) (by decide +kernel)⟩
theorem lw_p125 : lw_okq (⟨"SpanValuesModel", "valueAnew", "(III)I"⟩, 66) := ⟨⟨by decide +kernel, by decide +kernel⟩, List.mem_of_getElem? (i := 1501) (by decide +kernel), List.mem_of_getElem? (i := 2012) (by decide +kernel), List.mem_of_getElem? (i := 2013) (by decide +kernel)⟩
theorem lw_p126 : lw_okq (⟨"SpanValuesModel", "isLetterAt", "(III)Z"⟩, 66) := ⟨⟨by decide +kernel, by decide +kernel⟩, List.mem_of_getElem? (i := 1501) (by decide +kernel), List.mem_of_getElem? (i := 2016) (by decide +kernel), List.mem_of_getElem? (i := 2017) (by decide +kernel)⟩
theorem lw_p127 : lw_okq (⟨"SpanValuesModel", "valuePart", "(III)I"⟩, 66) := ⟨⟨by decide +kernel, by decide +kernel⟩, List.mem_of_getElem? (i := 1501) (by decide +kernel), List.mem_of_getElem? (i := 2020) (by decide +kernel), List.mem_of_getElem? (i := 2021) (by decide +kernel)⟩
def lw_privs_8 : List (MethodName × Nat) := [(⟨"SpanValuesModel", "laysDear", "(II)V"⟩, 66), (⟨"SpanValuesModel", "lowersDear", "(III)Z"⟩, 66), (⟨"SpanValuesModel", "dearPart", "(III)I"⟩, 66), (⟨"SpanValuesModel", "meets", "(III)V"⟩, 66), (⟨"SpanValuesModel", "meetsPart", "(III)V"⟩, 66), (⟨"SpanValuesModel", "laysSums", "(II)V"⟩, 66), (⟨"SpanValuesModel", "brings", "(III)Z"⟩, 66), (⟨"SpanValuesModel", "rowOf", "(I)I"⟩, 66), (⟨"SpanValuesModel", "failsPart", "(III)Z"⟩, 66), (⟨"SpanValuesModel", "sumPart", "(III)J"⟩, 66), (⟨"SpanValuesModel", "clears", "(I)Z"⟩, 66), (⟨"SpanValuesModel", "settles", "()Z"⟩, 66), (⟨"SpanValuesModel", "turnsOnce", "()Z"⟩, 66), (⟨"SpanValuesModel", "valueAnew", "(III)I"⟩, 66), (⟨"SpanValuesModel", "isLetterAt", "(III)Z"⟩, 66), (⟨"SpanValuesModel", "valuePart", "(III)I"⟩, 66)]
theorem lw_r8 : ∀ q ∈ lw_privs_8, lw_okq q := List.forall_mem_cons.mpr ⟨lw_p112, List.forall_mem_cons.mpr ⟨lw_p113, List.forall_mem_cons.mpr ⟨lw_p114, List.forall_mem_cons.mpr ⟨lw_p115, List.forall_mem_cons.mpr ⟨lw_p116, List.forall_mem_cons.mpr ⟨lw_p117, List.forall_mem_cons.mpr ⟨lw_p118, List.forall_mem_cons.mpr ⟨lw_p119, List.forall_mem_cons.mpr ⟨lw_p120, List.forall_mem_cons.mpr ⟨lw_p121, List.forall_mem_cons.mpr ⟨lw_p122, List.forall_mem_cons.mpr ⟨lw_p123, List.forall_mem_cons.mpr ⟨lw_p124, List.forall_mem_cons.mpr ⟨lw_p125, List.forall_mem_cons.mpr ⟨lw_p126, List.forall_mem_cons.mpr ⟨lw_p127, fun _ h => absurd h List.not_mem_nil⟩⟩⟩⟩⟩⟩⟩⟩⟩⟩⟩⟩⟩⟩⟩⟩
theorem lw_p128 : lw_okq (⟨"SpanValuesModel", "holds", "(II)Z"⟩, 66) := ⟨⟨by decide +kernel, by decide +kernel⟩, List.mem_of_getElem? (i := 1501) (by decide +kernel), List.mem_of_getElem? (i := 2032) (by decide +kernel), List.mem_of_getElem? (i := 2033) (by decide +kernel)⟩
theorem lw_p129 : lw_okq (⟨"SpanValuesModel", "keeps", "(III)Z"⟩, 66) := ⟨⟨by decide +kernel, by decide +kernel⟩, List.mem_of_getElem? (i := 1501) (by decide +kernel), List.mem_of_getElem? (i := 2036) (by decide +kernel), List.mem_of_getElem? (i := 2037) (by decide +kernel)⟩
theorem lw_p130 : lw_okq (⟨"SpanValuesModel", "keepsThree", "(IIII)Z"⟩, 66) := ⟨⟨by decide +kernel, by decide +kernel⟩, List.mem_of_getElem? (i := 1501) (by decide +kernel), List.mem_of_getElem? (i := 2040) (by decide +kernel), List.mem_of_getElem? (i := 2041) (by decide +kernel)⟩
theorem lw_p131 : lw_okq (⟨"SpanValuesModel", "casesWith", "(III)I"⟩, 66) := ⟨⟨by decide +kernel, by decide +kernel⟩, List.mem_of_getElem? (i := 1501) (by decide +kernel), List.mem_of_getElem? (i := 2049) (by decide +kernel), List.mem_of_getElem? (i := 2050) (by decide +kernel)⟩
theorem lw_p132 : lw_okq (⟨"SpanValuesModel", "isAt", "(IIIIII)Z"⟩, 66) := ⟨⟨by decide +kernel, by decide +kernel⟩, List.mem_of_getElem? (i := 1501) (by decide +kernel), List.mem_of_getElem? (i := 2053) (by decide +kernel), List.mem_of_getElem? (i := 2054) (by decide +kernel)⟩
theorem lw_p133 : lw_okq (⟨"SpanValuesModel", "casesOf", "(IIIZ)I"⟩, 66) := ⟨⟨by decide +kernel, by decide +kernel⟩, List.mem_of_getElem? (i := 1501) (by decide +kernel), List.mem_of_getElem? (i := 2057) (by decide +kernel), List.mem_of_getElem? (i := 2058) (by decide +kernel)⟩
theorem lw_p134 : lw_okq (⟨"SpanValuesModel", "itemsMany", "()I"⟩, 66) := ⟨⟨by decide +kernel, by decide +kernel⟩, List.mem_of_getElem? (i := 1501) (by decide +kernel), List.mem_of_getElem? (i := 2066) (by decide +kernel), List.mem_of_getElem? (i := 2067) (by decide +kernel)⟩
theorem lw_p135 : lw_okq (⟨"SpanValuesModel", "laysBest", "()V"⟩, 66) := ⟨⟨by decide +kernel, by decide +kernel⟩, List.mem_of_getElem? (i := 1501) (by decide +kernel), List.mem_of_getElem? (i := 2083) (by decide +kernel), List.mem_of_getElem? (i := 2084) (by decide +kernel)⟩
theorem lw_p136 : lw_okq (⟨"SpanValuesModel", "laysBestSpan", "(II)V"⟩, 66) := ⟨⟨by decide +kernel, by decide +kernel⟩, List.mem_of_getElem? (i := 1501) (by decide +kernel), List.mem_of_getElem? (i := 2087) (by decide +kernel), List.mem_of_getElem? (i := 2088) (by decide +kernel)⟩
theorem lw_p137 : lw_okq (⟨"SpanValuesModel", "laysTwoBest", "(III)V"⟩, 66) := ⟨⟨by decide +kernel, by decide +kernel⟩, List.mem_of_getElem? (i := 1501) (by decide +kernel), List.mem_of_getElem? (i := 2091) (by decide +kernel), List.mem_of_getElem? (i := 2092) (by decide +kernel)⟩
theorem lw_p138 : lw_okq (⟨"SpanValuesModel", "manyOf", "(III)I"⟩, 66) := ⟨⟨by decide +kernel, by decide +kernel⟩, List.mem_of_getElem? (i := 1501) (by decide +kernel), List.mem_of_getElem? (i := 2095) (by decide +kernel), List.mem_of_getElem? (i := 2096) (by decide +kernel)⟩
theorem lw_p139 : lw_okq (⟨"SpanValuesModel", "nodeOf", "(IIII)I"⟩, 66) := ⟨⟨by decide +kernel, by decide +kernel⟩, List.mem_of_getElem? (i := 1501) (by decide +kernel), List.mem_of_getElem? (i := 2099) (by decide +kernel), List.mem_of_getElem? (i := 2100) (by decide +kernel)⟩
theorem lw_p140 : lw_okq (⟨"SpanValuesModel", "writes", "(IIIIII)I"⟩, 66) := ⟨⟨by decide +kernel, by decide +kernel⟩, List.mem_of_getElem? (i := 1501) (by decide +kernel), List.mem_of_getElem? (i := 2103) (by decide +kernel), List.mem_of_getElem? (i := 2104) (by decide +kernel)⟩
theorem lw_p141 : lw_okq (⟨"SpanValuesModel", "costNode", "(I)I"⟩, 66) := ⟨⟨by decide +kernel, by decide +kernel⟩, List.mem_of_getElem? (i := 1501) (by decide +kernel), List.mem_of_getElem? (i := 2107) (by decide +kernel), List.mem_of_getElem? (i := 2108) (by decide +kernel)⟩
theorem lw_p142 : lw_okq (⟨"SpanValuesModel", "stepsNode", "(I)I"⟩, 66) := ⟨⟨by decide +kernel, by decide +kernel⟩, List.mem_of_getElem? (i := 1501) (by decide +kernel), List.mem_of_getElem? (i := 2111) (by decide +kernel), List.mem_of_getElem? (i := 2112) (by decide +kernel)⟩
theorem lw_p143 : lw_okq (⟨"SpanValuesModel", "deepNode", "(I)I"⟩, 66) := ⟨⟨by decide +kernel, by decide +kernel⟩, List.mem_of_getElem? (i := 1501) (by decide +kernel), List.mem_of_getElem? (i := 2115) (by decide +kernel), List.mem_of_getElem? (i := 2116) (by decide +kernel)⟩
def lw_privs_9 : List (MethodName × Nat) := [(⟨"SpanValuesModel", "holds", "(II)Z"⟩, 66), (⟨"SpanValuesModel", "keeps", "(III)Z"⟩, 66), (⟨"SpanValuesModel", "keepsThree", "(IIII)Z"⟩, 66), (⟨"SpanValuesModel", "casesWith", "(III)I"⟩, 66), (⟨"SpanValuesModel", "isAt", "(IIIIII)Z"⟩, 66), (⟨"SpanValuesModel", "casesOf", "(IIIZ)I"⟩, 66), (⟨"SpanValuesModel", "itemsMany", "()I"⟩, 66), (⟨"SpanValuesModel", "laysBest", "()V"⟩, 66), (⟨"SpanValuesModel", "laysBestSpan", "(II)V"⟩, 66), (⟨"SpanValuesModel", "laysTwoBest", "(III)V"⟩, 66), (⟨"SpanValuesModel", "manyOf", "(III)I"⟩, 66), (⟨"SpanValuesModel", "nodeOf", "(IIII)I"⟩, 66), (⟨"SpanValuesModel", "writes", "(IIIIII)I"⟩, 66), (⟨"SpanValuesModel", "costNode", "(I)I"⟩, 66), (⟨"SpanValuesModel", "stepsNode", "(I)I"⟩, 66), (⟨"SpanValuesModel", "deepNode", "(I)I"⟩, 66)]
theorem lw_r9 : ∀ q ∈ lw_privs_9, lw_okq q := List.forall_mem_cons.mpr ⟨lw_p128, List.forall_mem_cons.mpr ⟨lw_p129, List.forall_mem_cons.mpr ⟨lw_p130, List.forall_mem_cons.mpr ⟨lw_p131, List.forall_mem_cons.mpr ⟨lw_p132, List.forall_mem_cons.mpr ⟨lw_p133, List.forall_mem_cons.mpr ⟨lw_p134, List.forall_mem_cons.mpr ⟨lw_p135, List.forall_mem_cons.mpr ⟨lw_p136, List.forall_mem_cons.mpr ⟨lw_p137, List.forall_mem_cons.mpr ⟨lw_p138, List.forall_mem_cons.mpr ⟨lw_p139, List.forall_mem_cons.mpr ⟨lw_p140, List.forall_mem_cons.mpr ⟨lw_p141, List.forall_mem_cons.mpr ⟨lw_p142, List.forall_mem_cons.mpr ⟨lw_p143, fun _ h => absurd h List.not_mem_nil⟩⟩⟩⟩⟩⟩⟩⟩⟩⟩⟩⟩⟩⟩⟩⟩
theorem lw_p144 : lw_okq (⟨"SpanValuesModel", "comes", "(I)V"⟩, 66) := ⟨⟨by decide +kernel, by decide +kernel⟩, List.mem_of_getElem? (i := 1501) (by decide +kernel), List.mem_of_getElem? (i := 2119) (by decide +kernel), List.mem_of_getElem? (i := 2120) (by decide +kernel)⟩
theorem lw_p145 : lw_okq (⟨"SpanValuesModel", "isAhead", "(II)Z"⟩, 66) := ⟨⟨by decide +kernel, by decide +kernel⟩, List.mem_of_getElem? (i := 1501) (by decide +kernel), List.mem_of_getElem? (i := 2123) (by decide +kernel), List.mem_of_getElem? (i := 2124) (by decide +kernel)⟩
theorem lw_p146 : lw_okq (⟨"SpanValuesModel", "formOf", "(II)I"⟩, 66) := ⟨⟨by decide +kernel, by decide +kernel⟩, List.mem_of_getElem? (i := 1501) (by decide +kernel), List.mem_of_getElem? (i := 2127) (by decide +kernel), List.mem_of_getElem? (i := 2128) (by decide +kernel)⟩
theorem lw_p147 : lw_okq (⟨"SpanValuesModel", "takesNode", "()V"⟩, 66) := ⟨⟨by decide +kernel, by decide +kernel⟩, List.mem_of_getElem? (i := 1501) (by decide +kernel), List.mem_of_getElem? (i := 2131) (by decide +kernel), List.mem_of_getElem? (i := 2132) (by decide +kernel)⟩
theorem lw_p148 : lw_okq (⟨"SpanValuesModel", "waits", "(I)V"⟩, 66) := ⟨⟨by decide +kernel, by decide +kernel⟩, List.mem_of_getElem? (i := 1501) (by decide +kernel), List.mem_of_getElem? (i := 2135) (by decide +kernel), List.mem_of_getElem? (i := 2136) (by decide +kernel)⟩
theorem lw_p149 : lw_okq (⟨"SpanValuesModel", "firstPending", "()I"⟩, 66) := ⟨⟨by decide +kernel, by decide +kernel⟩, List.mem_of_getElem? (i := 1501) (by decide +kernel), List.mem_of_getElem? (i := 2139) (by decide +kernel), List.mem_of_getElem? (i := 2140) (by decide +kernel)⟩
theorem lw_p150 : lw_okq (⟨"SpanValuesModel", "treeOf", "(IIII)I"⟩, 66) := ⟨⟨by decide +kernel, by decide +kernel⟩, List.mem_of_getElem? (i := 1501) (by decide +kernel), List.mem_of_getElem? (i := 2143) (by decide +kernel), List.mem_of_getElem? (i := 2144) (by decide +kernel)⟩
theorem lw_p151 : lw_okq (⟨"SpanValuesModel", "stepOf", "(II)I"⟩, 66) := ⟨⟨by decide +kernel, by decide +kernel⟩, List.mem_of_getElem? (i := 1501) (by decide +kernel), List.mem_of_getElem? (i := 2155) (by decide +kernel), List.mem_of_getElem? (i := 2156) (by decide +kernel)⟩
theorem lw_p152 : lw_okq (⟨"SpanValuesModel", "start", "()I"⟩, 66) := ⟨⟨by decide +kernel, by decide +kernel⟩, List.mem_of_getElem? (i := 1501) (by decide +kernel), List.mem_of_getElem? (i := 2163) (by decide +kernel), List.mem_of_getElem? (i := 2164) (by decide +kernel)⟩
theorem lw_p153 : lw_okq (⟨"SpanValuesModel", "areAlike", "(II)Z"⟩, 66) := ⟨⟨by decide +kernel, by decide +kernel⟩, List.mem_of_getElem? (i := 1501) (by decide +kernel), List.mem_of_getElem? (i := 2171) (by decide +kernel), List.mem_of_getElem? (i := 2172) (by decide +kernel)⟩
theorem lw_p154 : lw_okq (⟨"SpanValuesModel", "tells", "(I)V"⟩, 66) := ⟨⟨by decide +kernel, by decide +kernel⟩, List.mem_of_getElem? (i := 1501) (by decide +kernel), List.mem_of_getElem? (i := 2179) (by decide +kernel), List.mem_of_getElem? (i := 2180) (by decide +kernel)⟩
theorem lw_p155 : lw_okq (⟨"SpanValuesModel", "puts", "(I)V"⟩, 66) := ⟨⟨by decide +kernel, by decide +kernel⟩, List.mem_of_getElem? (i := 1501) (by decide +kernel), List.mem_of_getElem? (i := 2183) (by decide +kernel), List.mem_of_getElem? (i := 2184) (by decide +kernel)⟩
theorem lw_p156 : lw_okq (⟨"SpanValuesModel", "tellsPart", "(II)V"⟩, 66) := ⟨⟨by decide +kernel, by decide +kernel⟩, List.mem_of_getElem? (i := 1501) (by decide +kernel), List.mem_of_getElem? (i := 2187) (by decide +kernel), List.mem_of_getElem? (i := 2188) (by decide +kernel)⟩
theorem lw_p157 : lw_okq (⟨"SpanValuesModel", "laysCheap", "(III)V"⟩, 66) := ⟨⟨by decide +kernel, by decide +kernel⟩, List.mem_of_getElem? (i := 1501) (by decide +kernel), List.mem_of_getElem? (i := 2200) (by decide +kernel), List.mem_of_getElem? (i := 2201) (by decide +kernel)⟩
theorem lw_p158 : lw_okq (⟨"SpanValuesModel", "cheapPart", "(IIII)J"⟩, 66) := ⟨⟨by decide +kernel, by decide +kernel⟩, List.mem_of_getElem? (i := 1501) (by decide +kernel), List.mem_of_getElem? (i := 2204) (by decide +kernel), List.mem_of_getElem? (i := 2205) (by decide +kernel)⟩
theorem lw_p159 : lw_okq (⟨"SpanValuesModel", "cheapTwos", "(IIII)J"⟩, 66) := ⟨⟨by decide +kernel, by decide +kernel⟩, List.mem_of_getElem? (i := 1501) (by decide +kernel), List.mem_of_getElem? (i := 2208) (by decide +kernel), List.mem_of_getElem? (i := 2209) (by decide +kernel)⟩
def lw_privs_10 : List (MethodName × Nat) := [(⟨"SpanValuesModel", "comes", "(I)V"⟩, 66), (⟨"SpanValuesModel", "isAhead", "(II)Z"⟩, 66), (⟨"SpanValuesModel", "formOf", "(II)I"⟩, 66), (⟨"SpanValuesModel", "takesNode", "()V"⟩, 66), (⟨"SpanValuesModel", "waits", "(I)V"⟩, 66), (⟨"SpanValuesModel", "firstPending", "()I"⟩, 66), (⟨"SpanValuesModel", "treeOf", "(IIII)I"⟩, 66), (⟨"SpanValuesModel", "stepOf", "(II)I"⟩, 66), (⟨"SpanValuesModel", "start", "()I"⟩, 66), (⟨"SpanValuesModel", "areAlike", "(II)Z"⟩, 66), (⟨"SpanValuesModel", "tells", "(I)V"⟩, 66), (⟨"SpanValuesModel", "puts", "(I)V"⟩, 66), (⟨"SpanValuesModel", "tellsPart", "(II)V"⟩, 66), (⟨"SpanValuesModel", "laysCheap", "(III)V"⟩, 66), (⟨"SpanValuesModel", "cheapPart", "(IIII)J"⟩, 66), (⟨"SpanValuesModel", "cheapTwos", "(IIII)J"⟩, 66)]
theorem lw_r10 : ∀ q ∈ lw_privs_10, lw_okq q := List.forall_mem_cons.mpr ⟨lw_p144, List.forall_mem_cons.mpr ⟨lw_p145, List.forall_mem_cons.mpr ⟨lw_p146, List.forall_mem_cons.mpr ⟨lw_p147, List.forall_mem_cons.mpr ⟨lw_p148, List.forall_mem_cons.mpr ⟨lw_p149, List.forall_mem_cons.mpr ⟨lw_p150, List.forall_mem_cons.mpr ⟨lw_p151, List.forall_mem_cons.mpr ⟨lw_p152, List.forall_mem_cons.mpr ⟨lw_p153, List.forall_mem_cons.mpr ⟨lw_p154, List.forall_mem_cons.mpr ⟨lw_p155, List.forall_mem_cons.mpr ⟨lw_p156, List.forall_mem_cons.mpr ⟨lw_p157, List.forall_mem_cons.mpr ⟨lw_p158, List.forall_mem_cons.mpr ⟨lw_p159, fun _ h => absurd h List.not_mem_nil⟩⟩⟩⟩⟩⟩⟩⟩⟩⟩⟩⟩⟩⟩⟩⟩
theorem lw_p160 : lw_okq (⟨"SpanValuesModel", "leastOfAll", "()I"⟩, 66) := ⟨⟨by decide +kernel, by decide +kernel⟩, List.mem_of_getElem? (i := 1501) (by decide +kernel), List.mem_of_getElem? (i := 2216) (by decide +kernel), List.mem_of_getElem? (i := 2217) (by decide +kernel)⟩
theorem lw_p161 : lw_okq (⟨"SpanValuesModel", "laysMends", "()I"⟩, 66) := ⟨⟨by decide +kernel, by decide +kernel⟩, List.mem_of_getElem? (i := 1501) (by decide +kernel), List.mem_of_getElem? (i := 2228) (by decide +kernel), List.mem_of_getElem? (i := 2229) (by decide +kernel)⟩
def lw_privs_11 : List (MethodName × Nat) := [(⟨"SpanValuesModel", "leastOfAll", "()I"⟩, 66), (⟨"SpanValuesModel", "laysMends", "()I"⟩, 66)]
theorem lw_r11 : ∀ q ∈ lw_privs_11, lw_okq q := List.forall_mem_cons.mpr ⟨lw_p160, List.forall_mem_cons.mpr ⟨lw_p161, fun _ h => absurd h List.not_mem_nil⟩⟩
def lw_privs : List (MethodName × Nat) := lw_privs_1 ++ (lw_privs_2 ++ (lw_privs_3 ++ (lw_privs_4 ++ (lw_privs_5 ++ (lw_privs_6 ++ (lw_privs_7 ++ (lw_privs_8 ++ (lw_privs_9 ++ (lw_privs_10 ++ (lw_privs_11))))))))))
def lw_tbl : List Cond := k2_sels lw_privs ++ tables_1
theorem lw_privs_ok : ∀ q ∈ lw_privs, lw_okq q := by
  show ∀ q ∈ lw_privs_1 ++ (lw_privs_2 ++ (lw_privs_3 ++ (lw_privs_4 ++ (lw_privs_5 ++ (lw_privs_6 ++ (lw_privs_7 ++ (lw_privs_8 ++ (lw_privs_9 ++ (lw_privs_10 ++ (lw_privs_11)))))))))), lw_okq q
  exact List.forall_mem_append.mpr ⟨lw_r1, List.forall_mem_append.mpr ⟨lw_r2, List.forall_mem_append.mpr ⟨lw_r3, List.forall_mem_append.mpr ⟨lw_r4, List.forall_mem_append.mpr ⟨lw_r5, List.forall_mem_append.mpr ⟨lw_r6, List.forall_mem_append.mpr ⟨lw_r7, List.forall_mem_append.mpr ⟨lw_r8, List.forall_mem_append.mpr ⟨lw_r9, List.forall_mem_append.mpr ⟨lw_r10, lw_r11⟩⟩⟩⟩⟩⟩⟩⟩⟩⟩
def RX0 : String := "SpanValues$Chart"
def TX0 : u_T := fun k => match k with
  | 0 => ("SpanValues$Chart", "rules", "LSpanValues$Grammar;", true)
  | 1 => ("SpanValues$Chart", "letters", "[I", true)
  | 2 => ("SpanValues$Chart", "letterCount", "I", false)
  | 3 => ("SpanValues$Chart", "spanCount", "I", false)
  | 4 => ("SpanValues$Chart", "begin", "[I", true)
  | 5 => ("SpanValues$Chart", "finish", "[I", true)
  | 6 => ("SpanValues$Chart", "spanAt", "[I", true)
  | 7 => ("SpanValues$Chart", "rule", "[I", true)
  | 8 => ("SpanValues$Chart", "middle", "[I", true)
  | 9 => ("SpanValues$Chart", "left", "[I", true)
  | 10 => ("SpanValues$Chart", "right", "[I", true)
  | 11 => ("SpanValues$Chart", "unary", "[I", true)
  | 12 => ("SpanValues$Chart", "unaryCount", "I", false)
  | 13 => ("SpanValues$Chart", "live", "[I", true)
  | 14 => ("SpanValues$Chart", "liveCount", "I", false)
  | 15 => ("SpanValues$Chart", "firstCase", "[I", true)
  | 16 => ("SpanValues$Chart", "caseCount", "I", false)
  | _ => ("SpanValues$Chart", "built", "Z", false)
def tyX0 : Nat → FieldType := fun k => match k with
  | 0 => .object "SpanValues$Grammar"
  | 1 => .array .int
  | 2 => .int
  | 3 => .int
  | 4 => .array .int
  | 5 => .array .int
  | 6 => .array .int
  | 7 => .array .int
  | 8 => .array .int
  | 9 => .array .int
  | 10 => .array .int
  | 11 => .array .int
  | 12 => .int
  | 13 => .array .int
  | 14 => .int
  | 15 => .array .int
  | 16 => .int
  | _ => .boolean
abbrev wsX00 : List Cond := u_ws RX0 TX0 18
theorem nmX0 : ∀ a, a < 18 → ∀ b, b < 18 → a ≠ b → (TX0 a).2.1 ≠ (TX0 b).2.1 := by decide +kernel
theorem tyX0_ok : ∀ k, k < 18 → parseFieldDescriptor (TX0 k).2.2.1 = some (tyX0 k) := by decide +kernel
abbrev cX0_init : ByteArray := prog_2_method_1_code
def yX0_init : MethodName := ⟨RX0, "<init>", "(LSpanValues$Grammar;)V"⟩
abbrev cX0_hear : ByteArray := prog_2_method_2_code
def yX0_hear : MethodName := ⟨RX0, "hear", "([II)V"⟩
abbrev cX0_forget : ByteArray := prog_2_method_3_code
def yX0_forget : MethodName := ⟨RX0, "forget", "()V"⟩
abbrev cX0_build : ByteArray := prog_2_method_4_code
def yX0_build : MethodName := ⟨RX0, "build", "()V"⟩
abbrev cX0_layOutSpans : ByteArray := prog_2_method_5_code
def yX0_layOutSpans : MethodName := ⟨RX0, "layOutSpans", "()V"⟩
abbrev cX0_gatherLive : ByteArray := prog_2_method_6_code
def yX0_gatherLive : MethodName := ⟨RX0, "gatherLive", "()V"⟩
abbrev cX0_addSpan : ByteArray := prog_2_method_7_code
def yX0_addSpan : MethodName := ⟨RX0, "addSpan", "(I)V"⟩
abbrev cX0_addCases : ByteArray := prog_2_method_8_code
def yX0_addCases : MethodName := ⟨RX0, "addCases", "(II)V"⟩
abbrev cX0_addCase : ByteArray := prog_2_method_9_code
def yX0_addCase : MethodName := ⟨RX0, "addCase", "(IIII)V"⟩
abbrev cX0_partOver : ByteArray := prog_2_method_10_code
def yX0_partOver : MethodName := ⟨RX0, "partOver", "(III)I"⟩
abbrev cX0_itemAt : ByteArray := prog_2_method_11_code
def yX0_itemAt : MethodName := ⟨RX0, "itemAt", "(III)I"⟩
abbrev cX0_itemCount : ByteArray := prog_2_method_12_code
def yX0_itemCount : MethodName := ⟨RX0, "itemCount", "()I"⟩
abbrev cX0_beginOf : ByteArray := prog_2_method_13_code
def yX0_beginOf : MethodName := ⟨RX0, "beginOf", "(I)I"⟩
abbrev cX0_finishOf : ByteArray := prog_2_method_14_code
def yX0_finishOf : MethodName := ⟨RX0, "finishOf", "(I)I"⟩
abbrev cX0_caseStart : ByteArray := prog_2_method_15_code
def yX0_caseStart : MethodName := ⟨RX0, "caseStart", "(I)I"⟩
abbrev cX0_caseEnd : ByteArray := prog_2_method_16_code
def yX0_caseEnd : MethodName := ⟨RX0, "caseEnd", "(I)I"⟩
abbrev cX0_goesOn : ByteArray := prog_2_method_17_code
def yX0_goesOn : MethodName := ⟨RX0, "goesOn", "(I)Z"⟩
abbrev cX0_isInside : ByteArray := prog_2_method_18_code
def yX0_isInside : MethodName := ⟨RX0, "isInside", "(II)Z"⟩
def RX1 : String := "SpanValues$Costs"
def TX1 : u_T := fun k => match k with
  | 0 => ("SpanValues$Costs", "rules", "LSpanValues$Grammar;", true)
  | 1 => ("SpanValues$Costs", "chart", "LSpanValues$Chart;", true)
  | 2 => ("SpanValues$Costs", "low", "[I", true)
  | 3 => ("SpanValues$Costs", "mild", "[I", true)
  | 4 => ("SpanValues$Costs", "spare", "[I", true)
  | 5 => ("SpanValues$Costs", "order", "[I", true)
  | 6 => ("SpanValues$Costs", "ordered", "I", false)
  | 7 => ("SpanValues$Costs", "lowKnown", "Z", false)
  | 8 => ("SpanValues$Costs", "mildKnown", "Z", false)
  | _ => ("SpanValues$Costs", "orderKnown", "Z", false)
def tyX1 : Nat → FieldType := fun k => match k with
  | 0 => .object "SpanValues$Grammar"
  | 1 => .object "SpanValues$Chart"
  | 2 => .array .int
  | 3 => .array .int
  | 4 => .array .int
  | 5 => .array .int
  | 6 => .int
  | 7 => .boolean
  | 8 => .boolean
  | _ => .boolean
abbrev wsX10 : List Cond := u_ws RX1 TX1 10
theorem nmX1 : ∀ a, a < 10 → ∀ b, b < 10 → a ≠ b → (TX1 a).2.1 ≠ (TX1 b).2.1 := by decide +kernel
theorem tyX1_ok : ∀ k, k < 10 → parseFieldDescriptor (TX1 k).2.2.1 = some (tyX1 k) := by decide +kernel
abbrev cX1_init : ByteArray := prog_3_method_1_code
def yX1_init : MethodName := ⟨RX1, "<init>", "(LSpanValues$Grammar;LSpanValues$Chart;)V"⟩
abbrev cX1_forget : ByteArray := prog_3_method_2_code
def yX1_forget : MethodName := ⟨RX1, "forget", "()V"⟩
abbrev cX1_prepare : ByteArray := prog_3_method_3_code
def yX1_prepare : MethodName := ⟨RX1, "prepare", "()V"⟩
abbrev cX1_lowestOf : ByteArray := prog_3_method_4_code
def yX1_lowestOf : MethodName := ⟨RX1, "lowestOf", "(I)I"⟩
abbrev cX1_lowestWithout : ByteArray := prog_3_method_5_code
def yX1_lowestWithout : MethodName := ⟨RX1, "lowestWithout", "(II)I"⟩
abbrev cX1_mildestOf : ByteArray := prog_3_method_6_code
def yX1_mildestOf : MethodName := ⟨RX1, "mildestOf", "(I)I"⟩
abbrev cX1_fill : ByteArray := prog_3_method_7_code
def yX1_fill : MethodName := ⟨RX1, "fill", "([IIZ)V"⟩
abbrev cX1_leastOfCases : ByteArray := prog_3_method_8_code
def yX1_leastOfCases : MethodName := ⟨RX1, "leastOfCases", "([IIIZ)I"⟩
abbrev cX1_relax : ByteArray := prog_3_method_9_code
def yX1_relax : MethodName := ⟨RX1, "relax", "([IIIZ)Z"⟩
abbrev cX1_join : ByteArray := prog_3_method_10_code
def yX1_join : MethodName := ⟨RX1, "join", "(IIZ)I"⟩
abbrev cX1_lesser : ByteArray := prog_3_method_11_code
def yX1_lesser : MethodName := ⟨RX1, "lesser", "(II)I"⟩
abbrev cX1_has : ByteArray := prog_3_method_12_code
def yX1_has : MethodName := ⟨RX1, "has", "(I)Z"⟩
abbrev cX1_isFull : ByteArray := prog_3_method_13_code
def yX1_isFull : MethodName := ⟨RX1, "isFull", "(I)Z"⟩
abbrev cX1_fullCases : ByteArray := prog_3_method_14_code
def yX1_fullCases : MethodName := ⟨RX1, "fullCases", "(I)I"⟩
abbrev cX1_casesAround : ByteArray := prog_3_method_15_code
def yX1_casesAround : MethodName := ⟨RX1, "casesAround", "(I)I"⟩
abbrev cX1_itemsWithTrees : ByteArray := prog_3_method_16_code
def yX1_itemsWithTrees : MethodName := ⟨RX1, "itemsWithTrees", "()I"⟩
abbrev cX1_itemInOrder : ByteArray := prog_3_method_17_code
def yX1_itemInOrder : MethodName := ⟨RX1, "itemInOrder", "(I)I"⟩
abbrev cX1_putInOrder : ByteArray := prog_3_method_18_code
def yX1_putInOrder : MethodName := ⟨RX1, "putInOrder", "(I)V"⟩
def RX2 : String := "SpanValues$Facts"
def TX2 : u_T := fun k => match k with
  | 0 => ("SpanValues$Facts", "rules", "LSpanValues$Grammar;", true)
  | 1 => ("SpanValues$Facts", "chart", "LSpanValues$Chart;", true)
  | 2 => ("SpanValues$Facts", "costs", "LSpanValues$Costs;", true)
  | 3 => ("SpanValues$Facts", "trees", "[J", true)
  | 4 => ("SpanValues$Facts", "some", "[J", true)
  | 5 => ("SpanValues$Facts", "each", "[J", true)
  | 6 => ("SpanValues$Facts", "treesKnown", "Z", false)
  | 7 => ("SpanValues$Facts", "someKnown", "Z", false)
  | _ => ("SpanValues$Facts", "eachKnown", "Z", false)
def tyX2 : Nat → FieldType := fun k => match k with
  | 0 => .object "SpanValues$Grammar"
  | 1 => .object "SpanValues$Chart"
  | 2 => .object "SpanValues$Costs"
  | 3 => .array .long
  | 4 => .array .long
  | 5 => .array .long
  | 6 => .boolean
  | 7 => .boolean
  | _ => .boolean
abbrev wsX20 : List Cond := u_ws RX2 TX2 9
theorem nmX2 : ∀ a, a < 9 → ∀ b, b < 9 → a ≠ b → (TX2 a).2.1 ≠ (TX2 b).2.1 := by decide +kernel
theorem tyX2_ok : ∀ k, k < 9 → parseFieldDescriptor (TX2 k).2.2.1 = some (tyX2 k) := by decide +kernel
abbrev cX2_init : ByteArray := prog_4_method_1_code
def yX2_init : MethodName := ⟨RX2, "<init>", "(LSpanValues$Grammar;LSpanValues$Chart;LSpanValues$Costs;)V"⟩
abbrev cX2_forget : ByteArray := prog_4_method_2_code
def yX2_forget : MethodName := ⟨RX2, "forget", "()V"⟩
abbrev cX2_treesOf : ByteArray := prog_4_method_3_code
def yX2_treesOf : MethodName := ⟨RX2, "treesOf", "(I)J"⟩
abbrev cX2_countSpan : ByteArray := prog_4_method_4_code
def yX2_countSpan : MethodName := ⟨RX2, "countSpan", "(I)V"⟩
abbrev cX2_countCases : ByteArray := prog_4_method_5_code
def yX2_countCases : MethodName := ⟨RX2, "countCases", "(I)J"⟩
abbrev cX2_labelsThatGoOn : ByteArray := prog_4_method_6_code
def yX2_labelsThatGoOn : MethodName := ⟨RX2, "labelsThatGoOn", "(I)I"⟩
abbrev cX2_targets : ByteArray := prog_4_method_7_code
def yX2_targets : MethodName := ⟨RX2, "targets", "(II)I"⟩
abbrev cX2_addTargets : ByteArray := prog_4_method_8_code
def yX2_addTargets : MethodName := ⟨RX2, "addTargets", "(II)V"⟩
abbrev cX2_endlessSum : ByteArray := prog_4_method_9_code
def yX2_endlessSum : MethodName := ⟨RX2, "endlessSum", "(JJ)J"⟩
abbrev cX2_endlessProduct : ByteArray := prog_4_method_10_code
def yX2_endlessProduct : MethodName := ⟨RX2, "endlessProduct", "(JJ)J"⟩
abbrev cX2_inSome : ByteArray := prog_4_method_11_code
def yX2_inSome : MethodName := ⟨RX2, "inSome", "(I)J"⟩
abbrev cX2_inEach : ByteArray := prog_4_method_12_code
def yX2_inEach : MethodName := ⟨RX2, "inEach", "(I)J"⟩
abbrev cX2_gather : ByteArray := prog_4_method_13_code
def yX2_gather : MethodName := ⟨RX2, "gather", "([JZ)V"⟩
abbrev cX2_gatherCases : ByteArray := prog_4_method_14_code
def yX2_gatherCases : MethodName := ⟨RX2, "gatherCases", "([JIZ)J"⟩
abbrev cX2_gatherUnaries : ByteArray := prog_4_method_15_code
def yX2_gatherUnaries : MethodName := ⟨RX2, "gatherUnaries", "([JIZ)Z"⟩
def RX3 : String := "SpanValues$Forest"
def TX3 : u_T := fun k => match k with
  | 0 => ("SpanValues$Forest", "rules", "LSpanValues$Grammar;", true)
  | 1 => ("SpanValues$Forest", "chart", "LSpanValues$Chart;", true)
  | 2 => ("SpanValues$Forest", "costs", "LSpanValues$Costs;", true)
  | 3 => ("SpanValues$Forest", "cost", "[I", true)
  | 4 => ("SpanValues$Forest", "caseOf", "[I", true)
  | 5 => ("SpanValues$Forest", "subs", "[I", true)
  | 6 => ("SpanValues$Forest", "rank", "[I", true)
  | 7 => ("SpanValues$Forest", "held", "[I", true)
  | 8 => ("SpanValues$Forest", "grown", "[Z", true)
  | 9 => ("SpanValues$Forest", "baseCost", "[I", true)
  | 10 => ("SpanValues$Forest", "baseCase", "[I", true)
  | 11 => ("SpanValues$Forest", "baseSubs", "[I", true)
  | 12 => ("SpanValues$Forest", "baseHeld", "[I", true)
  | 13 => ("SpanValues$Forest", "baseTaken", "[I", true)
  | 14 => ("SpanValues$Forest", "unaryCase", "[I", true)
  | 15 => ("SpanValues$Forest", "unaryTaken", "[I", true)
  | 16 => ("SpanValues$Forest", "headCost", "I", false)
  | _ => ("SpanValues$Forest", "headFrom", "I", false)
def tyX3 : Nat → FieldType := fun k => match k with
  | 0 => .object "SpanValues$Grammar"
  | 1 => .object "SpanValues$Chart"
  | 2 => .object "SpanValues$Costs"
  | 3 => .array .int
  | 4 => .array .int
  | 5 => .array .int
  | 6 => .array .int
  | 7 => .array .int
  | 8 => .array .boolean
  | 9 => .array .int
  | 10 => .array .int
  | 11 => .array .int
  | 12 => .array .int
  | 13 => .array .int
  | 14 => .array .int
  | 15 => .array .int
  | 16 => .int
  | _ => .int
abbrev wsX30 : List Cond := u_ws RX3 TX3 18
theorem nmX3 : ∀ a, a < 18 → ∀ b, b < 18 → a ≠ b → (TX3 a).2.1 ≠ (TX3 b).2.1 := by decide +kernel
theorem tyX3_ok : ∀ k, k < 18 → parseFieldDescriptor (TX3 k).2.2.1 = some (tyX3 k) := by decide +kernel
abbrev cX3_init : ByteArray := prog_5_method_1_code
def yX3_init : MethodName := ⟨RX3, "<init>", "(LSpanValues$Grammar;LSpanValues$Chart;LSpanValues$Costs;)V"⟩
abbrev cX3_forget : ByteArray := prog_5_method_2_code
def yX3_forget : MethodName := ⟨RX3, "forget", "()V"⟩
abbrev cX3_treeOf : ByteArray := prog_5_method_3_code
def yX3_treeOf : MethodName := ⟨RX3, "treeOf", "(II)I"⟩
abbrev cX3_leftTree : ByteArray := prog_5_method_4_code
def yX3_leftTree : MethodName := ⟨RX3, "leftTree", "(I)I"⟩
abbrev cX3_rightTree : ByteArray := prog_5_method_5_code
def yX3_rightTree : MethodName := ⟨RX3, "rightTree", "(I)I"⟩
abbrev cX3_growSpan : ByteArray := prog_5_method_6_code
def yX3_growSpan : MethodName := ⟨RX3, "growSpan", "(I)V"⟩
abbrev cX3_caseOfRule : ByteArray := prog_5_method_7_code
def yX3_caseOfRule : MethodName := ⟨RX3, "caseOfRule", "(II)I"⟩
abbrev cX3_gatherBase : ByteArray := prog_5_method_8_code
def yX3_gatherBase : MethodName := ⟨RX3, "gatherBase", "(II)V"⟩
abbrev cX3_gatherPairs : ByteArray := prog_5_method_9_code
def yX3_gatherPairs : MethodName := ⟨RX3, "gatherPairs", "(II)V"⟩
abbrev cX3_putInBase : ByteArray := prog_5_method_10_code
def yX3_putInBase : MethodName := ⟨RX3, "putInBase", "(IIII)Z"⟩
abbrev cX3_isSmaller : ByteArray := prog_5_method_11_code
def yX3_isSmaller : MethodName := ⟨RX3, "isSmaller", "(IIII)Z"⟩
abbrev cX3_append : ByteArray := prog_5_method_12_code
def yX3_append : MethodName := ⟨RX3, "append", "(IIII)V"⟩
abbrev cX3_takeAllOfBase : ByteArray := prog_5_method_13_code
def yX3_takeAllOfBase : MethodName := ⟨RX3, "takeAllOfBase", "(II)V"⟩
abbrev cX3_takeOfBase : ByteArray := prog_5_method_14_code
def yX3_takeOfBase : MethodName := ⟨RX3, "takeOfBase", "(II)V"⟩
abbrev cX3_takeLeast : ByteArray := prog_5_method_15_code
def yX3_takeLeast : MethodName := ⟨RX3, "takeLeast", "(II)Z"⟩
abbrev cX3_findHead : ByteArray := prog_5_method_16_code
def yX3_findHead : MethodName := ⟨RX3, "findHead", "(II)V"⟩
def RX4 : String := "SpanValues$Grammar"
def TX4 : u_T := fun k => match k with
  | 0 => ("SpanValues$Grammar", "ruleCount", "I", false)
  | 1 => ("SpanValues$Grammar", "head", "[I", true)
  | 2 => ("SpanValues$Grammar", "left", "[I", true)
  | 3 => ("SpanValues$Grammar", "right", "[I", true)
  | 4 => ("SpanValues$Grammar", "price", "[I", true)
  | 5 => ("SpanValues$Grammar", "element", "[I", true)
  | 6 => ("SpanValues$Grammar", "isOut", "[Z", true)
  | 7 => ("SpanValues$Grammar", "base", "I", false)
  | 8 => ("SpanValues$Grammar", "zero", "I", false)
  | 9 => ("SpanValues$Grammar", "one", "I", false)
  | 10 => ("SpanValues$Grammar", "plusRow", "[I", true)
  | 11 => ("SpanValues$Grammar", "timesRow", "[I", true)
  | _ => ("SpanValues$Grammar", "reach", "[I", true)
def tyX4 : Nat → FieldType := fun k => match k with
  | 0 => .int
  | 1 => .array .int
  | 2 => .array .int
  | 3 => .array .int
  | 4 => .array .int
  | 5 => .array .int
  | 6 => .array .boolean
  | 7 => .int
  | 8 => .int
  | 9 => .int
  | 10 => .array .int
  | 11 => .array .int
  | _ => .array .int
abbrev wsX40 : List Cond := u_ws RX4 TX4 13
theorem nmX4 : ∀ a, a < 13 → ∀ b, b < 13 → a ≠ b → (TX4 a).2.1 ≠ (TX4 b).2.1 := by decide +kernel
theorem tyX4_ok : ∀ k, k < 13 → parseFieldDescriptor (TX4 k).2.2.1 = some (tyX4 k) := by decide +kernel
abbrev cX4_init : ByteArray := prog_6_method_1_code
def yX4_init : MethodName := ⟨RX4, "<init>", "()V"⟩
abbrev cX4_clear : ByteArray := prog_6_method_2_code
def yX4_clear : MethodName := ⟨RX4, "clear", "()V"⟩
abbrev cX4_take : ByteArray := prog_6_method_3_code
def yX4_take : MethodName := ⟨RX4, "take", "(LSpanValues$Grammar;)V"⟩
abbrev cX4_knows : ByteArray := prog_6_method_4_code
def yX4_knows : MethodName := ⟨RX4, "knows", "(I)Z"⟩
abbrev cX4_isElement : ByteArray := prog_6_method_5_code
def yX4_isElement : MethodName := ⟨RX4, "isElement", "(I)Z"⟩
abbrev cX4_plus : ByteArray := prog_6_method_6_code
def yX4_plus : MethodName := ⟨RX4, "plus", "(II)I"⟩
abbrev cX4_times : ByteArray := prog_6_method_7_code
def yX4_times : MethodName := ⟨RX4, "times", "(II)I"⟩
abbrev cX4_start : ByteArray := prog_6_method_8_code
def yX4_start : MethodName := ⟨RX4, "start", "()I"⟩
abbrev cX4_rulesIn : ByteArray := prog_6_method_9_code
def yX4_rulesIn : MethodName := ⟨RX4, "rulesIn", "()I"⟩
abbrev cX4_isUnary : ByteArray := prog_6_method_10_code
def yX4_isUnary : MethodName := ⟨RX4, "isUnary", "(I)Z"⟩
abbrev cX4_labelsOnRings : ByteArray := prog_6_method_11_code
def yX4_labelsOnRings : MethodName := ⟨RX4, "labelsOnRings", "()I"⟩
abbrev cX4_rulesAlive : ByteArray := prog_6_method_12_code
def yX4_rulesAlive : MethodName := ⟨RX4, "rulesAlive", "()J"⟩
abbrev cX4_fruitfulLabels : ByteArray := prog_6_method_13_code
def yX4_fruitfulLabels : MethodName := ⟨RX4, "fruitfulLabels", "()I"⟩
abbrev cX4_partsWithin : ByteArray := prog_6_method_14_code
def yX4_partsWithin : MethodName := ⟨RX4, "partsWithin", "(II)Z"⟩
abbrev cX4_labelBit : ByteArray := prog_6_method_15_code
def yX4_labelBit : MethodName := ⟨RX4, "labelBit", "(I)I"⟩
def RX5 : String := "SpanValues$Mender"
def TX5 : u_T := fun k => match k with
  | 0 => ("SpanValues$Mender", "rules", "LSpanValues$Grammar;", true)
  | 1 => ("SpanValues$Mender", "chart", "LSpanValues$Chart;", true)
  | 2 => ("SpanValues$Mender", "costs", "LSpanValues$Costs;", true)
  | 3 => ("SpanValues$Mender", "around", "[I", true)
  | 4 => ("SpanValues$Mender", "found", "[I", true)
  | 5 => ("SpanValues$Mender", "changes", "I", false)
  | 6 => ("SpanValues$Mender", "place", "I", false)
  | 7 => ("SpanValues$Mender", "letter", "I", false)
  | 8 => ("SpanValues$Mender", "lowest", "I", false)
  | _ => ("SpanValues$Mender", "known", "Z", false)
def tyX5 : Nat → FieldType := fun k => match k with
  | 0 => .object "SpanValues$Grammar"
  | 1 => .object "SpanValues$Chart"
  | 2 => .object "SpanValues$Costs"
  | 3 => .array .int
  | 4 => .array .int
  | 5 => .int
  | 6 => .int
  | 7 => .int
  | 8 => .int
  | _ => .boolean
abbrev wsX50 : List Cond := u_ws RX5 TX5 10
theorem nmX5 : ∀ a, a < 10 → ∀ b, b < 10 → a ≠ b → (TX5 a).2.1 ≠ (TX5 b).2.1 := by decide +kernel
theorem tyX5_ok : ∀ k, k < 10 → parseFieldDescriptor (TX5 k).2.2.1 = some (tyX5 k) := by decide +kernel
abbrev cX5_init : ByteArray := prog_7_method_1_code
def yX5_init : MethodName := ⟨RX5, "<init>", "(LSpanValues$Grammar;LSpanValues$Chart;LSpanValues$Costs;)V"⟩
abbrev cX5_forget : ByteArray := prog_7_method_2_code
def yX5_forget : MethodName := ⟨RX5, "forget", "()V"⟩
abbrev cX5_prepare : ByteArray := prog_7_method_3_code
def yX5_prepare : MethodName := ⟨RX5, "prepare", "(I)V"⟩
abbrev cX5_goDown : ByteArray := prog_7_method_4_code
def yX5_goDown : MethodName := ⟨RX5, "goDown", "(I)V"⟩
abbrev cX5_relax : ByteArray := prog_7_method_5_code
def yX5_relax : MethodName := ⟨RX5, "relax", "(I)Z"⟩
abbrev cX5_goToParts : ByteArray := prog_7_method_6_code
def yX5_goToParts : MethodName := ⟨RX5, "goToParts", "(I)V"⟩
abbrev cX5_improve : ByteArray := prog_7_method_7_code
def yX5_improve : MethodName := ⟨RX5, "improve", "([III)Z"⟩
abbrev cX5_tryRule : ByteArray := prog_7_method_8_code
def yX5_tryRule : MethodName := ⟨RX5, "tryRule", "(II)V"⟩
abbrev cX5_tryLetter : ByteArray := prog_7_method_9_code
def yX5_tryLetter : MethodName := ⟨RX5, "tryLetter", "(IIII)V"⟩
abbrev cX5_partCost : ByteArray := prog_7_method_10_code
def yX5_partCost : MethodName := ⟨RX5, "partCost", "(III)I"⟩
abbrev cX5_choose : ByteArray := prog_7_method_11_code
def yX5_choose : MethodName := ⟨RX5, "choose", "()V"⟩
def RX6 : String := "SpanValues$Reader"
def TX6 : u_T := fun k => match k with
  | 0 => ("SpanValues$Reader", "bytes", "[I", true)
  | 1 => ("SpanValues$Reader", "draft", "LSpanValues$Grammar;", true)
  | 2 => ("SpanValues$Reader", "faultNumber", "I", false)
  | 3 => ("SpanValues$Reader", "faultPlace", "I", false)
  | 4 => ("SpanValues$Reader", "length", "I", false)
  | 5 => ("SpanValues$Reader", "kind", "I", false)
  | 6 => ("SpanValues$Reader", "first", "I", false)
  | 7 => ("SpanValues$Reader", "behind", "I", false)
  | _ => ("SpanValues$Reader", "number", "I", false)
def tyX6 : Nat → FieldType := fun k => match k with
  | 0 => .array .int
  | 1 => .object "SpanValues$Grammar"
  | 2 => .int
  | 3 => .int
  | 4 => .int
  | 5 => .int
  | 6 => .int
  | 7 => .int
  | _ => .int
abbrev wsX60 : List Cond := u_ws RX6 TX6 9
theorem nmX6 : ∀ a, a < 9 → ∀ b, b < 9 → a ≠ b → (TX6 a).2.1 ≠ (TX6 b).2.1 := by decide +kernel
theorem tyX6_ok : ∀ k, k < 9 → parseFieldDescriptor (TX6 k).2.2.1 = some (tyX6 k) := by decide +kernel
abbrev cX6_init : ByteArray := prog_8_method_1_code
def yX6_init : MethodName := ⟨RX6, "<init>", "([I)V"⟩
abbrev cX6_read : ByteArray := prog_8_method_2_code
def yX6_read : MethodName := ⟨RX6, "read", "(I)V"⟩
abbrev cX6_readTable : ByteArray := prog_8_method_3_code
def yX6_readTable : MethodName := ⟨RX6, "readTable", "()V"⟩
abbrev cX6_readRow : ByteArray := prog_8_method_4_code
def yX6_readRow : MethodName := ⟨RX6, "readRow", "([I)V"⟩
abbrev cX6_readRule : ByteArray := prog_8_method_5_code
def yX6_readRule : MethodName := ⟨RX6, "readRule", "()V"⟩
abbrev cX6_readPart : ByteArray := prog_8_method_6_code
def yX6_readPart : MethodName := ⟨RX6, "readPart", "(Z)I"⟩
abbrev cX6_readNumber : ByteArray := prog_8_method_7_code
def yX6_readNumber : MethodName := ⟨RX6, "readNumber", "(II)I"⟩
abbrev cX6_passWord : ByteArray := prog_8_method_8_code
def yX6_passWord : MethodName := ⟨RX6, "passWord", "(Ljava/lang/String;)V"⟩
abbrev cX6_passSign : ByteArray := prog_8_method_9_code
def yX6_passSign : MethodName := ⟨RX6, "passSign", "(C)V"⟩
abbrev cX6_fail : ByteArray := prog_8_method_10_code
def yX6_fail : MethodName := ⟨RX6, "fail", "(I)V"⟩
abbrev cX6_isWord : ByteArray := prog_8_method_11_code
def yX6_isWord : MethodName := ⟨RX6, "isWord", "(Ljava/lang/String;)Z"⟩
abbrev cX6_isLabel : ByteArray := prog_8_method_12_code
def yX6_isLabel : MethodName := ⟨RX6, "isLabel", "()Z"⟩
abbrev cX6_isLetter : ByteArray := prog_8_method_13_code
def yX6_isLetter : MethodName := ⟨RX6, "isLetter", "()Z"⟩
abbrev cX6_advance : ByteArray := prog_8_method_14_code
def yX6_advance : MethodName := ⟨RX6, "advance", "()V"⟩
abbrev cX6_isBlank : ByteArray := prog_8_method_15_code
def yX6_isBlank : MethodName := ⟨RX6, "isBlank", "(I)Z"⟩
abbrev cX6_isSmall : ByteArray := prog_8_method_16_code
def yX6_isSmall : MethodName := ⟨RX6, "isSmall", "(I)Z"⟩
abbrev cX6_isDigit : ByteArray := prog_8_method_17_code
def yX6_isDigit : MethodName := ⟨RX6, "isDigit", "(I)Z"⟩
def RX7 : String := "SpanValues$Sums"
def TX7 : u_T := fun k => match k with
  | 0 => ("SpanValues$Sums", "rules", "LSpanValues$Grammar;", true)
  | 1 => ("SpanValues$Sums", "chart", "LSpanValues$Chart;", true)
  | 2 => ("SpanValues$Sums", "costs", "LSpanValues$Costs;", true)
  | 3 => ("SpanValues$Sums", "total", "[I", true)
  | 4 => ("SpanValues$Sums", "fails", "[Z", true)
  | 5 => ("SpanValues$Sums", "matrix", "[I", true)
  | 6 => ("SpanValues$Sums", "rowOf", "[I", true)
  | _ => ("SpanValues$Sums", "known", "Z", false)
def tyX7 : Nat → FieldType := fun k => match k with
  | 0 => .object "SpanValues$Grammar"
  | 1 => .object "SpanValues$Chart"
  | 2 => .object "SpanValues$Costs"
  | 3 => .array .int
  | 4 => .array .boolean
  | 5 => .array .int
  | 6 => .array .int
  | _ => .boolean
abbrev wsX70 : List Cond := u_ws RX7 TX7 8
theorem nmX7 : ∀ a, a < 8 → ∀ b, b < 8 → a ≠ b → (TX7 a).2.1 ≠ (TX7 b).2.1 := by decide +kernel
theorem tyX7_ok : ∀ k, k < 8 → parseFieldDescriptor (TX7 k).2.2.1 = some (tyX7 k) := by decide +kernel
abbrev cX7_init : ByteArray := prog_9_method_1_code
def yX7_init : MethodName := ⟨RX7, "<init>", "(LSpanValues$Grammar;LSpanValues$Chart;LSpanValues$Costs;)V"⟩
abbrev cX7_forget : ByteArray := prog_9_method_2_code
def yX7_forget : MethodName := ⟨RX7, "forget", "()V"⟩
abbrev cX7_sumOf : ByteArray := prog_9_method_3_code
def yX7_sumOf : MethodName := ⟨RX7, "sumOf", "(I)I"⟩
abbrev cX7_solveSpan : ByteArray := prog_9_method_4_code
def yX7_solveSpan : MethodName := ⟨RX7, "solveSpan", "(I)V"⟩
abbrev cX7_setEquation : ByteArray := prog_9_method_5_code
def yX7_setEquation : MethodName := ⟨RX7, "setEquation", "(II)Z"⟩
abbrev cX7_eliminate : ByteArray := prog_9_method_6_code
def yX7_eliminate : MethodName := ⟨RX7, "eliminate", "(I)Z"⟩
abbrev cX7_swapRows : ByteArray := prog_9_method_7_code
def yX7_swapRows : MethodName := ⟨RX7, "swapRows", "(II)V"⟩
abbrev cX7_scaleRow : ByteArray := prog_9_method_8_code
def yX7_scaleRow : MethodName := ⟨RX7, "scaleRow", "(II)V"⟩
abbrev cX7_subtractRow : ByteArray := prog_9_method_9_code
def yX7_subtractRow : MethodName := ⟨RX7, "subtractRow", "(III)V"⟩
abbrev cX7_inverse : ByteArray := prog_9_method_10_code
def yX7_inverse : MethodName := ⟨RX7, "inverse", "(I)I"⟩
def RX8 : String := "SpanValues$Tally"
def TX8 : u_T := fun k => match k with
  | 0 => ("SpanValues$Tally", "rules", "LSpanValues$Grammar;", true)
  | 1 => ("SpanValues$Tally", "chart", "LSpanValues$Chart;", true)
  | 2 => ("SpanValues$Tally", "costs", "LSpanValues$Costs;", true)
  | 3 => ("SpanValues$Tally", "counted", "[I", true)
  | 4 => ("SpanValues$Tally", "high", "[I", true)
  | 5 => ("SpanValues$Tally", "together", "[J", true)
  | _ => ("SpanValues$Tally", "number", "[J", false)
def tyX8 : Nat → FieldType := fun k => match k with
  | 0 => .object "SpanValues$Grammar"
  | 1 => .object "SpanValues$Chart"
  | 2 => .object "SpanValues$Costs"
  | 3 => .array .int
  | 4 => .array .int
  | 5 => .array .long
  | _ => .array .long
abbrev wsX80 : List Cond := u_ws RX8 TX8 7
theorem nmX8 : ∀ a, a < 7 → ∀ b, b < 7 → a ≠ b → (TX8 a).2.1 ≠ (TX8 b).2.1 := by decide +kernel
theorem tyX8_ok : ∀ k, k < 7 → parseFieldDescriptor (TX8 k).2.2.1 = some (tyX8 k) := by decide +kernel
abbrev cX8_init : ByteArray := prog_10_method_1_code
def yX8_init : MethodName := ⟨RX8, "<init>", "(LSpanValues$Grammar;LSpanValues$Chart;LSpanValues$Costs;)V"⟩
abbrev cX8_forget : ByteArray := prog_10_method_2_code
def yX8_forget : MethodName := ⟨RX8, "forget", "()V"⟩
abbrev cX8_upTo : ByteArray := prog_10_method_3_code
def yX8_upTo : MethodName := ⟨RX8, "upTo", "(II)J"⟩
abbrev cX8_countSpan : ByteArray := prog_10_method_4_code
def yX8_countSpan : MethodName := ⟨RX8, "countSpan", "(II)V"⟩
abbrev cX8_countItem : ByteArray := prog_10_method_5_code
def yX8_countItem : MethodName := ⟨RX8, "countItem", "(II)J"⟩
abbrev cX8_countCase : ByteArray := prog_10_method_6_code
def yX8_countCase : MethodName := ⟨RX8, "countCase", "(II)J"⟩
abbrev cX8_countPairs : ByteArray := prog_10_method_7_code
def yX8_countPairs : MethodName := ⟨RX8, "countPairs", "(III)J"⟩
abbrev cX8_add : ByteArray := prog_10_method_8_code
def yX8_add : MethodName := ⟨RX8, "add", "(JJ)J"⟩
abbrev cX8_multiply : ByteArray := prog_10_method_9_code
def yX8_multiply : MethodName := ⟨RX8, "multiply", "(JJ)J"⟩
def RX9 : String := "SpanValues$Values"
def TX9 : u_T := fun k => match k with
  | 0 => ("SpanValues$Values", "rules", "LSpanValues$Grammar;", true)
  | 1 => ("SpanValues$Values", "chart", "LSpanValues$Chart;", true)
  | 2 => ("SpanValues$Values", "now", "[I", true)
  | 3 => ("SpanValues$Values", "next", "[I", true)
  | 4 => ("SpanValues$Values", "met", "[Z", true)
  | 5 => ("SpanValues$Values", "taken", "I", false)
  | _ => ("SpanValues$Values", "known", "Z", false)
def tyX9 : Nat → FieldType := fun k => match k with
  | 0 => .object "SpanValues$Grammar"
  | 1 => .object "SpanValues$Chart"
  | 2 => .array .int
  | 3 => .array .int
  | 4 => .array .boolean
  | 5 => .int
  | _ => .boolean
abbrev wsX90 : List Cond := u_ws RX9 TX9 7
theorem nmX9 : ∀ a, a < 7 → ∀ b, b < 7 → a ≠ b → (TX9 a).2.1 ≠ (TX9 b).2.1 := by decide +kernel
theorem tyX9_ok : ∀ k, k < 7 → parseFieldDescriptor (TX9 k).2.2.1 = some (tyX9 k) := by decide +kernel
abbrev cX9_init : ByteArray := prog_11_method_1_code
def yX9_init : MethodName := ⟨RX9, "<init>", "(LSpanValues$Grammar;LSpanValues$Chart;)V"⟩
abbrev cX9_forget : ByteArray := prog_11_method_2_code
def yX9_forget : MethodName := ⟨RX9, "forget", "()V"⟩
abbrev cX9_valueOf : ByteArray := prog_11_method_3_code
def yX9_valueOf : MethodName := ⟨RX9, "valueOf", "(I)I"⟩
abbrev cX9_roundsTaken : ByteArray := prog_11_method_4_code
def yX9_roundsTaken : MethodName := ⟨RX9, "roundsTaken", "()I"⟩
abbrev cX9_changeAll : ByteArray := prog_11_method_5_code
def yX9_changeAll : MethodName := ⟨RX9, "changeAll", "()Z"⟩
abbrev cX9_renewed : ByteArray := prog_11_method_6_code
def yX9_renewed : MethodName := ⟨RX9, "renewed", "(I)I"⟩
abbrev cX9_partValue : ByteArray := prog_11_method_7_code
def yX9_partValue : MethodName := ⟨RX9, "partValue", "(I)I"⟩
abbrev cX9_lawsKept : ByteArray := prog_11_method_8_code
def yX9_lawsKept : MethodName := ⟨RX9, "lawsKept", "()I"⟩
abbrev cX9_meetAll : ByteArray := prog_11_method_9_code
def yX9_meetAll : MethodName := ⟨RX9, "meetAll", "()V"⟩
abbrev cX9_lawsOfOne : ByteArray := prog_11_method_10_code
def yX9_lawsOfOne : MethodName := ⟨RX9, "lawsOfOne", "(I)I"⟩
abbrev cX9_lawsOfMore : ByteArray := prog_11_method_11_code
def yX9_lawsOfMore : MethodName := ⟨RX9, "lawsOfMore", "(II)I"⟩
abbrev cX9_keep : ByteArray := prog_11_method_12_code
def yX9_keep : MethodName := ⟨RX9, "keep", "(IIII)I"⟩
def RX10 : String := "SpanValues$Walk"
def TX10 : u_T := fun k => match k with
  | 0 => ("SpanValues$Walk", "rules", "LSpanValues$Grammar;", true)
  | 1 => ("SpanValues$Walk", "chart", "LSpanValues$Chart;", true)
  | 2 => ("SpanValues$Walk", "forest", "LSpanValues$Forest;", true)
  | 3 => ("SpanValues$Walk", "stack", "[I", true)
  | 4 => ("SpanValues$Walk", "depths", "[I", true)
  | 5 => ("SpanValues$Walk", "steps", "[I", true)
  | 6 => ("SpanValues$Walk", "top", "I", false)
  | 7 => ("SpanValues$Walk", "stepCount", "I", false)
  | 8 => ("SpanValues$Walk", "deepest", "I", false)
  | _ => ("SpanValues$Walk", "written", "I", false)
def tyX10 : Nat → FieldType := fun k => match k with
  | 0 => .object "SpanValues$Grammar"
  | 1 => .object "SpanValues$Chart"
  | 2 => .object "SpanValues$Forest"
  | 3 => .array .int
  | 4 => .array .int
  | 5 => .array .int
  | 6 => .int
  | 7 => .int
  | 8 => .int
  | _ => .int
abbrev wsX100 : List Cond := u_ws RX10 TX10 10
theorem nmX10 : ∀ a, a < 10 → ∀ b, b < 10 → a ≠ b → (TX10 a).2.1 ≠ (TX10 b).2.1 := by decide +kernel
theorem tyX10_ok : ∀ k, k < 10 → parseFieldDescriptor (TX10 k).2.2.1 = some (tyX10 k) := by decide +kernel
abbrev cX10_init : ByteArray := prog_12_method_1_code
def yX10_init : MethodName := ⟨RX10, "<init>", "(LSpanValues$Grammar;LSpanValues$Chart;LSpanValues$Forest;)V"⟩
abbrev cX10_follow : ByteArray := prog_12_method_2_code
def yX10_follow : MethodName := ⟨RX10, "follow", "(I)V"⟩
abbrev cX10_pushTree : ByteArray := prog_12_method_3_code
def yX10_pushTree : MethodName := ⟨RX10, "pushTree", "(II)V"⟩
abbrev cX10_push : ByteArray := prog_12_method_4_code
def yX10_push : MethodName := ⟨RX10, "push", "(II)V"⟩
abbrev cX10_caseAt : ByteArray := prog_12_method_5_code
def yX10_caseAt : MethodName := ⟨RX10, "caseAt", "(I)I"⟩
abbrev cX10_ruleOf : ByteArray := prog_12_method_6_code
def yX10_ruleOf : MethodName := ⟨RX10, "ruleOf", "(I)I"⟩
abbrev cX10_middleOf : ByteArray := prog_12_method_7_code
def yX10_middleOf : MethodName := ⟨RX10, "middleOf", "(I)I"⟩
abbrev cX10_beginOf : ByteArray := prog_12_method_8_code
def yX10_beginOf : MethodName := ⟨RX10, "beginOf", "(I)I"⟩
abbrev cX10_finishOf : ByteArray := prog_12_method_9_code
def yX10_finishOf : MethodName := ⟨RX10, "finishOf", "(I)I"⟩
abbrev cX10_alikeWith : ByteArray := prog_12_method_10_code
def yX10_alikeWith : MethodName := ⟨RX10, "alikeWith", "(LSpanValues$Walk;)I"⟩
abbrev cX10_write : ByteArray := prog_12_method_11_code
def yX10_write : MethodName := ⟨RX10, "write", "(I[I)I"⟩
abbrev cX10_open : ByteArray := prog_12_method_12_code
def yX10_open : MethodName := ⟨RX10, "open", "([II)V"⟩
abbrev cX10_pushPart : ByteArray := prog_12_method_13_code
def yX10_pushPart : MethodName := ⟨RX10, "pushPart", "(II)V"⟩
abbrev cX10_put : ByteArray := prog_12_method_14_code
def yX10_put : MethodName := ⟨RX10, "put", "([II)V"⟩
def RX11 : String := "SpanValues"
def TX11 : u_T := fun k => match k with
  | 0 => ("SpanValues", "tape", "[I", true)
  | 1 => ("SpanValues", "tapeLength", "I", false)
  | 2 => ("SpanValues", "out", "[I", true)
  | 3 => ("SpanValues", "outLength", "I", false)
  | 4 => ("SpanValues", "reader", "LSpanValues$Reader;", true)
  | 5 => ("SpanValues", "rules", "LSpanValues$Grammar;", true)
  | 6 => ("SpanValues", "chart", "LSpanValues$Chart;", true)
  | 7 => ("SpanValues", "costs", "LSpanValues$Costs;", true)
  | 8 => ("SpanValues", "facts", "LSpanValues$Facts;", true)
  | 9 => ("SpanValues", "sums", "LSpanValues$Sums;", true)
  | 10 => ("SpanValues", "values", "LSpanValues$Values;", true)
  | 11 => ("SpanValues", "forest", "LSpanValues$Forest;", true)
  | 12 => ("SpanValues", "walk", "LSpanValues$Walk;", true)
  | 13 => ("SpanValues", "otherWalk", "LSpanValues$Walk;", true)
  | 14 => ("SpanValues", "tally", "LSpanValues$Tally;", true)
  | _ => ("SpanValues", "mender", "LSpanValues$Mender;", true)
def tyX11 : Nat → FieldType := fun k => match k with
  | 0 => .array .int
  | 1 => .int
  | 2 => .array .int
  | 3 => .int
  | 4 => .object "SpanValues$Reader"
  | 5 => .object "SpanValues$Grammar"
  | 6 => .object "SpanValues$Chart"
  | 7 => .object "SpanValues$Costs"
  | 8 => .object "SpanValues$Facts"
  | 9 => .object "SpanValues$Sums"
  | 10 => .object "SpanValues$Values"
  | 11 => .object "SpanValues$Forest"
  | 12 => .object "SpanValues$Walk"
  | 13 => .object "SpanValues$Walk"
  | 14 => .object "SpanValues$Tally"
  | _ => .object "SpanValues$Mender"
abbrev wsX110 : List Cond := u_ws RX11 TX11 16
theorem nmX11 : ∀ a, a < 16 → ∀ b, b < 16 → a ≠ b → (TX11 a).2.1 ≠ (TX11 b).2.1 := by decide +kernel
theorem tyX11_ok : ∀ k, k < 16 → parseFieldDescriptor (TX11 k).2.2.1 = some (tyX11 k) := by decide +kernel
abbrev cX11_init : ByteArray := prog_1_method_1_code
def yX11_init : MethodName := ⟨RX11, "<init>", "()V"⟩
abbrev cX11_feed : ByteArray := prog_1_method_2_code
def yX11_feed : MethodName := ⟨RX11, "feed", "(IIIII)I"⟩
abbrev cX11_putFour : ByteArray := prog_1_method_3_code
def yX11_putFour : MethodName := ⟨RX11, "putFour", "(I)V"⟩
abbrev cX11_end : ByteArray := prog_1_method_4_code
def yX11_end : MethodName := ⟨RX11, "end", "(I)I"⟩
abbrev cX11_grammar : ByteArray := prog_1_method_5_code
def yX11_grammar : MethodName := ⟨RX11, "grammar", "()I"⟩
abbrev cX11_fault : ByteArray := prog_1_method_6_code
def yX11_fault : MethodName := ⟨RX11, "fault", "(I)I"⟩
abbrev cX11_say : ByteArray := prog_1_method_7_code
def yX11_say : MethodName := ⟨RX11, "say", "()I"⟩
abbrev cX11_lettersAlone : ByteArray := prog_1_method_8_code
def yX11_lettersAlone : MethodName := ⟨RX11, "lettersAlone", "(I)Z"⟩
abbrev cX11_count : ByteArray := prog_1_method_9_code
def yX11_count : MethodName := ⟨RX11, "count", "(I)I"⟩
abbrev cX11_rule : ByteArray := prog_1_method_10_code
def yX11_rule : MethodName := ⟨RX11, "rule", "(II)I"⟩
abbrev cX11_table : ByteArray := prog_1_method_11_code
def yX11_table : MethodName := ⟨RX11, "table", "(III)I"⟩
abbrev cX11_drops : ByteArray := prog_1_method_12_code
def yX11_drops : MethodName := ⟨RX11, "drops", "(II)I"⟩
abbrev cX11_prices : ByteArray := prog_1_method_13_code
def yX11_prices : MethodName := ⟨RX11, "prices", "(II)I"⟩
abbrev cX11_elements : ByteArray := prog_1_method_14_code
def yX11_elements : MethodName := ⟨RX11, "elements", "(II)I"⟩
abbrev cX11_forgetCases : ByteArray := prog_1_method_15_code
def yX11_forgetCases : MethodName := ⟨RX11, "forgetCases", "()V"⟩
abbrev cX11_forgetCosts : ByteArray := prog_1_method_16_code
def yX11_forgetCosts : MethodName := ⟨RX11, "forgetCosts", "()V"⟩
abbrev cX11_itemOf : ByteArray := prog_1_method_17_code
def yX11_itemOf : MethodName := ⟨RX11, "itemOf", "(III)I"⟩
abbrev cX11_can : ByteArray := prog_1_method_18_code
def yX11_can : MethodName := ⟨RX11, "can", "(III)I"⟩
abbrev cX11_least : ByteArray := prog_1_method_19_code
def yX11_least : MethodName := ⟨RX11, "least", "(III)I"⟩
abbrev cX11_ways : ByteArray := prog_1_method_20_code
def yX11_ways : MethodName := ⟨RX11, "ways", "(III)J"⟩
abbrev cX11_tellNumber : ByteArray := prog_1_method_21_code
def yX11_tellNumber : MethodName := ⟨RX11, "tellNumber", "(J)J"⟩
abbrev cX11_dearest : ByteArray := prog_1_method_22_code
def yX11_dearest : MethodName := ⟨RX11, "dearest", "(III)I"⟩
abbrev cX11_used : ByteArray := prog_1_method_23_code
def yX11_used : MethodName := ⟨RX11, "used", "(IIII)J"⟩
abbrev cX11_sum : ByteArray := prog_1_method_24_code
def yX11_sum : MethodName := ⟨RX11, "sum", "(III)I"⟩
abbrev cX11_value : ByteArray := prog_1_method_25_code
def yX11_value : MethodName := ⟨RX11, "value", "(III)I"⟩
abbrev cX11_rounds : ByteArray := prog_1_method_26_code
def yX11_rounds : MethodName := ⟨RX11, "rounds", "()I"⟩
abbrev cX11_laws : ByteArray := prog_1_method_27_code
def yX11_laws : MethodName := ⟨RX11, "laws", "()I"⟩
abbrev cX11_cases : ByteArray := prog_1_method_28_code
def yX11_cases : MethodName := ⟨RX11, "cases", "(IIII)I"⟩
abbrev cX11_settled : ByteArray := prog_1_method_29_code
def yX11_settled : MethodName := ⟨RX11, "settled", "(II)I"⟩
abbrev cX11_isPlace : ByteArray := prog_1_method_30_code
def yX11_isPlace : MethodName := ⟨RX11, "isPlace", "(I)Z"⟩
abbrev cX11_best : ByteArray := prog_1_method_31_code
def yX11_best : MethodName := ⟨RX11, "best", "(IIII)I"⟩
abbrev cX11_size : ByteArray := prog_1_method_32_code
def yX11_size : MethodName := ⟨RX11, "size", "(IIIII)I"⟩
abbrev cX11_step : ByteArray := prog_1_method_33_code
def yX11_step : MethodName := ⟨RX11, "step", "(IIIII)I"⟩
abbrev cX11_bounds : ByteArray := prog_1_method_34_code
def yX11_bounds : MethodName := ⟨RX11, "bounds", "(III)I"⟩
abbrev cX11_tell : ByteArray := prog_1_method_35_code
def yX11_tell : MethodName := ⟨RX11, "tell", "(IIII)I"⟩
abbrev cX11_octet : ByteArray := prog_1_method_36_code
def yX11_octet : MethodName := ⟨RX11, "octet", "(I)I"⟩
abbrev cX11_cheap : ByteArray := prog_1_method_37_code
def yX11_cheap : MethodName := ⟨RX11, "cheap", "(IIII)J"⟩
abbrev cX11_alike : ByteArray := prog_1_method_38_code
def yX11_alike : MethodName := ⟨RX11, "alike", "(IIIII)I"⟩
abbrev cX11_wholeItem : ByteArray := prog_1_method_39_code
def yX11_wholeItem : MethodName := ⟨RX11, "wholeItem", "()I"⟩
abbrev cX11_without : ByteArray := prog_1_method_40_code
def yX11_without : MethodName := ⟨RX11, "without", "(I)I"⟩
abbrev cX11_heads : ByteArray := prog_1_method_41_code
def yX11_heads : MethodName := ⟨RX11, "heads", "()I"⟩
abbrev cX11_mends : ByteArray := prog_1_method_42_code
def yX11_mends : MethodName := ⟨RX11, "mends", "()I"⟩
abbrev cX11_mend : ByteArray := prog_1_method_43_code
def yX11_mend : MethodName := ⟨RX11, "mend", "(I)I"⟩
abbrev cX11_rings : ByteArray := prog_1_method_44_code
def yX11_rings : MethodName := ⟨RX11, "rings", "()I"⟩
abbrev cX11_alive : ByteArray := prog_1_method_45_code
def yX11_alive : MethodName := ⟨RX11, "alive", "()J"⟩
def RX12 : String := "SpanValuesModel"
def TX12 : u_T := fun k => match k with
  | 0 => ("SpanValuesModel", "thrown", "I", false)
  | 1 => ("SpanValuesModel", "rules", "I", false)
  | 2 => ("SpanValuesModel", "out", "J", false)
  | 3 => ("SpanValuesModel", "head", "[I", true)
  | 4 => ("SpanValuesModel", "one", "[I", true)
  | 5 => ("SpanValuesModel", "two", "[I", true)
  | 6 => ("SpanValuesModel", "cost", "[I", true)
  | 7 => ("SpanValuesModel", "element", "[I", true)
  | 8 => ("SpanValuesModel", "size", "[I", true)
  | 9 => ("SpanValuesModel", "zero", "[I", true)
  | 10 => ("SpanValuesModel", "unit", "[I", true)
  | 11 => ("SpanValuesModel", "plus", "[I", true)
  | 12 => ("SpanValuesModel", "times", "[I", true)
  | 13 => ("SpanValuesModel", "readRules", "I", false)
  | 14 => ("SpanValuesModel", "sentence", "[I", true)
  | 15 => ("SpanValuesModel", "letters", "I", false)
  | 16 => ("SpanValuesModel", "tape", "[B", true)
  | 17 => ("SpanValuesModel", "taped", "I", false)
  | 18 => ("SpanValuesModel", "five", "[I", true)
  | 19 => ("SpanValuesModel", "length", "I", false)
  | 20 => ("SpanValuesModel", "at", "I", false)
  | 21 => ("SpanValuesModel", "from", "I", false)
  | 22 => ("SpanValuesModel", "token", "I", false)
  | 23 => ("SpanValuesModel", "value", "I", false)
  | 24 => ("SpanValuesModel", "faultKind", "I", false)
  | 25 => ("SpanValuesModel", "faultPlace", "I", false)
  | 26 => ("SpanValuesModel", "word", "[I", true)
  | 27 => ("SpanValuesModel", "words", "I", false)
  | 28 => ("SpanValuesModel", "outNow", "J", false)
  | 29 => ("SpanValuesModel", "leastOf", "[I", true)
  | 30 => ("SpanValuesModel", "isEndless", "[Z", true)
  | 31 => ("SpanValuesModel", "isCounted", "[Z", true)
  | 32 => ("SpanValuesModel", "waysOf", "[J", true)
  | 33 => ("SpanValuesModel", "next", "[I", true)
  | 34 => ("SpanValuesModel", "dearOf", "[I", true)
  | 35 => ("SpanValuesModel", "isMet", "[Z", true)
  | 36 => ("SpanValuesModel", "metRules", "J", false)
  | 37 => ("SpanValuesModel", "sumOf", "[J", true)
  | 38 => ("SpanValuesModel", "doesFail", "[Z", true)
  | 39 => ("SpanValuesModel", "matrix", "[J", true)
  | 40 => ("SpanValuesModel", "unknown", "[I", true)
  | 41 => ("SpanValuesModel", "unknowns", "I", false)
  | 42 => ("SpanValuesModel", "valueOf", "[I", true)
  | 43 => ("SpanValuesModel", "valueThen", "[I", true)
  | 44 => ("SpanValuesModel", "turns", "I", false)
  | 45 => ("SpanValuesModel", "nodeRule", "[I", true)
  | 46 => ("SpanValuesModel", "nodeI", "[I", true)
  | 47 => ("SpanValuesModel", "nodeM", "[I", true)
  | 48 => ("SpanValuesModel", "nodeJ", "[I", true)
  | 49 => ("SpanValuesModel", "nodeLeft", "[I", true)
  | 50 => ("SpanValuesModel", "nodeRight", "[I", true)
  | 51 => ("SpanValuesModel", "nodeCost", "[I", true)
  | 52 => ("SpanValuesModel", "nodeSteps", "[I", true)
  | 53 => ("SpanValuesModel", "nodeDeep", "[I", true)
  | 54 => ("SpanValuesModel", "nodes", "I", false)
  | 55 => ("SpanValuesModel", "spare", "I", false)
  | 56 => ("SpanValuesModel", "list", "[I", true)
  | 57 => ("SpanValuesModel", "listMany", "[I", true)
  | 58 => ("SpanValuesModel", "pending", "[I", true)
  | 59 => ("SpanValuesModel", "pendingMany", "I", false)
  | 60 => ("SpanValuesModel", "told", "[B", true)
  | 61 => ("SpanValuesModel", "toldMany", "I", false)
  | 62 => ("SpanValuesModel", "cheapOf", "[J", true)
  | 63 => ("SpanValuesModel", "mendPlace", "I", false)
  | 64 => ("SpanValuesModel", "mendLetter", "I", false)
  | _ => ("SpanValuesModel", "mendCost", "I", false)
def tyX12 : Nat → FieldType := fun k => match k with
  | 0 => .int
  | 1 => .int
  | 2 => .long
  | 3 => .array .int
  | 4 => .array .int
  | 5 => .array .int
  | 6 => .array .int
  | 7 => .array .int
  | 8 => .array .int
  | 9 => .array .int
  | 10 => .array .int
  | 11 => .array .int
  | 12 => .array .int
  | 13 => .int
  | 14 => .array .int
  | 15 => .int
  | 16 => .array .byte
  | 17 => .int
  | 18 => .array .int
  | 19 => .int
  | 20 => .int
  | 21 => .int
  | 22 => .int
  | 23 => .int
  | 24 => .int
  | 25 => .int
  | 26 => .array .int
  | 27 => .int
  | 28 => .long
  | 29 => .array .int
  | 30 => .array .boolean
  | 31 => .array .boolean
  | 32 => .array .long
  | 33 => .array .int
  | 34 => .array .int
  | 35 => .array .boolean
  | 36 => .long
  | 37 => .array .long
  | 38 => .array .boolean
  | 39 => .array .long
  | 40 => .array .int
  | 41 => .int
  | 42 => .array .int
  | 43 => .array .int
  | 44 => .int
  | 45 => .array .int
  | 46 => .array .int
  | 47 => .array .int
  | 48 => .array .int
  | 49 => .array .int
  | 50 => .array .int
  | 51 => .array .int
  | 52 => .array .int
  | 53 => .array .int
  | 54 => .int
  | 55 => .int
  | 56 => .array .int
  | 57 => .array .int
  | 58 => .array .int
  | 59 => .int
  | 60 => .array .byte
  | 61 => .int
  | 62 => .array .long
  | 63 => .int
  | 64 => .int
  | _ => .int
abbrev wsX120 : List Cond := u_ws RX12 TX12 66
theorem nmX12 : ∀ a, a < 66 → ∀ b, b < 66 → a ≠ b → (TX12 a).2.1 ≠ (TX12 b).2.1 := by decide +kernel
theorem tyX12_ok : ∀ k, k < 66 → parseFieldDescriptor (TX12 k).2.2.1 = some (tyX12 k) := by decide +kernel
abbrev cX12_in : ByteArray := prog_14_method_2_code
def yX12_in : MethodName := ⟨RX12, "in", "(JJJ)Z"⟩
abbrev cX12_init : ByteArray := prog_14_method_3_code
def yX12_init : MethodName := ⟨RX12, "<init>", "()V"⟩
abbrev cX12_feed : ByteArray := prog_14_method_4_code
def yX12_feed : MethodName := ⟨RX12, "feed", "(IIIII)I"⟩
abbrev cX12_end : ByteArray := prog_14_method_5_code
def yX12_end : MethodName := ⟨RX12, "end", "(I)I"⟩
abbrev cX12_see : ByteArray := prog_14_method_6_code
def yX12_see : MethodName := ⟨RX12, "see", "(I)I"⟩
abbrev cX12_advance : ByteArray := prog_14_method_7_code
def yX12_advance : MethodName := ⟨RX12, "advance", "()V"⟩
abbrev cX12_good : ByteArray := prog_14_method_8_code
def yX12_good : MethodName := ⟨RX12, "good", "()Z"⟩
abbrev cX12_errs : ByteArray := prog_14_method_9_code
def yX12_errs : MethodName := ⟨RX12, "errs", "(I)V"⟩
abbrev cX12_is : ByteArray := prog_14_method_10_code
def yX12_is : MethodName := ⟨RX12, "is", "(Ljava/lang/String;)Z"⟩
abbrev cX12_takesWord : ByteArray := prog_14_method_11_code
def yX12_takesWord : MethodName := ⟨RX12, "takesWord", "(Ljava/lang/String;)V"⟩
abbrev cX12_takesSign : ByteArray := prog_14_method_12_code
def yX12_takesSign : MethodName := ⟨RX12, "takesSign", "(I)V"⟩
abbrev cX12_takes : ByteArray := prog_14_method_13_code
def yX12_takes : MethodName := ⟨RX12, "takes", "(II)I"⟩
abbrev cX12_readTable : ByteArray := prog_14_method_14_code
def yX12_readTable : MethodName := ⟨RX12, "readTable", "()V"⟩
abbrev cX12_isPart : ByteArray := prog_14_method_15_code
def yX12_isPart : MethodName := ⟨RX12, "isPart", "()Z"⟩
abbrev cX12_readPart : ByteArray := prog_14_method_16_code
def yX12_readPart : MethodName := ⟨RX12, "readPart", "()I"⟩
abbrev cX12_readRule : ByteArray := prog_14_method_17_code
def yX12_readRule : MethodName := ⟨RX12, "readRule", "()V"⟩
abbrev cX12_grammar : ByteArray := prog_14_method_18_code
def yX12_grammar : MethodName := ⟨RX12, "grammar", "()I"⟩
abbrev cX12_fault : ByteArray := prog_14_method_19_code
def yX12_fault : MethodName := ⟨RX12, "fault", "(I)I"⟩
abbrev cX12_say : ByteArray := prog_14_method_20_code
def yX12_say : MethodName := ⟨RX12, "say", "()I"⟩
abbrev cX12_start : ByteArray := prog_14_method_21_code
def yX12_start : MethodName := ⟨RX12, "start", "()I"⟩
abbrev cX12_rule : ByteArray := prog_14_method_22_code
def yX12_rule : MethodName := ⟨RX12, "rule", "(II)I"⟩
abbrev cX12_isRule : ByteArray := prog_14_method_23_code
def yX12_isRule : MethodName := ⟨RX12, "isRule", "(I)Z"⟩
abbrev cX12_isElement : ByteArray := prog_14_method_24_code
def yX12_isElement : MethodName := ⟨RX12, "isElement", "(I)Z"⟩
abbrev cX12_sum2 : ByteArray := prog_14_method_25_code
def yX12_sum2 : MethodName := ⟨RX12, "sum2", "(II)I"⟩
abbrev cX12_product2 : ByteArray := prog_14_method_26_code
def yX12_product2 : MethodName := ⟨RX12, "product2", "(II)I"⟩
abbrev cX12_table : ByteArray := prog_14_method_27_code
def yX12_table : MethodName := ⟨RX12, "table", "(III)I"⟩
abbrev cX12_drops : ByteArray := prog_14_method_28_code
def yX12_drops : MethodName := ⟨RX12, "drops", "(II)I"⟩
abbrev cX12_prices : ByteArray := prog_14_method_29_code
def yX12_prices : MethodName := ⟨RX12, "prices", "(II)I"⟩
abbrev cX12_elements : ByteArray := prog_14_method_30_code
def yX12_elements : MethodName := ⟨RX12, "elements", "(II)I"⟩
abbrev cX12_item : ByteArray := prog_14_method_31_code
def yX12_item : MethodName := ⟨RX12, "item", "(III)I"⟩
abbrev cX12_isIn : ByteArray := prog_14_method_32_code
def yX12_isIn : MethodName := ⟨RX12, "isIn", "(I)Z"⟩
abbrev cX12_fits : ByteArray := prog_14_method_33_code
def yX12_fits : MethodName := ⟨RX12, "fits", "(III)Z"⟩
abbrev cX12_leastPart : ByteArray := prog_14_method_34_code
def yX12_leastPart : MethodName := ⟨RX12, "leastPart", "(III)I"⟩
abbrev cX12_lowers : ByteArray := prog_14_method_35_code
def yX12_lowers : MethodName := ⟨RX12, "lowers", "(IIII)Z"⟩
abbrev cX12_laysTwos : ByteArray := prog_14_method_36_code
def yX12_laysTwos : MethodName := ⟨RX12, "laysTwos", "(III)V"⟩
abbrev cX12_laysSpan : ByteArray := prog_14_method_37_code
def yX12_laysSpan : MethodName := ⟨RX12, "laysSpan", "(II)V"⟩
abbrev cX12_laysLeast : ByteArray := prog_14_method_38_code
def yX12_laysLeast : MethodName := ⟨RX12, "laysLeast", "(J)V"⟩
abbrev cX12_looks : ByteArray := prog_14_method_39_code
def yX12_looks : MethodName := ⟨RX12, "looks", "()V"⟩
abbrev cX12_isItem : ByteArray := prog_14_method_40_code
def yX12_isItem : MethodName := ⟨RX12, "isItem", "(III)Z"⟩
abbrev cX12_has : ByteArray := prog_14_method_41_code
def yX12_has : MethodName := ⟨RX12, "has", "(III)Z"⟩
abbrev cX12_can : ByteArray := prog_14_method_42_code
def yX12_can : MethodName := ⟨RX12, "can", "(III)I"⟩
abbrev cX12_least : ByteArray := prog_14_method_43_code
def yX12_least : MethodName := ⟨RX12, "least", "(III)I"⟩
abbrev cX12_plusGreat : ByteArray := prog_14_method_44_code
def yX12_plusGreat : MethodName := ⟨RX12, "plusGreat", "(JJ)J"⟩
abbrev cX12_timesGreat : ByteArray := prog_14_method_45_code
def yX12_timesGreat : MethodName := ⟨RX12, "timesGreat", "(JJ)J"⟩
abbrev cX12_isSingle : ByteArray := prog_14_method_46_code
def yX12_isSingle : MethodName := ⟨RX12, "isSingle", "(I)Z"⟩
abbrev cX12_ringsAt : ByteArray := prog_14_method_47_code
def yX12_ringsAt : MethodName := ⟨RX12, "ringsAt", "(II)I"⟩
abbrev cX12_isEndlessPart : ByteArray := prog_14_method_48_code
def yX12_isEndlessPart : MethodName := ⟨RX12, "isEndlessPart", "(III)Z"⟩
abbrev cX12_goesOn : ByteArray := prog_14_method_49_code
def yX12_goesOn : MethodName := ⟨RX12, "goesOn", "(III)Z"⟩
abbrev cX12_laysEndless : ByteArray := prog_14_method_50_code
def yX12_laysEndless : MethodName := ⟨RX12, "laysEndless", "()V"⟩
abbrev cX12_laysEndlessSpan : ByteArray := prog_14_method_51_code
def yX12_laysEndlessSpan : MethodName := ⟨RX12, "laysEndlessSpan", "(II)V"⟩
abbrev cX12_waysPart : ByteArray := prog_14_method_52_code
def yX12_waysPart : MethodName := ⟨RX12, "waysPart", "(III)J"⟩
abbrev cX12_waysItem : ByteArray := prog_14_method_53_code
def yX12_waysItem : MethodName := ⟨RX12, "waysItem", "(III)J"⟩
abbrev cX12_ways : ByteArray := prog_14_method_54_code
def yX12_ways : MethodName := ⟨RX12, "ways", "(III)J"⟩
abbrev cX12_dearPart : ByteArray := prog_14_method_55_code
def yX12_dearPart : MethodName := ⟨RX12, "dearPart", "(III)I"⟩
abbrev cX12_lowersDear : ByteArray := prog_14_method_56_code
def yX12_lowersDear : MethodName := ⟨RX12, "lowersDear", "(III)Z"⟩
abbrev cX12_laysDear : ByteArray := prog_14_method_57_code
def yX12_laysDear : MethodName := ⟨RX12, "laysDear", "(II)V"⟩
abbrev cX12_dearest : ByteArray := prog_14_method_58_code
def yX12_dearest : MethodName := ⟨RX12, "dearest", "(III)I"⟩
abbrev cX12_meetsPart : ByteArray := prog_14_method_59_code
def yX12_meetsPart : MethodName := ⟨RX12, "meetsPart", "(III)V"⟩
abbrev cX12_meets : ByteArray := prog_14_method_60_code
def yX12_meets : MethodName := ⟨RX12, "meets", "(III)V"⟩
abbrev cX12_used : ByteArray := prog_14_method_61_code
def yX12_used : MethodName := ⟨RX12, "used", "(IIII)J"⟩
abbrev cX12_power : ByteArray := prog_14_method_62_code
def yX12_power : MethodName := ⟨RX12, "power", "(JI)J"⟩
abbrev cX12_span : ByteArray := prog_14_method_63_code
def yX12_span : MethodName := ⟨RX12, "span", "(II)I"⟩
abbrev cX12_sumPart : ByteArray := prog_14_method_64_code
def yX12_sumPart : MethodName := ⟨RX12, "sumPart", "(III)J"⟩
abbrev cX12_failsPart : ByteArray := prog_14_method_65_code
def yX12_failsPart : MethodName := ⟨RX12, "failsPart", "(III)Z"⟩
abbrev cX12_rowOf : ByteArray := prog_14_method_66_code
def yX12_rowOf : MethodName := ⟨RX12, "rowOf", "(I)I"⟩
abbrev cX12_brings : ByteArray := prog_14_method_67_code
def yX12_brings : MethodName := ⟨RX12, "brings", "(III)Z"⟩
abbrev cX12_clears : ByteArray := prog_14_method_68_code
def yX12_clears : MethodName := ⟨RX12, "clears", "(I)Z"⟩
abbrev cX12_laysSums : ByteArray := prog_14_method_69_code
def yX12_laysSums : MethodName := ⟨RX12, "laysSums", "(II)V"⟩
abbrev cX12_sum : ByteArray := prog_14_method_70_code
def yX12_sum : MethodName := ⟨RX12, "sum", "(III)I"⟩
abbrev cX12_isLetterAt : ByteArray := prog_14_method_71_code
def yX12_isLetterAt : MethodName := ⟨RX12, "isLetterAt", "(III)Z"⟩
abbrev cX12_valuePart : ByteArray := prog_14_method_72_code
def yX12_valuePart : MethodName := ⟨RX12, "valuePart", "(III)I"⟩
abbrev cX12_valueAnew : ByteArray := prog_14_method_73_code
def yX12_valueAnew : MethodName := ⟨RX12, "valueAnew", "(III)I"⟩
abbrev cX12_turnsOnce : ByteArray := prog_14_method_74_code
def yX12_turnsOnce : MethodName := ⟨RX12, "turnsOnce", "()Z"⟩
abbrev cX12_settles : ByteArray := prog_14_method_75_code
def yX12_settles : MethodName := ⟨RX12, "settles", "()Z"⟩
abbrev cX12_value : ByteArray := prog_14_method_76_code
def yX12_value : MethodName := ⟨RX12, "value", "(III)I"⟩
abbrev cX12_rounds : ByteArray := prog_14_method_77_code
def yX12_rounds : MethodName := ⟨RX12, "rounds", "()I"⟩
abbrev cX12_keepsThree : ByteArray := prog_14_method_78_code
def yX12_keepsThree : MethodName := ⟨RX12, "keepsThree", "(IIII)Z"⟩
abbrev cX12_keeps : ByteArray := prog_14_method_79_code
def yX12_keeps : MethodName := ⟨RX12, "keeps", "(III)Z"⟩
abbrev cX12_holds : ByteArray := prog_14_method_80_code
def yX12_holds : MethodName := ⟨RX12, "holds", "(II)Z"⟩
abbrev cX12_laws : ByteArray := prog_14_method_81_code
def yX12_laws : MethodName := ⟨RX12, "laws", "()I"⟩
abbrev cX12_isAt : ByteArray := prog_14_method_82_code
def yX12_isAt : MethodName := ⟨RX12, "isAt", "(IIIIII)Z"⟩
abbrev cX12_casesWith : ByteArray := prog_14_method_83_code
def yX12_casesWith : MethodName := ⟨RX12, "casesWith", "(III)I"⟩
abbrev cX12_casesOf : ByteArray := prog_14_method_84_code
def yX12_casesOf : MethodName := ⟨RX12, "casesOf", "(IIIZ)I"⟩
abbrev cX12_cases : ByteArray := prog_14_method_85_code
def yX12_cases : MethodName := ⟨RX12, "cases", "(IIII)I"⟩
abbrev cX12_itemsMany : ByteArray := prog_14_method_86_code
def yX12_itemsMany : MethodName := ⟨RX12, "itemsMany", "()I"⟩
abbrev cX12_order : ByteArray := prog_14_method_87_code
def yX12_order : MethodName := ⟨RX12, "order", "(IIII)J"⟩
abbrev cX12_settled : ByteArray := prog_14_method_88_code
def yX12_settled : MethodName := ⟨RX12, "settled", "(II)I"⟩
abbrev cX12_costNode : ByteArray := prog_14_method_89_code
def yX12_costNode : MethodName := ⟨RX12, "costNode", "(I)I"⟩
abbrev cX12_stepsNode : ByteArray := prog_14_method_90_code
def yX12_stepsNode : MethodName := ⟨RX12, "stepsNode", "(I)I"⟩
abbrev cX12_deepNode : ByteArray := prog_14_method_91_code
def yX12_deepNode : MethodName := ⟨RX12, "deepNode", "(I)I"⟩
abbrev cX12_writes : ByteArray := prog_14_method_92_code
def yX12_writes : MethodName := ⟨RX12, "writes", "(IIIIII)I"⟩
abbrev cX12_takesNode : ByteArray := prog_14_method_93_code
def yX12_takesNode : MethodName := ⟨RX12, "takesNode", "()V"⟩
abbrev cX12_formOf : ByteArray := prog_14_method_94_code
def yX12_formOf : MethodName := ⟨RX12, "formOf", "(II)I"⟩
abbrev cX12_isAhead : ByteArray := prog_14_method_95_code
def yX12_isAhead : MethodName := ⟨RX12, "isAhead", "(II)Z"⟩
abbrev cX12_comes : ByteArray := prog_14_method_96_code
def yX12_comes : MethodName := ⟨RX12, "comes", "(I)V"⟩
abbrev cX12_manyOf : ByteArray := prog_14_method_97_code
def yX12_manyOf : MethodName := ⟨RX12, "manyOf", "(III)I"⟩
abbrev cX12_nodeOf : ByteArray := prog_14_method_98_code
def yX12_nodeOf : MethodName := ⟨RX12, "nodeOf", "(IIII)I"⟩
abbrev cX12_laysTwoBest : ByteArray := prog_14_method_99_code
def yX12_laysTwoBest : MethodName := ⟨RX12, "laysTwoBest", "(III)V"⟩
abbrev cX12_waits : ByteArray := prog_14_method_100_code
def yX12_waits : MethodName := ⟨RX12, "waits", "(I)V"⟩
abbrev cX12_firstPending : ByteArray := prog_14_method_101_code
def yX12_firstPending : MethodName := ⟨RX12, "firstPending", "()I"⟩
abbrev cX12_laysBestSpan : ByteArray := prog_14_method_102_code
def yX12_laysBestSpan : MethodName := ⟨RX12, "laysBestSpan", "(II)V"⟩
abbrev cX12_laysBest : ByteArray := prog_14_method_103_code
def yX12_laysBest : MethodName := ⟨RX12, "laysBest", "()V"⟩
abbrev cX12_isPlace : ByteArray := prog_14_method_104_code
def yX12_isPlace : MethodName := ⟨RX12, "isPlace", "(I)Z"⟩
abbrev cX12_treeOf : ByteArray := prog_14_method_105_code
def yX12_treeOf : MethodName := ⟨RX12, "treeOf", "(IIII)I"⟩
abbrev cX12_best : ByteArray := prog_14_method_106_code
def yX12_best : MethodName := ⟨RX12, "best", "(IIII)I"⟩
abbrev cX12_size : ByteArray := prog_14_method_107_code
def yX12_size : MethodName := ⟨RX12, "size", "(IIIII)I"⟩
abbrev cX12_stepOf : ByteArray := prog_14_method_108_code
def yX12_stepOf : MethodName := ⟨RX12, "stepOf", "(II)I"⟩
abbrev cX12_step : ByteArray := prog_14_method_109_code
def yX12_step : MethodName := ⟨RX12, "step", "(IIIII)I"⟩
abbrev cX12_bounds : ByteArray := prog_14_method_110_code
def yX12_bounds : MethodName := ⟨RX12, "bounds", "(III)I"⟩
abbrev cX12_alike : ByteArray := prog_14_method_111_code
def yX12_alike : MethodName := ⟨RX12, "alike", "(IIIII)I"⟩
abbrev cX12_areAlike : ByteArray := prog_14_method_112_code
def yX12_areAlike : MethodName := ⟨RX12, "areAlike", "(II)Z"⟩
abbrev cX12_puts : ByteArray := prog_14_method_113_code
def yX12_puts : MethodName := ⟨RX12, "puts", "(I)V"⟩
abbrev cX12_tellsPart : ByteArray := prog_14_method_114_code
def yX12_tellsPart : MethodName := ⟨RX12, "tellsPart", "(II)V"⟩
abbrev cX12_tells : ByteArray := prog_14_method_115_code
def yX12_tells : MethodName := ⟨RX12, "tells", "(I)V"⟩
abbrev cX12_tell : ByteArray := prog_14_method_116_code
def yX12_tell : MethodName := ⟨RX12, "tell", "(IIII)I"⟩
abbrev cX12_octet : ByteArray := prog_14_method_117_code
def yX12_octet : MethodName := ⟨RX12, "octet", "(I)I"⟩
abbrev cX12_cheapPart : ByteArray := prog_14_method_118_code
def yX12_cheapPart : MethodName := ⟨RX12, "cheapPart", "(IIII)J"⟩
abbrev cX12_cheapTwos : ByteArray := prog_14_method_119_code
def yX12_cheapTwos : MethodName := ⟨RX12, "cheapTwos", "(IIII)J"⟩
abbrev cX12_laysCheap : ByteArray := prog_14_method_120_code
def yX12_laysCheap : MethodName := ⟨RX12, "laysCheap", "(III)V"⟩
abbrev cX12_cheap : ByteArray := prog_14_method_121_code
def yX12_cheap : MethodName := ⟨RX12, "cheap", "(IIII)J"⟩
abbrev cX12_leastOfAll : ByteArray := prog_14_method_122_code
def yX12_leastOfAll : MethodName := ⟨RX12, "leastOfAll", "()I"⟩
abbrev cX12_without : ByteArray := prog_14_method_123_code
def yX12_without : MethodName := ⟨RX12, "without", "(I)I"⟩
abbrev cX12_heads : ByteArray := prog_14_method_124_code
def yX12_heads : MethodName := ⟨RX12, "heads", "()I"⟩
abbrev cX12_laysMends : ByteArray := prog_14_method_125_code
def yX12_laysMends : MethodName := ⟨RX12, "laysMends", "()I"⟩
abbrev cX12_mends : ByteArray := prog_14_method_126_code
def yX12_mends : MethodName := ⟨RX12, "mends", "()I"⟩
abbrev cX12_mend : ByteArray := prog_14_method_127_code
def yX12_mend : MethodName := ⟨RX12, "mend", "(I)I"⟩
abbrev cX12_rings : ByteArray := prog_14_method_128_code
def yX12_rings : MethodName := ⟨RX12, "rings", "()I"⟩
abbrev cX12_isOf : ByteArray := prog_14_method_129_code
def yX12_isOf : MethodName := ⟨RX12, "isOf", "(II)Z"⟩
abbrev cX12_alive : ByteArray := prog_14_method_130_code
def yX12_alive : MethodName := ⟨RX12, "alive", "()J"⟩
abbrev cX12_count : ByteArray := prog_14_method_131_code
def yX12_count : MethodName := ⟨RX12, "count", "(I)I"⟩
def RJx145de : String := "java/io/Serializable"
def TJx145de : u_T := fun k => match k with
  | _ => ("", "", "", false)
def tyJx145de : Nat → FieldType := fun k => match k with
  | _ => .int
abbrev wsJx145de0 : List Cond := u_ws RJx145de TJx145de 0
theorem nmJx145de : ∀ a, a < 0 → ∀ b, b < 0 → a ≠ b → (TJx145de a).2.1 ≠ (TJx145de b).2.1 := by decide +kernel
theorem tyJx145de_ok : ∀ k, k < 0 → parseFieldDescriptor (TJx145de k).2.2.1 = some (tyJx145de k) := by decide +kernel
def RJx9f9b0 : String := "java/lang/CharSequence"
def TJx9f9b0 : u_T := fun k => match k with
  | _ => ("", "", "", false)
def tyJx9f9b0 : Nat → FieldType := fun k => match k with
  | _ => .int
abbrev wsJx9f9b00 : List Cond := u_ws RJx9f9b0 TJx9f9b0 0
theorem nmJx9f9b0 : ∀ a, a < 0 → ∀ b, b < 0 → a ≠ b → (TJx9f9b0 a).2.1 ≠ (TJx9f9b0 b).2.1 := by decide +kernel
theorem tyJx9f9b0_ok : ∀ k, k < 0 → parseFieldDescriptor (TJx9f9b0 k).2.2.1 = some (tyJx9f9b0 k) := by decide +kernel
def RJxb160c : String := "java/lang/Comparable"
def TJxb160c : u_T := fun k => match k with
  | _ => ("", "", "", false)
def tyJxb160c : Nat → FieldType := fun k => match k with
  | _ => .int
abbrev wsJxb160c0 : List Cond := u_ws RJxb160c TJxb160c 0
theorem nmJxb160c : ∀ a, a < 0 → ∀ b, b < 0 → a ≠ b → (TJxb160c a).2.1 ≠ (TJxb160c b).2.1 := by decide +kernel
theorem tyJxb160c_ok : ∀ k, k < 0 → parseFieldDescriptor (TJxb160c k).2.2.1 = some (tyJxb160c k) := by decide +kernel
def RJ13 : String := "java/lang/Long"
def TJ13 : u_T := fun k => match k with
  | _ => ("", "", "", false)
def tyJ13 : Nat → FieldType := fun k => match k with
  | _ => .int
abbrev wsJ130 : List Cond := u_ws RJ13 TJ13 0
theorem nmJ13 : ∀ a, a < 0 → ∀ b, b < 0 → a ≠ b → (TJ13 a).2.1 ≠ (TJ13 b).2.1 := by decide +kernel
theorem tyJ13_ok : ∀ k, k < 0 → parseFieldDescriptor (TJ13 k).2.2.1 = some (tyJ13 k) := by decide +kernel
abbrev cJ13_bitCount_95d88 : ByteArray := prog_15_method_50_code
def yJ13_bitCount_95d88 : MethodName := ⟨RJ13, "bitCount", "(J)I"⟩
def RJ9 : String := "java/lang/Math"
def TJ9 : u_T := fun k => match k with
  | _ => ("", "", "", false)
def tyJ9 : Nat → FieldType := fun k => match k with
  | _ => .int
abbrev wsJ90 : List Cond := u_ws RJ9 TJ9 0
theorem nmJ9 : ∀ a, a < 0 → ∀ b, b < 0 → a ≠ b → (TJ9 a).2.1 ≠ (TJ9 b).2.1 := by decide +kernel
theorem tyJ9_ok : ∀ k, k < 0 → parseFieldDescriptor (TJ9 k).2.2.1 = some (tyJ9 k) := by decide +kernel
abbrev cJ9_floorMod_7cf53 : ByteArray := prog_16_method_50_code
def yJ9_floorMod_7cf53 : MethodName := ⟨RJ9, "floorMod", "(II)I"⟩
abbrev cJ9_max_7cf53 : ByteArray := prog_16_method_65_code
def yJ9_max_7cf53 : MethodName := ⟨RJ9, "max", "(II)I"⟩
abbrev cJ9_min_7cf53 : ByteArray := prog_16_method_69_code
def yJ9_min_7cf53 : MethodName := ⟨RJ9, "min", "(II)I"⟩
abbrev cJ9_min_f86c9 : ByteArray := prog_16_method_70_code
def yJ9_min_f86c9 : MethodName := ⟨RJ9, "min", "(JJ)J"⟩
def RJ0 : String := "java/lang/String"
def TJ0 : u_T := fun k => match k with
  | _ => ("", "", "", false)
def tyJ0 : Nat → FieldType := fun k => match k with
  | _ => .int
abbrev wsJ00 : List Cond := u_ws RJ0 TJ0 0
theorem nmJ0 : ∀ a, a < 0 → ∀ b, b < 0 → a ≠ b → (TJ0 a).2.1 ≠ (TJ0 b).2.1 := by decide +kernel
theorem tyJ0_ok : ∀ k, k < 0 → parseFieldDescriptor (TJ0 k).2.2.1 = some (tyJ0 k) := by decide +kernel
abbrev cJ0_length_8abf5 : ByteArray := prog_17_method_54_code
def yJ0_length_8abf5 : MethodName := ⟨RJ0, "length", "()I"⟩
abbrev cJ0_charAt_5068e : ByteArray := prog_17_method_56_code
def yJ0_charAt_5068e : MethodName := ⟨RJ0, "charAt", "(I)C"⟩
abbrev cJ0_coder_7d493 : ByteArray := prog_17_method_152_code
def yJ0_coder_7d493 : MethodName := ⟨RJ0, "coder", "()B"⟩
abbrev cJ0_isLatin1_aae02 : ByteArray := prog_17_method_154_code
def yJ0_isLatin1_aae02 : MethodName := ⟨RJ0, "isLatin1", "()Z"⟩
abbrev cJ0_checkIndex_df160 : ByteArray := prog_17_method_155_code
def yJ0_checkIndex_df160 : MethodName := ⟨RJ0, "checkIndex", "(II)V"⟩
def RJ1 : String := "java/lang/StringLatin1"
def TJ1 : u_T := fun k => match k with
  | _ => ("", "", "", false)
def tyJ1 : Nat → FieldType := fun k => match k with
  | _ => .int
abbrev wsJ10 : List Cond := u_ws RJ1 TJ1 0
theorem nmJ1 : ∀ a, a < 0 → ∀ b, b < 0 → a ≠ b → (TJ1 a).2.1 ≠ (TJ1 b).2.1 := by decide +kernel
theorem tyJ1_ok : ∀ k, k < 0 → parseFieldDescriptor (TJ1 k).2.2.1 = some (tyJ1 k) := by decide +kernel
abbrev cJ1_charAt_3b067 : ByteArray := prog_18_method_2_code
def yJ1_charAt_3b067 : MethodName := ⟨RJ1, "charAt", "([BI)C"⟩
def RJ2 : String := "java/lang/StringUTF16"
def TJ2 : u_T := fun k => match k with
  | _ => ("", "", "", false)
def tyJ2 : Nat → FieldType := fun k => match k with
  | _ => .int
abbrev wsJ20 : List Cond := u_ws RJ2 TJ2 0
theorem nmJ2 : ∀ a, a < 0 → ∀ b, b < 0 → a ≠ b → (TJ2 a).2.1 ≠ (TJ2 b).2.1 := by decide +kernel
theorem tyJ2_ok : ∀ k, k < 0 → parseFieldDescriptor (TJ2 k).2.2.1 = some (tyJ2 k) := by decide +kernel
abbrev cJ2_getChar_3b067 : ByteArray := prog_19_method_5_code
def yJ2_getChar_3b067 : MethodName := ⟨RJ2, "getChar", "([BI)C"⟩
abbrev cJ2_length_9d52b : ByteArray := prog_19_method_6_code
def yJ2_length_9d52b : MethodName := ⟨RJ2, "length", "([B)I"⟩
abbrev cJ2_charAt_3b067 : ByteArray := prog_19_method_83_code
def yJ2_charAt_3b067 : MethodName := ⟨RJ2, "charAt", "([BI)C"⟩
abbrev cJ2_checkIndex_2214a : ByteArray := prog_19_method_91_code
def yJ2_checkIndex_2214a : MethodName := ⟨RJ2, "checkIndex", "(I[B)V"⟩
def RJ10 : String := "java/lang/System"
def TJ10 : u_T := fun k => match k with
  | _ => ("", "", "", false)
def tyJ10 : Nat → FieldType := fun k => match k with
  | _ => .int
abbrev wsJ100 : List Cond := u_ws RJ10 TJ10 0
theorem nmJ10 : ∀ a, a < 0 → ∀ b, b < 0 → a ≠ b → (TJ10 a).2.1 ≠ (TJ10 b).2.1 := by decide +kernel
theorem tyJ10_ok : ∀ k, k < 0 → parseFieldDescriptor (TJ10 k).2.2.1 = some (tyJ10 k) := by decide +kernel
def RJxfd54e : String := "java/lang/constant/Constable"
def TJxfd54e : u_T := fun k => match k with
  | _ => ("", "", "", false)
def tyJxfd54e : Nat → FieldType := fun k => match k with
  | _ => .int
abbrev wsJxfd54e0 : List Cond := u_ws RJxfd54e TJxfd54e 0
theorem nmJxfd54e : ∀ a, a < 0 → ∀ b, b < 0 → a ≠ b → (TJxfd54e a).2.1 ≠ (TJxfd54e b).2.1 := by decide +kernel
theorem tyJxfd54e_ok : ∀ k, k < 0 → parseFieldDescriptor (TJxfd54e k).2.2.1 = some (tyJxfd54e k) := by decide +kernel
def RJx3cf43 : String := "java/lang/constant/ConstantDesc"
def TJx3cf43 : u_T := fun k => match k with
  | _ => ("", "", "", false)
def tyJx3cf43 : Nat → FieldType := fun k => match k with
  | _ => .int
abbrev wsJx3cf430 : List Cond := u_ws RJx3cf43 TJx3cf43 0
theorem nmJx3cf43 : ∀ a, a < 0 → ∀ b, b < 0 → a ≠ b → (TJx3cf43 a).2.1 ≠ (TJx3cf43 b).2.1 := by decide +kernel
theorem tyJx3cf43_ok : ∀ k, k < 0 → parseFieldDescriptor (TJx3cf43 k).2.2.1 = some (tyJx3cf43 k) := by decide +kernel
def RJ7 : String := "java/util/Arrays"
def TJ7 : u_T := fun k => match k with
  | _ => ("", "", "", false)
def tyJ7 : Nat → FieldType := fun k => match k with
  | _ => .int
abbrev wsJ70 : List Cond := u_ws RJ7 TJ7 0
theorem nmJ7 : ∀ a, a < 0 → ∀ b, b < 0 → a ≠ b → (TJ7 a).2.1 ≠ (TJ7 b).2.1 := by decide +kernel
theorem tyJ7_ok : ∀ k, k < 0 → parseFieldDescriptor (TJ7 k).2.2.1 = some (tyJ7 k) := by decide +kernel
abbrev cJ7_fill_d0a16 : ByteArray := prog_21_method_101_code
def yJ7_fill_d0a16 : MethodName := ⟨RJ7, "fill", "([JJ)V"⟩
abbrev cJ7_fill_53178 : ByteArray := prog_21_method_103_code
def yJ7_fill_53178 : MethodName := ⟨RJ7, "fill", "([II)V"⟩
def RJ3 : String := "jdk/internal/util/Preconditions"
def TJ3 : u_T := fun k => match k with
  | _ => ("", "", "", false)
def tyJ3 : Nat → FieldType := fun k => match k with
  | _ => .int
abbrev wsJ30 : List Cond := u_ws RJ3 TJ3 0
theorem nmJ3 : ∀ a, a < 0 → ∀ b, b < 0 → a ≠ b → (TJ3 a).2.1 ≠ (TJ3 b).2.1 := by decide +kernel
theorem tyJ3_ok : ∀ k, k < 0 → parseFieldDescriptor (TJ3 k).2.2.1 = some (tyJ3 k) := by decide +kernel
abbrev cJ3_checkIndex_8e157 : ByteArray := prog_22_method_11_code
def yJ3_checkIndex_8e157 : MethodName := ⟨RJ3, "checkIndex", "(IILjava/util/function/BiFunction;)I"⟩
def RL : String := "SpanValuesLaw"
abbrev cL_law : ByteArray := code
def yL_law : MethodName := ⟨RL, "law", "([I)Z"⟩
theorem tb_1 {w : Cond} (h : w ∈ tables_1_1) : w ∈ lw_tbl := List.mem_append_right _ (show w ∈ tables_1 from List.mem_append_left _ h)
theorem tb_2 {w : Cond} (h : w ∈ tables_1_2) : w ∈ lw_tbl := List.mem_append_right _ (show w ∈ tables_1 from List.mem_append_right _ (List.mem_append_left _ h))
theorem tb_3 {w : Cond} (h : w ∈ tables_1_3) : w ∈ lw_tbl := List.mem_append_right _ (show w ∈ tables_1 from List.mem_append_right _ (List.mem_append_right _ (List.mem_append_left _ h)))
theorem tb_4 {w : Cond} (h : w ∈ tables_1_4) : w ∈ lw_tbl := List.mem_append_right _ (show w ∈ tables_1 from List.mem_append_right _ (List.mem_append_right _ (List.mem_append_right _ (List.mem_append_left _ h))))
theorem tb_5 {w : Cond} (h : w ∈ tables_1_5) : w ∈ lw_tbl := List.mem_append_right _ (show w ∈ tables_1 from List.mem_append_right _ (List.mem_append_right _ (List.mem_append_right _ (List.mem_append_right _ (List.mem_append_left _ h)))))
theorem tb_6 {w : Cond} (h : w ∈ tables_1_6) : w ∈ lw_tbl := List.mem_append_right _ (show w ∈ tables_1 from List.mem_append_right _ (List.mem_append_right _ (List.mem_append_right _ (List.mem_append_right _ (List.mem_append_right _ (List.mem_append_left _ h))))))
theorem tb_7 {w : Cond} (h : w ∈ tables_1_7) : w ∈ lw_tbl := List.mem_append_right _ (show w ∈ tables_1 from List.mem_append_right _ (List.mem_append_right _ (List.mem_append_right _ (List.mem_append_right _ (List.mem_append_right _ (List.mem_append_right _ (List.mem_append_left _ h)))))))
theorem tb_8 {w : Cond} (h : w ∈ tables_1_8) : w ∈ lw_tbl := List.mem_append_right _ (show w ∈ tables_1 from List.mem_append_right _ (List.mem_append_right _ (List.mem_append_right _ (List.mem_append_right _ (List.mem_append_right _ (List.mem_append_right _ (List.mem_append_right _ (List.mem_append_left _ h))))))))
theorem tb_9 {w : Cond} (h : w ∈ tables_1_9) : w ∈ lw_tbl := List.mem_append_right _ (show w ∈ tables_1 from List.mem_append_right _ (List.mem_append_right _ (List.mem_append_right _ (List.mem_append_right _ (List.mem_append_right _ (List.mem_append_right _ (List.mem_append_right _ (List.mem_append_right _ (List.mem_append_left _ h)))))))))
theorem tb_10 {w : Cond} (h : w ∈ tables_1_10) : w ∈ lw_tbl := List.mem_append_right _ (show w ∈ tables_1 from List.mem_append_right _ (List.mem_append_right _ (List.mem_append_right _ (List.mem_append_right _ (List.mem_append_right _ (List.mem_append_right _ (List.mem_append_right _ (List.mem_append_right _ (List.mem_append_right _ (h))))))))))
