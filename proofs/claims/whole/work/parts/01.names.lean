-- ===== PART A: goes FIRST, ahead of the names: the tables' words, and 'selects' of the private methods out of them =====
/-- a private method of a class that the tables say can be made, by its rows of tables_1 -/
def lw_okq (q : MethodName × Nat) : Prop := (q.1.cls ≠ "java/lang/invoke/MethodHandle" ∧ q.1.cls ≠ "java/lang/invoke/VarHandle") ∧ Cond.instantiable q.1.cls q.2 ∈ tables_1 ∧ Cond.privateMethod q.1 ∈ tables_1 ∧ Cond.instanceMethod q.1 ∈ tables_1
theorem lw_p0 : lw_okq (⟨"StraightPolys", "append", "(I)V"⟩, 12) := ⟨⟨by decide +kernel, by decide +kernel⟩, List.mem_of_getElem? (i := 32) (by decide +kernel), List.mem_of_getElem? (i := 359) (by decide +kernel), List.mem_of_getElem? (i := 360) (by decide +kernel)⟩
theorem lw_p1 : lw_okq (⟨"StraightPolys", "canMake", "(III)Z"⟩, 12) := ⟨⟨by decide +kernel, by decide +kernel⟩, List.mem_of_getElem? (i := 32) (by decide +kernel), List.mem_of_getElem? (i := 374) (by decide +kernel), List.mem_of_getElem? (i := 375) (by decide +kernel)⟩
theorem lw_p2 : lw_okq (⟨"StraightPolys", "made", "(ILStraightPolys$Poly;I)LStraightPolys$Poly;"⟩, 12) := ⟨⟨by decide +kernel, by decide +kernel⟩, List.mem_of_getElem? (i := 32) (by decide +kernel), List.mem_of_getElem? (i := 392) (by decide +kernel), List.mem_of_getElem? (i := 393) (by decide +kernel)⟩
theorem lw_p3 : lw_okq (⟨"StraightPolys$Ring", "multiply", "(LStraightPolys$Poly;LStraightPolys$Poly;LStraightPolys$Poly;)Z"⟩, 9) := ⟨⟨by decide +kernel, by decide +kernel⟩, List.mem_of_getElem? (i := 80) (by decide +kernel), List.mem_of_getElem? (i := 421) (by decide +kernel), List.mem_of_getElem? (i := 422) (by decide +kernel)⟩
theorem lw_p4 : lw_okq (⟨"java/lang/Throwable", "fillInStackTrace", "(I)Ljava/lang/Throwable;"⟩, 6) := ⟨⟨by decide +kernel, by decide +kernel⟩, List.mem_of_getElem? (i := 478) (by decide +kernel), List.mem_of_getElem? (i := 476) (by decide +kernel), List.mem_of_getElem? (i := 477) (by decide +kernel)⟩
theorem lw_p5 : lw_okq (⟨"StraightPolys$Ring", "findOffsets", "(LStraightPolys$Poly;LStraightPolys$Box;)V"⟩, 9) := ⟨⟨by decide +kernel, by decide +kernel⟩, List.mem_of_getElem? (i := 80) (by decide +kernel), List.mem_of_getElem? (i := 740) (by decide +kernel), List.mem_of_getElem? (i := 741) (by decide +kernel)⟩
theorem lw_p6 : lw_okq (⟨"StraightPolys$Ring", "addTimes", "(LStraightPolys$Box;IILStraightPolys$Poly;)V"⟩, 9) := ⟨⟨by decide +kernel, by decide +kernel⟩, List.mem_of_getElem? (i := 80) (by decide +kernel), List.mem_of_getElem? (i := 749) (by decide +kernel), List.mem_of_getElem? (i := 750) (by decide +kernel)⟩
theorem lw_p7 : lw_okq (⟨"StraightPolys$Box", "pushCell", "(LStraightPolys$Poly;II)V"⟩, 3) := ⟨⟨by decide +kernel, by decide +kernel⟩, List.mem_of_getElem? (i := 88) (by decide +kernel), List.mem_of_getElem? (i := 758) (by decide +kernel), List.mem_of_getElem? (i := 759) (by decide +kernel)⟩
theorem lw_p8 : lw_okq (⟨"StraightPolys$Factors", "layOut", "(LStraightPolys$Poly;I)V"⟩, 14) := ⟨⟨by decide +kernel, by decide +kernel⟩, List.mem_of_getElem? (i := 156) (by decide +kernel), List.mem_of_getElem? (i := 801) (by decide +kernel), List.mem_of_getElem? (i := 802) (by decide +kernel)⟩
theorem lw_p9 : lw_okq (⟨"StraightPolys$Points", "addReduced", "(LStraightPolys$Poly;I)V"⟩, 4) := ⟨⟨by decide +kernel, by decide +kernel⟩, List.mem_of_getElem? (i := 137) (by decide +kernel), List.mem_of_getElem? (i := 825) (by decide +kernel), List.mem_of_getElem? (i := 826) (by decide +kernel)⟩
theorem lw_p10 : lw_okq (⟨"StraightPolys$Points", "spread", "(II)V"⟩, 4) := ⟨⟨by decide +kernel, by decide +kernel⟩, List.mem_of_getElem? (i := 137) (by decide +kernel), List.mem_of_getElem? (i := 831) (by decide +kernel), List.mem_of_getElem? (i := 832) (by decide +kernel)⟩
theorem lw_p11 : lw_okq (⟨"StraightPolys$Points", "fillRow", "(III)V"⟩, 4) := ⟨⟨by decide +kernel, by decide +kernel⟩, List.mem_of_getElem? (i := 137) (by decide +kernel), List.mem_of_getElem? (i := 835) (by decide +kernel), List.mem_of_getElem? (i := 836) (by decide +kernel)⟩
theorem lw_p12 : lw_okq (⟨"StraightPolys$Factors", "loadHighest", "(LStraightPolys$Poly;)V"⟩, 14) := ⟨⟨by decide +kernel, by decide +kernel⟩, List.mem_of_getElem? (i := 156) (by decide +kernel), List.mem_of_getElem? (i := 839) (by decide +kernel), List.mem_of_getElem? (i := 840) (by decide +kernel)⟩
theorem lw_p13 : lw_okq (⟨"StraightPolys$Factors", "tryLines", "(III)V"⟩, 14) := ⟨⟨by decide +kernel, by decide +kernel⟩, List.mem_of_getElem? (i := 156) (by decide +kernel), List.mem_of_getElem? (i := 845) (by decide +kernel), List.mem_of_getElem? (i := 846) (by decide +kernel)⟩
theorem lw_p14 : lw_okq (⟨"StraightPolys$Points", "stride", "(I)I"⟩, 4) := ⟨⟨by decide +kernel, by decide +kernel⟩, List.mem_of_getElem? (i := 137) (by decide +kernel), List.mem_of_getElem? (i := 854) (by decide +kernel), List.mem_of_getElem? (i := 855) (by decide +kernel)⟩
theorem lw_p15 : lw_okq (⟨"StraightPolys$Factors", "takeOut", "(LStraightPolys$Line;)I"⟩, 14) := ⟨⟨by decide +kernel, by decide +kernel⟩, List.mem_of_getElem? (i := 156) (by decide +kernel), List.mem_of_getElem? (i := 858) (by decide +kernel), List.mem_of_getElem? (i := 859) (by decide +kernel)⟩
def lw_privs_1 : List (MethodName × Nat) := [(⟨"StraightPolys", "append", "(I)V"⟩, 12), (⟨"StraightPolys", "canMake", "(III)Z"⟩, 12), (⟨"StraightPolys", "made", "(ILStraightPolys$Poly;I)LStraightPolys$Poly;"⟩, 12), (⟨"StraightPolys$Ring", "multiply", "(LStraightPolys$Poly;LStraightPolys$Poly;LStraightPolys$Poly;)Z"⟩, 9), (⟨"java/lang/Throwable", "fillInStackTrace", "(I)Ljava/lang/Throwable;"⟩, 6), (⟨"StraightPolys$Ring", "findOffsets", "(LStraightPolys$Poly;LStraightPolys$Box;)V"⟩, 9), (⟨"StraightPolys$Ring", "addTimes", "(LStraightPolys$Box;IILStraightPolys$Poly;)V"⟩, 9), (⟨"StraightPolys$Box", "pushCell", "(LStraightPolys$Poly;II)V"⟩, 3), (⟨"StraightPolys$Factors", "layOut", "(LStraightPolys$Poly;I)V"⟩, 14), (⟨"StraightPolys$Points", "addReduced", "(LStraightPolys$Poly;I)V"⟩, 4), (⟨"StraightPolys$Points", "spread", "(II)V"⟩, 4), (⟨"StraightPolys$Points", "fillRow", "(III)V"⟩, 4), (⟨"StraightPolys$Factors", "loadHighest", "(LStraightPolys$Poly;)V"⟩, 14), (⟨"StraightPolys$Factors", "tryLines", "(III)V"⟩, 14), (⟨"StraightPolys$Points", "stride", "(I)I"⟩, 4), (⟨"StraightPolys$Factors", "takeOut", "(LStraightPolys$Line;)I"⟩, 14)]
theorem lw_r1 : ∀ q ∈ lw_privs_1, lw_okq q := List.forall_mem_cons.mpr ⟨lw_p0, List.forall_mem_cons.mpr ⟨lw_p1, List.forall_mem_cons.mpr ⟨lw_p2, List.forall_mem_cons.mpr ⟨lw_p3, List.forall_mem_cons.mpr ⟨lw_p4, List.forall_mem_cons.mpr ⟨lw_p5, List.forall_mem_cons.mpr ⟨lw_p6, List.forall_mem_cons.mpr ⟨lw_p7, List.forall_mem_cons.mpr ⟨lw_p8, List.forall_mem_cons.mpr ⟨lw_p9, List.forall_mem_cons.mpr ⟨lw_p10, List.forall_mem_cons.mpr ⟨lw_p11, List.forall_mem_cons.mpr ⟨lw_p12, List.forall_mem_cons.mpr ⟨lw_p13, List.forall_mem_cons.mpr ⟨lw_p14, List.forall_mem_cons.mpr ⟨lw_p15, fun _ h => absurd h List.not_mem_nil⟩⟩⟩⟩⟩⟩⟩⟩⟩⟩⟩⟩⟩⟩⟩⟩
theorem lw_p16 : lw_okq (⟨"StraightPolys$Factors", "divide", "(LStraightPolys$Line;)Z"⟩, 14) := ⟨⟨by decide +kernel, by decide +kernel⟩, List.mem_of_getElem? (i := 156) (by decide +kernel), List.mem_of_getElem? (i := 866) (by decide +kernel), List.mem_of_getElem? (i := 867) (by decide +kernel)⟩
theorem lw_p17 : lw_okq (⟨"StraightPolys$Factors", "canGoIn", "(LStraightPolys$Line;)Z"⟩, 14) := ⟨⟨by decide +kernel, by decide +kernel⟩, List.mem_of_getElem? (i := 156) (by decide +kernel), List.mem_of_getElem? (i := 870) (by decide +kernel), List.mem_of_getElem? (i := 871) (by decide +kernel)⟩
theorem lw_p18 : lw_okq (⟨"StraightPolys$Factors", "divideSlice", "(LStraightPolys$Line;I)Z"⟩, 14) := ⟨⟨by decide +kernel, by decide +kernel⟩, List.mem_of_getElem? (i := 156) (by decide +kernel), List.mem_of_getElem? (i := 879) (by decide +kernel), List.mem_of_getElem? (i := 880) (by decide +kernel)⟩
theorem lw_p19 : lw_okq (⟨"StraightPolys$Factors", "isSliceZero", "(LStraightPolys$Line;)Z"⟩, 14) := ⟨⟨by decide +kernel, by decide +kernel⟩, List.mem_of_getElem? (i := 156) (by decide +kernel), List.mem_of_getElem? (i := 884) (by decide +kernel), List.mem_of_getElem? (i := 885) (by decide +kernel)⟩
theorem lw_p20 : lw_okq (⟨"StraightPolys$Factors", "takeQuotient", "(LStraightPolys$Line;)V"⟩, 14) := ⟨⟨by decide +kernel, by decide +kernel⟩, List.mem_of_getElem? (i := 156) (by decide +kernel), List.mem_of_getElem? (i := 888) (by decide +kernel), List.mem_of_getElem? (i := 889) (by decide +kernel)⟩
theorem lw_p21 : lw_okq (⟨"StraightPolys$Factors", "note", "(IIIII)V"⟩, 14) := ⟨⟨by decide +kernel, by decide +kernel⟩, List.mem_of_getElem? (i := 156) (by decide +kernel), List.mem_of_getElem? (i := 896) (by decide +kernel), List.mem_of_getElem? (i := 897) (by decide +kernel)⟩
theorem lw_p22 : lw_okq (⟨"StraightPolys$Ring", "takeRemainder", "([II[II)I"⟩, 9) := ⟨⟨by decide +kernel, by decide +kernel⟩, List.mem_of_getElem? (i := 80) (by decide +kernel), List.mem_of_getElem? (i := 916) (by decide +kernel), List.mem_of_getElem? (i := 917) (by decide +kernel)⟩
theorem lw_p23 : lw_okq (⟨"StraightPolys$Ring", "inverse", "(I)I"⟩, 9) := ⟨⟨by decide +kernel, by decide +kernel⟩, List.mem_of_getElem? (i := 80) (by decide +kernel), List.mem_of_getElem? (i := 920) (by decide +kernel), List.mem_of_getElem? (i := 921) (by decide +kernel)⟩
theorem lw_p24 : lw_okq (⟨"StraightPolys", "keep", "(ILStraightPolys$Poly;)I"⟩, 12) := ⟨⟨by decide +kernel, by decide +kernel⟩, List.mem_of_getElem? (i := 32) (by decide +kernel), List.mem_of_getElem? (i := 931) (by decide +kernel), List.mem_of_getElem? (i := 932) (by decide +kernel)⟩
theorem lw_p25 : lw_okq (⟨"StraightPolys$Ring", "addPut", "(LStraightPolys$Poly;II)V"⟩, 9) := ⟨⟨by decide +kernel, by decide +kernel⟩, List.mem_of_getElem? (i := 80) (by decide +kernel), List.mem_of_getElem? (i := 952) (by decide +kernel), List.mem_of_getElem? (i := 953) (by decide +kernel)⟩
theorem lw_p26 : lw_okq (⟨"StraightPolys$Reader", "readToken", "()V"⟩, 9) := ⟨⟨by decide +kernel, by decide +kernel⟩, List.mem_of_getElem? (i := 1027) (by decide +kernel), List.mem_of_getElem? (i := 1067) (by decide +kernel), List.mem_of_getElem? (i := 1068) (by decide +kernel)⟩
theorem lw_p27 : lw_okq (⟨"StraightPolys$Reader", "readNumber", "()V"⟩, 9) := ⟨⟨by decide +kernel, by decide +kernel⟩, List.mem_of_getElem? (i := 1027) (by decide +kernel), List.mem_of_getElem? (i := 1074) (by decide +kernel), List.mem_of_getElem? (i := 1075) (by decide +kernel)⟩
theorem lw_p28 : lw_okq (⟨"StraightPolys$Reader", "take", "()I"⟩, 9) := ⟨⟨by decide +kernel, by decide +kernel⟩, List.mem_of_getElem? (i := 1027) (by decide +kernel), List.mem_of_getElem? (i := 1079) (by decide +kernel), List.mem_of_getElem? (i := 1080) (by decide +kernel)⟩
theorem lw_p29 : lw_okq (⟨"StraightPolys$Reader", "takeName", "()I"⟩, 9) := ⟨⟨by decide +kernel, by decide +kernel⟩, List.mem_of_getElem? (i := 1027) (by decide +kernel), List.mem_of_getElem? (i := 1083) (by decide +kernel), List.mem_of_getElem? (i := 1084) (by decide +kernel)⟩
theorem lw_p30 : lw_okq (⟨"StraightPolys$Reader", "go", "(I)I"⟩, 9) := ⟨⟨by decide +kernel, by decide +kernel⟩, List.mem_of_getElem? (i := 1027) (by decide +kernel), List.mem_of_getElem? (i := 1087) (by decide +kernel), List.mem_of_getElem? (i := 1088) (by decide +kernel)⟩
theorem lw_p31 : lw_okq (⟨"StraightPolys$Reader", "takeAtom", "()I"⟩, 9) := ⟨⟨by decide +kernel, by decide +kernel⟩, List.mem_of_getElem? (i := 1027) (by decide +kernel), List.mem_of_getElem? (i := 1091) (by decide +kernel), List.mem_of_getElem? (i := 1092) (by decide +kernel)⟩
def lw_privs_2 : List (MethodName × Nat) := [(⟨"StraightPolys$Factors", "divide", "(LStraightPolys$Line;)Z"⟩, 14), (⟨"StraightPolys$Factors", "canGoIn", "(LStraightPolys$Line;)Z"⟩, 14), (⟨"StraightPolys$Factors", "divideSlice", "(LStraightPolys$Line;I)Z"⟩, 14), (⟨"StraightPolys$Factors", "isSliceZero", "(LStraightPolys$Line;)Z"⟩, 14), (⟨"StraightPolys$Factors", "takeQuotient", "(LStraightPolys$Line;)V"⟩, 14), (⟨"StraightPolys$Factors", "note", "(IIIII)V"⟩, 14), (⟨"StraightPolys$Ring", "takeRemainder", "([II[II)I"⟩, 9), (⟨"StraightPolys$Ring", "inverse", "(I)I"⟩, 9), (⟨"StraightPolys", "keep", "(ILStraightPolys$Poly;)I"⟩, 12), (⟨"StraightPolys$Ring", "addPut", "(LStraightPolys$Poly;II)V"⟩, 9), (⟨"StraightPolys$Reader", "readToken", "()V"⟩, 9), (⟨"StraightPolys$Reader", "readNumber", "()V"⟩, 9), (⟨"StraightPolys$Reader", "take", "()I"⟩, 9), (⟨"StraightPolys$Reader", "takeName", "()I"⟩, 9), (⟨"StraightPolys$Reader", "go", "(I)I"⟩, 9), (⟨"StraightPolys$Reader", "takeAtom", "()I"⟩, 9)]
theorem lw_r2 : ∀ q ∈ lw_privs_2, lw_okq q := List.forall_mem_cons.mpr ⟨lw_p16, List.forall_mem_cons.mpr ⟨lw_p17, List.forall_mem_cons.mpr ⟨lw_p18, List.forall_mem_cons.mpr ⟨lw_p19, List.forall_mem_cons.mpr ⟨lw_p20, List.forall_mem_cons.mpr ⟨lw_p21, List.forall_mem_cons.mpr ⟨lw_p22, List.forall_mem_cons.mpr ⟨lw_p23, List.forall_mem_cons.mpr ⟨lw_p24, List.forall_mem_cons.mpr ⟨lw_p25, List.forall_mem_cons.mpr ⟨lw_p26, List.forall_mem_cons.mpr ⟨lw_p27, List.forall_mem_cons.mpr ⟨lw_p28, List.forall_mem_cons.mpr ⟨lw_p29, List.forall_mem_cons.mpr ⟨lw_p30, List.forall_mem_cons.mpr ⟨lw_p31, fun _ h => absurd h List.not_mem_nil⟩⟩⟩⟩⟩⟩⟩⟩⟩⟩⟩⟩⟩⟩⟩⟩
theorem lw_p32 : lw_okq (⟨"StraightPolys$Reader", "setAtom", "(I)I"⟩, 9) := ⟨⟨by decide +kernel, by decide +kernel⟩, List.mem_of_getElem? (i := 1027) (by decide +kernel), List.mem_of_getElem? (i := 1095) (by decide +kernel), List.mem_of_getElem? (i := 1096) (by decide +kernel)⟩
theorem lw_p33 : lw_okq (⟨"StraightPolys$Reader", "takeSign", "()I"⟩, 9) := ⟨⟨by decide +kernel, by decide +kernel⟩, List.mem_of_getElem? (i := 1027) (by decide +kernel), List.mem_of_getElem? (i := 1099) (by decide +kernel), List.mem_of_getElem? (i := 1100) (by decide +kernel)⟩
theorem lw_p34 : lw_okq (⟨"StraightPolys$Reader", "takeStepEnd", "()I"⟩, 9) := ⟨⟨by decide +kernel, by decide +kernel⟩, List.mem_of_getElem? (i := 1027) (by decide +kernel), List.mem_of_getElem? (i := 1103) (by decide +kernel), List.mem_of_getElem? (i := 1104) (by decide +kernel)⟩
theorem lw_p35 : lw_okq (⟨"StraightPolys$Reader", "takeExponent", "()I"⟩, 9) := ⟨⟨by decide +kernel, by decide +kernel⟩, List.mem_of_getElem? (i := 1027) (by decide +kernel), List.mem_of_getElem? (i := 1107) (by decide +kernel), List.mem_of_getElem? (i := 1108) (by decide +kernel)⟩
theorem lw_p36 : lw_okq (⟨"StraightPolys$Program", "boundOf", "(I)I"⟩, 10) := ⟨⟨by decide +kernel, by decide +kernel⟩, List.mem_of_getElem? (i := 979) (by decide +kernel), List.mem_of_getElem? (i := 1115) (by decide +kernel), List.mem_of_getElem? (i := 1116) (by decide +kernel)⟩
theorem lw_p37 : lw_okq (⟨"StraightPolys$Program", "atomBound", "(I)I"⟩, 10) := ⟨⟨by decide +kernel, by decide +kernel⟩, List.mem_of_getElem? (i := 979) (by decide +kernel), List.mem_of_getElem? (i := 1119) (by decide +kernel), List.mem_of_getElem? (i := 1120) (by decide +kernel)⟩
theorem lw_p38 : lw_okq (⟨"StraightPolys$Program", "atomPoly", "(II)LStraightPolys$Poly;"⟩, 10) := ⟨⟨by decide +kernel, by decide +kernel⟩, List.mem_of_getElem? (i := 979) (by decide +kernel), List.mem_of_getElem? (i := 1126) (by decide +kernel), List.mem_of_getElem? (i := 1127) (by decide +kernel)⟩
theorem lw_p39 : lw_okq (⟨"StraightPolys$Program", "mark", "(I)V"⟩, 10) := ⟨⟨by decide +kernel, by decide +kernel⟩, List.mem_of_getElem? (i := 979) (by decide +kernel), List.mem_of_getElem? (i := 1176) (by decide +kernel), List.mem_of_getElem? (i := 1177) (by decide +kernel)⟩
theorem lw_p40 : lw_okq (⟨"StraightPolys$Program", "stepValue", "(II)I"⟩, 10) := ⟨⟨by decide +kernel, by decide +kernel⟩, List.mem_of_getElem? (i := 979) (by decide +kernel), List.mem_of_getElem? (i := 1213) (by decide +kernel), List.mem_of_getElem? (i := 1214) (by decide +kernel)⟩
theorem lw_p41 : lw_okq (⟨"StraightPolys$Program", "atomValue", "(II)I"⟩, 10) := ⟨⟨by decide +kernel, by decide +kernel⟩, List.mem_of_getElem? (i := 979) (by decide +kernel), List.mem_of_getElem? (i := 1217) (by decide +kernel), List.mem_of_getElem? (i := 1218) (by decide +kernel)⟩
theorem lw_p42 : lw_okq (⟨"StraightPolys$Program", "handBack", "(II)V"⟩, 10) := ⟨⟨by decide +kernel, by decide +kernel⟩, List.mem_of_getElem? (i := 979) (by decide +kernel), List.mem_of_getElem? (i := 1228) (by decide +kernel), List.mem_of_getElem? (i := 1229) (by decide +kernel)⟩
theorem lw_p43 : lw_okq (⟨"StraightPolys$Program", "hand", "(III)V"⟩, 10) := ⟨⟨by decide +kernel, by decide +kernel⟩, List.mem_of_getElem? (i := 979) (by decide +kernel), List.mem_of_getElem? (i := 1232) (by decide +kernel), List.mem_of_getElem? (i := 1233) (by decide +kernel)⟩
theorem lw_p44 : lw_okq (⟨"StraightPolys", "polyAt", "(I)LStraightPolys$Poly;"⟩, 12) := ⟨⟨by decide +kernel, by decide +kernel⟩, List.mem_of_getElem? (i := 32) (by decide +kernel), List.mem_of_getElem? (i := 1256) (by decide +kernel), List.mem_of_getElem? (i := 1257) (by decide +kernel)⟩
theorem lw_p45 : lw_okq (⟨"StraightPolys$Order", "sink", "(II)V"⟩, 1) := ⟨⟨by decide +kernel, by decide +kernel⟩, List.mem_of_getElem? (i := 254) (by decide +kernel), List.mem_of_getElem? (i := 1294) (by decide +kernel), List.mem_of_getElem? (i := 1295) (by decide +kernel)⟩
theorem lw_p46 : lw_okq (⟨"StraightPolys$Ring", "findPowers", "(II)V"⟩, 9) := ⟨⟨by decide +kernel, by decide +kernel⟩, List.mem_of_getElem? (i := 80) (by decide +kernel), List.mem_of_getElem? (i := 1327) (by decide +kernel), List.mem_of_getElem? (i := 1328) (by decide +kernel)⟩
theorem lw_p47 : lw_okq (⟨"StraightPolys", "firstUnlike", "(LStraightPolys$Poly;LStraightPolys$Poly;)I"⟩, 12) := ⟨⟨by decide +kernel, by decide +kernel⟩, List.mem_of_getElem? (i := 32) (by decide +kernel), List.mem_of_getElem? (i := 1338) (by decide +kernel), List.mem_of_getElem? (i := 1339) (by decide +kernel)⟩
def lw_privs_3 : List (MethodName × Nat) := [(⟨"StraightPolys$Reader", "setAtom", "(I)I"⟩, 9), (⟨"StraightPolys$Reader", "takeSign", "()I"⟩, 9), (⟨"StraightPolys$Reader", "takeStepEnd", "()I"⟩, 9), (⟨"StraightPolys$Reader", "takeExponent", "()I"⟩, 9), (⟨"StraightPolys$Program", "boundOf", "(I)I"⟩, 10), (⟨"StraightPolys$Program", "atomBound", "(I)I"⟩, 10), (⟨"StraightPolys$Program", "atomPoly", "(II)LStraightPolys$Poly;"⟩, 10), (⟨"StraightPolys$Program", "mark", "(I)V"⟩, 10), (⟨"StraightPolys$Program", "stepValue", "(II)I"⟩, 10), (⟨"StraightPolys$Program", "atomValue", "(II)I"⟩, 10), (⟨"StraightPolys$Program", "handBack", "(II)V"⟩, 10), (⟨"StraightPolys$Program", "hand", "(III)V"⟩, 10), (⟨"StraightPolys", "polyAt", "(I)LStraightPolys$Poly;"⟩, 12), (⟨"StraightPolys$Order", "sink", "(II)V"⟩, 1), (⟨"StraightPolys$Ring", "findPowers", "(II)V"⟩, 9), (⟨"StraightPolys", "firstUnlike", "(LStraightPolys$Poly;LStraightPolys$Poly;)I"⟩, 12)]
theorem lw_r3 : ∀ q ∈ lw_privs_3, lw_okq q := List.forall_mem_cons.mpr ⟨lw_p32, List.forall_mem_cons.mpr ⟨lw_p33, List.forall_mem_cons.mpr ⟨lw_p34, List.forall_mem_cons.mpr ⟨lw_p35, List.forall_mem_cons.mpr ⟨lw_p36, List.forall_mem_cons.mpr ⟨lw_p37, List.forall_mem_cons.mpr ⟨lw_p38, List.forall_mem_cons.mpr ⟨lw_p39, List.forall_mem_cons.mpr ⟨lw_p40, List.forall_mem_cons.mpr ⟨lw_p41, List.forall_mem_cons.mpr ⟨lw_p42, List.forall_mem_cons.mpr ⟨lw_p43, List.forall_mem_cons.mpr ⟨lw_p44, List.forall_mem_cons.mpr ⟨lw_p45, List.forall_mem_cons.mpr ⟨lw_p46, List.forall_mem_cons.mpr ⟨lw_p47, fun _ h => absurd h List.not_mem_nil⟩⟩⟩⟩⟩⟩⟩⟩⟩⟩⟩⟩⟩⟩⟩⟩
theorem lw_p48 : lw_okq (⟨"StraightPolys$Speech", "writeByte", "(I)V"⟩, 2) := ⟨⟨by decide +kernel, by decide +kernel⟩, List.mem_of_getElem? (i := 264) (by decide +kernel), List.mem_of_getElem? (i := 1392) (by decide +kernel), List.mem_of_getElem? (i := 1393) (by decide +kernel)⟩
theorem lw_p49 : lw_okq (⟨"StraightPolys$Speech", "writeTerm", "(II)V"⟩, 2) := ⟨⟨by decide +kernel, by decide +kernel⟩, List.mem_of_getElem? (i := 264) (by decide +kernel), List.mem_of_getElem? (i := 1397) (by decide +kernel), List.mem_of_getElem? (i := 1398) (by decide +kernel)⟩
theorem lw_p50 : lw_okq (⟨"StraightPolys$Speech", "writeNumber", "(I)V"⟩, 2) := ⟨⟨by decide +kernel, by decide +kernel⟩, List.mem_of_getElem? (i := 264) (by decide +kernel), List.mem_of_getElem? (i := 1401) (by decide +kernel), List.mem_of_getElem? (i := 1402) (by decide +kernel)⟩
theorem lw_p51 : lw_okq (⟨"StraightPolysModel", "mayMake", "(III)Z"⟩, 52) := ⟨⟨by decide +kernel, by decide +kernel⟩, List.mem_of_getElem? (i := 1406) (by decide +kernel), List.mem_of_getElem? (i := 1594) (by decide +kernel), List.mem_of_getElem? (i := 1595) (by decide +kernel)⟩
theorem lw_p52 : lw_okq (⟨"StraightPolysModel", "isInX", "(I)Z"⟩, 52) := ⟨⟨by decide +kernel, by decide +kernel⟩, List.mem_of_getElem? (i := 1406) (by decide +kernel), List.mem_of_getElem? (i := 1598) (by decide +kernel), List.mem_of_getElem? (i := 1599) (by decide +kernel)⟩
theorem lw_p53 : lw_okq (⟨"StraightPolysModel", "degreeIn", "(II)I"⟩, 52) := ⟨⟨by decide +kernel, by decide +kernel⟩, List.mem_of_getElem? (i := 1406) (by decide +kernel), List.mem_of_getElem? (i := 1602) (by decide +kernel), List.mem_of_getElem? (i := 1603) (by decide +kernel)⟩
theorem lw_p54 : lw_okq (⟨"StraightPolysModel", "keyAt", "(II)I"⟩, 52) := ⟨⟨by decide +kernel, by decide +kernel⟩, List.mem_of_getElem? (i := 1406) (by decide +kernel), List.mem_of_getElem? (i := 1606) (by decide +kernel), List.mem_of_getElem? (i := 1607) (by decide +kernel)⟩
theorem lw_p55 : lw_okq (⟨"StraightPolysModel", "makes", "(IIII)Z"⟩, 52) := ⟨⟨by decide +kernel, by decide +kernel⟩, List.mem_of_getElem? (i := 1406) (by decide +kernel), List.mem_of_getElem? (i := 1614) (by decide +kernel), List.mem_of_getElem? (i := 1615) (by decide +kernel)⟩
theorem lw_p56 : lw_okq (⟨"StraightPolysModel", "sum", "(IIII)Z"⟩, 52) := ⟨⟨by decide +kernel, by decide +kernel⟩, List.mem_of_getElem? (i := 1406) (by decide +kernel), List.mem_of_getElem? (i := 1618) (by decide +kernel), List.mem_of_getElem? (i := 1619) (by decide +kernel)⟩
theorem lw_p57 : lw_okq (⟨"StraightPolysModel", "gathersAll", "(II)V"⟩, 52) := ⟨⟨by decide +kernel, by decide +kernel⟩, List.mem_of_getElem? (i := 1406) (by decide +kernel), List.mem_of_getElem? (i := 1622) (by decide +kernel), List.mem_of_getElem? (i := 1623) (by decide +kernel)⟩
theorem lw_p58 : lw_okq (⟨"StraightPolysModel", "numAt", "(II)I"⟩, 52) := ⟨⟨by decide +kernel, by decide +kernel⟩, List.mem_of_getElem? (i := 1406) (by decide +kernel), List.mem_of_getElem? (i := 1626) (by decide +kernel), List.mem_of_getElem? (i := 1627) (by decide +kernel)⟩
theorem lw_p59 : lw_okq (⟨"StraightPolysModel", "gathers", "(IIII)V"⟩, 52) := ⟨⟨by decide +kernel, by decide +kernel⟩, List.mem_of_getElem? (i := 1406) (by decide +kernel), List.mem_of_getElem? (i := 1630) (by decide +kernel), List.mem_of_getElem? (i := 1631) (by decide +kernel)⟩
theorem lw_p60 : lw_okq (⟨"StraightPolysModel", "mod", "(I)I"⟩, 52) := ⟨⟨by decide +kernel, by decide +kernel⟩, List.mem_of_getElem? (i := 1406) (by decide +kernel), List.mem_of_getElem? (i := 1634) (by decide +kernel), List.mem_of_getElem? (i := 1635) (by decide +kernel)⟩
theorem lw_p61 : lw_okq (⟨"StraightPolysModel", "gathered", "(I)Z"⟩, 52) := ⟨⟨by decide +kernel, by decide +kernel⟩, List.mem_of_getElem? (i := 1406) (by decide +kernel), List.mem_of_getElem? (i := 1638) (by decide +kernel), List.mem_of_getElem? (i := 1639) (by decide +kernel)⟩
theorem lw_p62 : lw_okq (⟨"StraightPolysModel", "sort", "(I)V"⟩, 52) := ⟨⟨by decide +kernel, by decide +kernel⟩, List.mem_of_getElem? (i := 1406) (by decide +kernel), List.mem_of_getElem? (i := 1645) (by decide +kernel), List.mem_of_getElem? (i := 1646) (by decide +kernel)⟩
theorem lw_p63 : lw_okq (⟨"StraightPolysModel", "product", "(III)Z"⟩, 52) := ⟨⟨by decide +kernel, by decide +kernel⟩, List.mem_of_getElem? (i := 1406) (by decide +kernel), List.mem_of_getElem? (i := 1649) (by decide +kernel), List.mem_of_getElem? (i := 1650) (by decide +kernel)⟩
def lw_privs_4 : List (MethodName × Nat) := [(⟨"StraightPolys$Speech", "writeByte", "(I)V"⟩, 2), (⟨"StraightPolys$Speech", "writeTerm", "(II)V"⟩, 2), (⟨"StraightPolys$Speech", "writeNumber", "(I)V"⟩, 2), (⟨"StraightPolysModel", "mayMake", "(III)Z"⟩, 52), (⟨"StraightPolysModel", "isInX", "(I)Z"⟩, 52), (⟨"StraightPolysModel", "degreeIn", "(II)I"⟩, 52), (⟨"StraightPolysModel", "keyAt", "(II)I"⟩, 52), (⟨"StraightPolysModel", "makes", "(IIII)Z"⟩, 52), (⟨"StraightPolysModel", "sum", "(IIII)Z"⟩, 52), (⟨"StraightPolysModel", "gathersAll", "(II)V"⟩, 52), (⟨"StraightPolysModel", "numAt", "(II)I"⟩, 52), (⟨"StraightPolysModel", "gathers", "(IIII)V"⟩, 52), (⟨"StraightPolysModel", "mod", "(I)I"⟩, 52), (⟨"StraightPolysModel", "gathered", "(I)Z"⟩, 52), (⟨"StraightPolysModel", "sort", "(I)V"⟩, 52), (⟨"StraightPolysModel", "product", "(III)Z"⟩, 52)]
theorem lw_r4 : ∀ q ∈ lw_privs_4, lw_okq q := List.forall_mem_cons.mpr ⟨lw_p48, List.forall_mem_cons.mpr ⟨lw_p49, List.forall_mem_cons.mpr ⟨lw_p50, List.forall_mem_cons.mpr ⟨lw_p51, List.forall_mem_cons.mpr ⟨lw_p52, List.forall_mem_cons.mpr ⟨lw_p53, List.forall_mem_cons.mpr ⟨lw_p54, List.forall_mem_cons.mpr ⟨lw_p55, List.forall_mem_cons.mpr ⟨lw_p56, List.forall_mem_cons.mpr ⟨lw_p57, List.forall_mem_cons.mpr ⟨lw_p58, List.forall_mem_cons.mpr ⟨lw_p59, List.forall_mem_cons.mpr ⟨lw_p60, List.forall_mem_cons.mpr ⟨lw_p61, List.forall_mem_cons.mpr ⟨lw_p62, List.forall_mem_cons.mpr ⟨lw_p63, fun _ h => absurd h List.not_mem_nil⟩⟩⟩⟩⟩⟩⟩⟩⟩⟩⟩⟩⟩⟩⟩⟩
theorem lw_p64 : lw_okq (⟨"StraightPolysModel", "gathersTerm", "(III)V"⟩, 52) := ⟨⟨by decide +kernel, by decide +kernel⟩, List.mem_of_getElem? (i := 1406) (by decide +kernel), List.mem_of_getElem? (i := 1653) (by decide +kernel), List.mem_of_getElem? (i := 1654) (by decide +kernel)⟩
theorem lw_p65 : lw_okq (⟨"StraightPolysModel", "derivative", "(III)Z"⟩, 52) := ⟨⟨by decide +kernel, by decide +kernel⟩, List.mem_of_getElem? (i := 1406) (by decide +kernel), List.mem_of_getElem? (i := 1657) (by decide +kernel), List.mem_of_getElem? (i := 1658) (by decide +kernel)⟩
theorem lw_p66 : lw_okq (⟨"StraightPolysModel", "power", "(III)Z"⟩, 52) := ⟨⟨by decide +kernel, by decide +kernel⟩, List.mem_of_getElem? (i := 1406) (by decide +kernel), List.mem_of_getElem? (i := 1661) (by decide +kernel), List.mem_of_getElem? (i := 1662) (by decide +kernel)⟩
theorem lw_p67 : lw_okq (⟨"StraightPolysModel", "copy", "(II)V"⟩, 52) := ⟨⟨by decide +kernel, by decide +kernel⟩, List.mem_of_getElem? (i := 1406) (by decide +kernel), List.mem_of_getElem? (i := 1665) (by decide +kernel), List.mem_of_getElem? (i := 1666) (by decide +kernel)⟩
theorem lw_p68 : lw_okq (⟨"StraightPolysModel", "number", "(II)V"⟩, 52) := ⟨⟨by decide +kernel, by decide +kernel⟩, List.mem_of_getElem? (i := 1406) (by decide +kernel), List.mem_of_getElem? (i := 1669) (by decide +kernel), List.mem_of_getElem? (i := 1670) (by decide +kernel)⟩
theorem lw_p69 : lw_okq (⟨"StraightPolysModel", "part", "(III)Z"⟩, 52) := ⟨⟨by decide +kernel, by decide +kernel⟩, List.mem_of_getElem? (i := 1406) (by decide +kernel), List.mem_of_getElem? (i := 1673) (by decide +kernel), List.mem_of_getElem? (i := 1674) (by decide +kernel)⟩
theorem lw_p70 : lw_okq (⟨"StraightPolysModel", "reduced", "(II)Z"⟩, 52) := ⟨⟨by decide +kernel, by decide +kernel⟩, List.mem_of_getElem? (i := 1406) (by decide +kernel), List.mem_of_getElem? (i := 1680) (by decide +kernel), List.mem_of_getElem? (i := 1681) (by decide +kernel)⟩
theorem lw_p71 : lw_okq (⟨"StraightPolysModel", "reducedExponent", "(I)I"⟩, 52) := ⟨⟨by decide +kernel, by decide +kernel⟩, List.mem_of_getElem? (i := 1406) (by decide +kernel), List.mem_of_getElem? (i := 1684) (by decide +kernel), List.mem_of_getElem? (i := 1685) (by decide +kernel)⟩
theorem lw_p72 : lw_okq (⟨"StraightPolysModel", "rest", "(II)Z"⟩, 52) := ⟨⟨by decide +kernel, by decide +kernel⟩, List.mem_of_getElem? (i := 1406) (by decide +kernel), List.mem_of_getElem? (i := 1688) (by decide +kernel), List.mem_of_getElem? (i := 1689) (by decide +kernel)⟩
theorem lw_p73 : lw_okq (⟨"StraightPolysModel", "layValues", "(I)V"⟩, 52) := ⟨⟨by decide +kernel, by decide +kernel⟩, List.mem_of_getElem? (i := 1406) (by decide +kernel), List.mem_of_getElem? (i := 1692) (by decide +kernel), List.mem_of_getElem? (i := 1693) (by decide +kernel)⟩
theorem lw_p74 : lw_okq (⟨"StraightPolysModel", "valueOf", "(IIII)I"⟩, 52) := ⟨⟨by decide +kernel, by decide +kernel⟩, List.mem_of_getElem? (i := 1406) (by decide +kernel), List.mem_of_getElem? (i := 1696) (by decide +kernel), List.mem_of_getElem? (i := 1697) (by decide +kernel)⟩
theorem lw_p75 : lw_okq (⟨"StraightPolysModel", "layPowers", "(II)V"⟩, 52) := ⟨⟨by decide +kernel, by decide +kernel⟩, List.mem_of_getElem? (i := 1406) (by decide +kernel), List.mem_of_getElem? (i := 1700) (by decide +kernel), List.mem_of_getElem? (i := 1701) (by decide +kernel)⟩
theorem lw_p76 : lw_okq (⟨"StraightPolysModel", "layWhole", "(I)V"⟩, 52) := ⟨⟨by decide +kernel, by decide +kernel⟩, List.mem_of_getElem? (i := 1406) (by decide +kernel), List.mem_of_getElem? (i := 1704) (by decide +kernel), List.mem_of_getElem? (i := 1705) (by decide +kernel)⟩
theorem lw_p77 : lw_okq (⟨"StraightPolysModel", "lines", "()I"⟩, 52) := ⟨⟨by decide +kernel, by decide +kernel⟩, List.mem_of_getElem? (i := 1406) (by decide +kernel), List.mem_of_getElem? (i := 1708) (by decide +kernel), List.mem_of_getElem? (i := 1709) (by decide +kernel)⟩
theorem lw_p78 : lw_okq (⟨"StraightPolysModel", "layLine", "(I)V"⟩, 52) := ⟨⟨by decide +kernel, by decide +kernel⟩, List.mem_of_getElem? (i := 1406) (by decide +kernel), List.mem_of_getElem? (i := 1712) (by decide +kernel), List.mem_of_getElem? (i := 1713) (by decide +kernel)⟩
theorem lw_p79 : lw_okq (⟨"StraightPolysModel", "vanishes", "()Z"⟩, 52) := ⟨⟨by decide +kernel, by decide +kernel⟩, List.mem_of_getElem? (i := 1406) (by decide +kernel), List.mem_of_getElem? (i := 1716) (by decide +kernel), List.mem_of_getElem? (i := 1717) (by decide +kernel)⟩
def lw_privs_5 : List (MethodName × Nat) := [(⟨"StraightPolysModel", "gathersTerm", "(III)V"⟩, 52), (⟨"StraightPolysModel", "derivative", "(III)Z"⟩, 52), (⟨"StraightPolysModel", "power", "(III)Z"⟩, 52), (⟨"StraightPolysModel", "copy", "(II)V"⟩, 52), (⟨"StraightPolysModel", "number", "(II)V"⟩, 52), (⟨"StraightPolysModel", "part", "(III)Z"⟩, 52), (⟨"StraightPolysModel", "reduced", "(II)Z"⟩, 52), (⟨"StraightPolysModel", "reducedExponent", "(I)I"⟩, 52), (⟨"StraightPolysModel", "rest", "(II)Z"⟩, 52), (⟨"StraightPolysModel", "layValues", "(I)V"⟩, 52), (⟨"StraightPolysModel", "valueOf", "(IIII)I"⟩, 52), (⟨"StraightPolysModel", "layPowers", "(II)V"⟩, 52), (⟨"StraightPolysModel", "layWhole", "(I)V"⟩, 52), (⟨"StraightPolysModel", "lines", "()I"⟩, 52), (⟨"StraightPolysModel", "layLine", "(I)V"⟩, 52), (⟨"StraightPolysModel", "vanishes", "()Z"⟩, 52)]
theorem lw_r5 : ∀ q ∈ lw_privs_5, lw_okq q := List.forall_mem_cons.mpr ⟨lw_p64, List.forall_mem_cons.mpr ⟨lw_p65, List.forall_mem_cons.mpr ⟨lw_p66, List.forall_mem_cons.mpr ⟨lw_p67, List.forall_mem_cons.mpr ⟨lw_p68, List.forall_mem_cons.mpr ⟨lw_p69, List.forall_mem_cons.mpr ⟨lw_p70, List.forall_mem_cons.mpr ⟨lw_p71, List.forall_mem_cons.mpr ⟨lw_p72, List.forall_mem_cons.mpr ⟨lw_p73, List.forall_mem_cons.mpr ⟨lw_p74, List.forall_mem_cons.mpr ⟨lw_p75, List.forall_mem_cons.mpr ⟨lw_p76, List.forall_mem_cons.mpr ⟨lw_p77, List.forall_mem_cons.mpr ⟨lw_p78, List.forall_mem_cons.mpr ⟨lw_p79, fun _ h => absurd h List.not_mem_nil⟩⟩⟩⟩⟩⟩⟩⟩⟩⟩⟩⟩⟩⟩⟩⟩
theorem lw_p80 : lw_okq (⟨"StraightPolysModel", "divides", "()Z"⟩, 52) := ⟨⟨by decide +kernel, by decide +kernel⟩, List.mem_of_getElem? (i := 1406) (by decide +kernel), List.mem_of_getElem? (i := 1720) (by decide +kernel), List.mem_of_getElem? (i := 1721) (by decide +kernel)⟩
theorem lw_p81 : lw_okq (⟨"StraightPolysModel", "lead", "()I"⟩, 52) := ⟨⟨by decide +kernel, by decide +kernel⟩, List.mem_of_getElem? (i := 1406) (by decide +kernel), List.mem_of_getElem? (i := 1724) (by decide +kernel), List.mem_of_getElem? (i := 1725) (by decide +kernel)⟩
theorem lw_p82 : lw_okq (⟨"StraightPolysModel", "steps", "(II)Z"⟩, 52) := ⟨⟨by decide +kernel, by decide +kernel⟩, List.mem_of_getElem? (i := 1406) (by decide +kernel), List.mem_of_getElem? (i := 1728) (by decide +kernel), List.mem_of_getElem? (i := 1729) (by decide +kernel)⟩
theorem lw_p83 : lw_okq (⟨"StraightPolysModel", "layRow", "(II)V"⟩, 52) := ⟨⟨by decide +kernel, by decide +kernel⟩, List.mem_of_getElem? (i := 1406) (by decide +kernel), List.mem_of_getElem? (i := 1735) (by decide +kernel), List.mem_of_getElem? (i := 1736) (by decide +kernel)⟩
theorem lw_p84 : lw_okq (⟨"StraightPolysModel", "common", "(III)Z"⟩, 52) := ⟨⟨by decide +kernel, by decide +kernel⟩, List.mem_of_getElem? (i := 1406) (by decide +kernel), List.mem_of_getElem? (i := 1739) (by decide +kernel), List.mem_of_getElem? (i := 1740) (by decide +kernel)⟩
theorem lw_p85 : lw_okq (⟨"StraightPolysModel", "spread", "(I[I)V"⟩, 52) := ⟨⟨by decide +kernel, by decide +kernel⟩, List.mem_of_getElem? (i := 1406) (by decide +kernel), List.mem_of_getElem? (i := 1743) (by decide +kernel), List.mem_of_getElem? (i := 1744) (by decide +kernel)⟩
theorem lw_p86 : lw_okq (⟨"StraightPolysModel", "leaves", "([I[I)V"⟩, 52) := ⟨⟨by decide +kernel, by decide +kernel⟩, List.mem_of_getElem? (i := 1406) (by decide +kernel), List.mem_of_getElem? (i := 1750) (by decide +kernel), List.mem_of_getElem? (i := 1751) (by decide +kernel)⟩
theorem lw_p87 : lw_okq (⟨"StraightPolysModel", "inverse", "(I)I"⟩, 52) := ⟨⟨by decide +kernel, by decide +kernel⟩, List.mem_of_getElem? (i := 1406) (by decide +kernel), List.mem_of_getElem? (i := 1754) (by decide +kernel), List.mem_of_getElem? (i := 1755) (by decide +kernel)⟩
theorem lw_p88 : lw_okq (⟨"StraightPolysModel", "turned", "(III)Z"⟩, 52) := ⟨⟨by decide +kernel, by decide +kernel⟩, List.mem_of_getElem? (i := 1406) (by decide +kernel), List.mem_of_getElem? (i := 1758) (by decide +kernel), List.mem_of_getElem? (i := 1759) (by decide +kernel)⟩
theorem lw_p89 : lw_okq (⟨"StraightPolysModel", "become", "(II)I"⟩, 52) := ⟨⟨by decide +kernel, by decide +kernel⟩, List.mem_of_getElem? (i := 1406) (by decide +kernel), List.mem_of_getElem? (i := 1765) (by decide +kernel), List.mem_of_getElem? (i := 1766) (by decide +kernel)⟩
theorem lw_p90 : lw_okq (⟨"StraightPolysModel", "keep", "(I)V"⟩, 52) := ⟨⟨by decide +kernel, by decide +kernel⟩, List.mem_of_getElem? (i := 1406) (by decide +kernel), List.mem_of_getElem? (i := 1769) (by decide +kernel), List.mem_of_getElem? (i := 1770) (by decide +kernel)⟩
theorem lw_p91 : lw_okq (⟨"StraightPolysModel", "putsTerm", "(III)V"⟩, 52) := ⟨⟨by decide +kernel, by decide +kernel⟩, List.mem_of_getElem? (i := 1406) (by decide +kernel), List.mem_of_getElem? (i := 1777) (by decide +kernel), List.mem_of_getElem? (i := 1778) (by decide +kernel)⟩
theorem lw_p92 : lw_okq (⟨"StraightPolysModel", "gathersPuts", "(I)Z"⟩, 52) := ⟨⟨by decide +kernel, by decide +kernel⟩, List.mem_of_getElem? (i := 1406) (by decide +kernel), List.mem_of_getElem? (i := 1781) (by decide +kernel), List.mem_of_getElem? (i := 1782) (by decide +kernel)⟩
theorem lw_p93 : lw_okq (⟨"StraightPolysModel", "powerOf", "(II)I"⟩, 52) := ⟨⟨by decide +kernel, by decide +kernel⟩, List.mem_of_getElem? (i := 1406) (by decide +kernel), List.mem_of_getElem? (i := 1789) (by decide +kernel), List.mem_of_getElem? (i := 1790) (by decide +kernel)⟩
theorem lw_p94 : lw_okq (⟨"StraightPolysModel", "fail", "(I)I"⟩, 52) := ⟨⟨by decide +kernel, by decide +kernel⟩, List.mem_of_getElem? (i := 1406) (by decide +kernel), List.mem_of_getElem? (i := 1797) (by decide +kernel), List.mem_of_getElem? (i := 1798) (by decide +kernel)⟩
theorem lw_p95 : lw_okq (⟨"StraightPolysModel", "degreeOf", "(I)I"⟩, 52) := ⟨⟨by decide +kernel, by decide +kernel⟩, List.mem_of_getElem? (i := 1406) (by decide +kernel), List.mem_of_getElem? (i := 1801) (by decide +kernel), List.mem_of_getElem? (i := 1802) (by decide +kernel)⟩
def lw_privs_6 : List (MethodName × Nat) := [(⟨"StraightPolysModel", "divides", "()Z"⟩, 52), (⟨"StraightPolysModel", "lead", "()I"⟩, 52), (⟨"StraightPolysModel", "steps", "(II)Z"⟩, 52), (⟨"StraightPolysModel", "layRow", "(II)V"⟩, 52), (⟨"StraightPolysModel", "common", "(III)Z"⟩, 52), (⟨"StraightPolysModel", "spread", "(I[I)V"⟩, 52), (⟨"StraightPolysModel", "leaves", "([I[I)V"⟩, 52), (⟨"StraightPolysModel", "inverse", "(I)I"⟩, 52), (⟨"StraightPolysModel", "turned", "(III)Z"⟩, 52), (⟨"StraightPolysModel", "become", "(II)I"⟩, 52), (⟨"StraightPolysModel", "keep", "(I)V"⟩, 52), (⟨"StraightPolysModel", "putsTerm", "(III)V"⟩, 52), (⟨"StraightPolysModel", "gathersPuts", "(I)Z"⟩, 52), (⟨"StraightPolysModel", "powerOf", "(II)I"⟩, 52), (⟨"StraightPolysModel", "fail", "(I)I"⟩, 52), (⟨"StraightPolysModel", "degreeOf", "(I)I"⟩, 52)]
theorem lw_r6 : ∀ q ∈ lw_privs_6, lw_okq q := List.forall_mem_cons.mpr ⟨lw_p80, List.forall_mem_cons.mpr ⟨lw_p81, List.forall_mem_cons.mpr ⟨lw_p82, List.forall_mem_cons.mpr ⟨lw_p83, List.forall_mem_cons.mpr ⟨lw_p84, List.forall_mem_cons.mpr ⟨lw_p85, List.forall_mem_cons.mpr ⟨lw_p86, List.forall_mem_cons.mpr ⟨lw_p87, List.forall_mem_cons.mpr ⟨lw_p88, List.forall_mem_cons.mpr ⟨lw_p89, List.forall_mem_cons.mpr ⟨lw_p90, List.forall_mem_cons.mpr ⟨lw_p91, List.forall_mem_cons.mpr ⟨lw_p92, List.forall_mem_cons.mpr ⟨lw_p93, List.forall_mem_cons.mpr ⟨lw_p94, List.forall_mem_cons.mpr ⟨lw_p95, fun _ h => absurd h List.not_mem_nil⟩⟩⟩⟩⟩⟩⟩⟩⟩⟩⟩⟩⟩⟩⟩⟩
theorem lw_p96 : lw_okq (⟨"StraightPolysModel", "zeros", "(I)I"⟩, 52) := ⟨⟨by decide +kernel, by decide +kernel⟩, List.mem_of_getElem? (i := 1406) (by decide +kernel), List.mem_of_getElem? (i := 1805) (by decide +kernel), List.mem_of_getElem? (i := 1806) (by decide +kernel)⟩
theorem lw_p97 : lw_okq (⟨"StraightPolysModel", "factors", "(IZ)I"⟩, 52) := ⟨⟨by decide +kernel, by decide +kernel⟩, List.mem_of_getElem? (i := 1406) (by decide +kernel), List.mem_of_getElem? (i := 1809) (by decide +kernel), List.mem_of_getElem? (i := 1810) (by decide +kernel)⟩
theorem lw_p98 : lw_okq (⟨"StraightPolysModel", "oftenOf", "(I)I"⟩, 52) := ⟨⟨by decide +kernel, by decide +kernel⟩, List.mem_of_getElem? (i := 1406) (by decide +kernel), List.mem_of_getElem? (i := 1813) (by decide +kernel), List.mem_of_getElem? (i := 1814) (by decide +kernel)⟩
theorem lw_p99 : lw_okq (⟨"StraightPolysModel", "isOfOneDegree", "(I)Z"⟩, 52) := ⟨⟨by decide +kernel, by decide +kernel⟩, List.mem_of_getElem? (i := 1406) (by decide +kernel), List.mem_of_getElem? (i := 1818) (by decide +kernel), List.mem_of_getElem? (i := 1819) (by decide +kernel)⟩
theorem lw_p100 : lw_okq (⟨"StraightPolysModel", "placeOf", "(III)I"⟩, 52) := ⟨⟨by decide +kernel, by decide +kernel⟩, List.mem_of_getElem? (i := 1406) (by decide +kernel), List.mem_of_getElem? (i := 1834) (by decide +kernel), List.mem_of_getElem? (i := 1835) (by decide +kernel)⟩
theorem lw_p101 : lw_okq (⟨"StraightPolysModel", "isPoint", "(III)Z"⟩, 52) := ⟨⟨by decide +kernel, by decide +kernel⟩, List.mem_of_getElem? (i := 1406) (by decide +kernel), List.mem_of_getElem? (i := 1849) (by decide +kernel), List.mem_of_getElem? (i := 1850) (by decide +kernel)⟩
theorem lw_p102 : lw_okq (⟨"StraightPolysModel", "witnessOf", "(II)I"⟩, 52) := ⟨⟨by decide +kernel, by decide +kernel⟩, List.mem_of_getElem? (i := 1406) (by decide +kernel), List.mem_of_getElem? (i := 1857) (by decide +kernel), List.mem_of_getElem? (i := 1858) (by decide +kernel)⟩
theorem lw_p103 : lw_okq (⟨"StraightPolysModel", "areSame", "(II)Z"⟩, 52) := ⟨⟨by decide +kernel, by decide +kernel⟩, List.mem_of_getElem? (i := 1406) (by decide +kernel), List.mem_of_getElem? (i := 1861) (by decide +kernel), List.mem_of_getElem? (i := 1862) (by decide +kernel)⟩
theorem lw_p104 : lw_okq (⟨"StraightPolysModel", "writes", "(I)V"⟩, 52) := ⟨⟨by decide +kernel, by decide +kernel⟩, List.mem_of_getElem? (i := 1406) (by decide +kernel), List.mem_of_getElem? (i := 1873) (by decide +kernel), List.mem_of_getElem? (i := 1874) (by decide +kernel)⟩
theorem lw_p105 : lw_okq (⟨"StraightPolysModel", "writesTerm", "(II)V"⟩, 52) := ⟨⟨by decide +kernel, by decide +kernel⟩, List.mem_of_getElem? (i := 1406) (by decide +kernel), List.mem_of_getElem? (i := 1877) (by decide +kernel), List.mem_of_getElem? (i := 1878) (by decide +kernel)⟩
theorem lw_p106 : lw_okq (⟨"StraightPolysModel", "writesNumber", "(I)V"⟩, 52) := ⟨⟨by decide +kernel, by decide +kernel⟩, List.mem_of_getElem? (i := 1406) (by decide +kernel), List.mem_of_getElem? (i := 1881) (by decide +kernel), List.mem_of_getElem? (i := 1882) (by decide +kernel)⟩
theorem lw_p107 : lw_okq (⟨"StraightPolysModel", "opens", "(I)V"⟩, 52) := ⟨⟨by decide +kernel, by decide +kernel⟩, List.mem_of_getElem? (i := 1406) (by decide +kernel), List.mem_of_getElem? (i := 1897) (by decide +kernel), List.mem_of_getElem? (i := 1898) (by decide +kernel)⟩
theorem lw_p108 : lw_okq (⟨"StraightPolysModel", "next", "()V"⟩, 52) := ⟨⟨by decide +kernel, by decide +kernel⟩, List.mem_of_getElem? (i := 1406) (by decide +kernel), List.mem_of_getElem? (i := 1901) (by decide +kernel), List.mem_of_getElem? (i := 1902) (by decide +kernel)⟩
theorem lw_p109 : lw_okq (⟨"StraightPolysModel", "byteAt", "(I)I"⟩, 52) := ⟨⟨by decide +kernel, by decide +kernel⟩, List.mem_of_getElem? (i := 1406) (by decide +kernel), List.mem_of_getElem? (i := 1905) (by decide +kernel), List.mem_of_getElem? (i := 1906) (by decide +kernel)⟩
theorem lw_p110 : lw_okq (⟨"StraightPolysModel", "readProgram", "()V"⟩, 52) := ⟨⟨by decide +kernel, by decide +kernel⟩, List.mem_of_getElem? (i := 1406) (by decide +kernel), List.mem_of_getElem? (i := 1912) (by decide +kernel), List.mem_of_getElem? (i := 1913) (by decide +kernel)⟩
theorem lw_p111 : lw_okq (⟨"StraightPolysModel", "readStep", "()V"⟩, 52) := ⟨⟨by decide +kernel, by decide +kernel⟩, List.mem_of_getElem? (i := 1406) (by decide +kernel), List.mem_of_getElem? (i := 1916) (by decide +kernel), List.mem_of_getElem? (i := 1917) (by decide +kernel)⟩
def lw_privs_7 : List (MethodName × Nat) := [(⟨"StraightPolysModel", "zeros", "(I)I"⟩, 52), (⟨"StraightPolysModel", "factors", "(IZ)I"⟩, 52), (⟨"StraightPolysModel", "oftenOf", "(I)I"⟩, 52), (⟨"StraightPolysModel", "isOfOneDegree", "(I)Z"⟩, 52), (⟨"StraightPolysModel", "placeOf", "(III)I"⟩, 52), (⟨"StraightPolysModel", "isPoint", "(III)Z"⟩, 52), (⟨"StraightPolysModel", "witnessOf", "(II)I"⟩, 52), (⟨"StraightPolysModel", "areSame", "(II)Z"⟩, 52), (⟨"StraightPolysModel", "writes", "(I)V"⟩, 52), (⟨"StraightPolysModel", "writesTerm", "(II)V"⟩, 52), (⟨"StraightPolysModel", "writesNumber", "(I)V"⟩, 52), (⟨"StraightPolysModel", "opens", "(I)V"⟩, 52), (⟨"StraightPolysModel", "next", "()V"⟩, 52), (⟨"StraightPolysModel", "byteAt", "(I)I"⟩, 52), (⟨"StraightPolysModel", "readProgram", "()V"⟩, 52), (⟨"StraightPolysModel", "readStep", "()V"⟩, 52)]
theorem lw_r7 : ∀ q ∈ lw_privs_7, lw_okq q := List.forall_mem_cons.mpr ⟨lw_p96, List.forall_mem_cons.mpr ⟨lw_p97, List.forall_mem_cons.mpr ⟨lw_p98, List.forall_mem_cons.mpr ⟨lw_p99, List.forall_mem_cons.mpr ⟨lw_p100, List.forall_mem_cons.mpr ⟨lw_p101, List.forall_mem_cons.mpr ⟨lw_p102, List.forall_mem_cons.mpr ⟨lw_p103, List.forall_mem_cons.mpr ⟨lw_p104, List.forall_mem_cons.mpr ⟨lw_p105, List.forall_mem_cons.mpr ⟨lw_p106, List.forall_mem_cons.mpr ⟨lw_p107, List.forall_mem_cons.mpr ⟨lw_p108, List.forall_mem_cons.mpr ⟨lw_p109, List.forall_mem_cons.mpr ⟨lw_p110, List.forall_mem_cons.mpr ⟨lw_p111, fun _ h => absurd h List.not_mem_nil⟩⟩⟩⟩⟩⟩⟩⟩⟩⟩⟩⟩⟩⟩⟩⟩
theorem lw_p112 : lw_okq (⟨"StraightPolysModel", "wrong", "(I)V"⟩, 52) := ⟨⟨by decide +kernel, by decide +kernel⟩, List.mem_of_getElem? (i := 1406) (by decide +kernel), List.mem_of_getElem? (i := 1920) (by decide +kernel), List.mem_of_getElem? (i := 1921) (by decide +kernel)⟩
theorem lw_p113 : lw_okq (⟨"StraightPolysModel", "named", "(I)I"⟩, 52) := ⟨⟨by decide +kernel, by decide +kernel⟩, List.mem_of_getElem? (i := 1406) (by decide +kernel), List.mem_of_getElem? (i := 1924) (by decide +kernel), List.mem_of_getElem? (i := 1925) (by decide +kernel)⟩
theorem lw_p114 : lw_okq (⟨"StraightPolysModel", "pass", "()V"⟩, 52) := ⟨⟨by decide +kernel, by decide +kernel⟩, List.mem_of_getElem? (i := 1406) (by decide +kernel), List.mem_of_getElem? (i := 1928) (by decide +kernel), List.mem_of_getElem? (i := 1929) (by decide +kernel)⟩
theorem lw_p115 : lw_okq (⟨"StraightPolysModel", "isSign", "(I)Z"⟩, 52) := ⟨⟨by decide +kernel, by decide +kernel⟩, List.mem_of_getElem? (i := 1406) (by decide +kernel), List.mem_of_getElem? (i := 1932) (by decide +kernel), List.mem_of_getElem? (i := 1933) (by decide +kernel)⟩
theorem lw_p116 : lw_okq (⟨"StraightPolysModel", "readAtom", "(I)V"⟩, 52) := ⟨⟨by decide +kernel, by decide +kernel⟩, List.mem_of_getElem? (i := 1406) (by decide +kernel), List.mem_of_getElem? (i := 1936) (by decide +kernel), List.mem_of_getElem? (i := 1937) (by decide +kernel)⟩
theorem lw_p117 : lw_okq (⟨"StraightPolysModel", "readNumber", "(I)I"⟩, 52) := ⟨⟨by decide +kernel, by decide +kernel⟩, List.mem_of_getElem? (i := 1406) (by decide +kernel), List.mem_of_getElem? (i := 1940) (by decide +kernel), List.mem_of_getElem? (i := 1941) (by decide +kernel)⟩
theorem lw_p118 : lw_okq (⟨"StraightPolysModel", "makesStep", "(I)Z"⟩, 52) := ⟨⟨by decide +kernel, by decide +kernel⟩, List.mem_of_getElem? (i := 1406) (by decide +kernel), List.mem_of_getElem? (i := 1944) (by decide +kernel), List.mem_of_getElem? (i := 1945) (by decide +kernel)⟩
theorem lw_p119 : lw_okq (⟨"StraightPolysModel", "atom", "(II)V"⟩, 52) := ⟨⟨by decide +kernel, by decide +kernel⟩, List.mem_of_getElem? (i := 1406) (by decide +kernel), List.mem_of_getElem? (i := 1948) (by decide +kernel), List.mem_of_getElem? (i := 1949) (by decide +kernel)⟩
theorem lw_p120 : lw_okq (⟨"StraightPolysModel", "takesProgram", "()V"⟩, 52) := ⟨⟨by decide +kernel, by decide +kernel⟩, List.mem_of_getElem? (i := 1406) (by decide +kernel), List.mem_of_getElem? (i := 1952) (by decide +kernel), List.mem_of_getElem? (i := 1953) (by decide +kernel)⟩
theorem lw_p121 : lw_okq (⟨"StraightPolysModel", "boundOf", "(I)I"⟩, 52) := ⟨⟨by decide +kernel, by decide +kernel⟩, List.mem_of_getElem? (i := 1406) (by decide +kernel), List.mem_of_getElem? (i := 1960) (by decide +kernel), List.mem_of_getElem? (i := 1961) (by decide +kernel)⟩
theorem lw_p122 : lw_okq (⟨"StraightPolysModel", "boundOfAtom", "(I)I"⟩, 52) := ⟨⟨by decide +kernel, by decide +kernel⟩, List.mem_of_getElem? (i := 1406) (by decide +kernel), List.mem_of_getElem? (i := 1964) (by decide +kernel), List.mem_of_getElem? (i := 1965) (by decide +kernel)⟩
theorem lw_p123 : lw_okq (⟨"StraightPolysModel", "isStoodOn", "(I)Z"⟩, 52) := ⟨⟨by decide +kernel, by decide +kernel⟩, List.mem_of_getElem? (i := 1406) (by decide +kernel), List.mem_of_getElem? (i := 1969) (by decide +kernel), List.mem_of_getElem? (i := 1970) (by decide +kernel)⟩
theorem lw_p124 : lw_okq (⟨"StraightPolysModel", "has", "(II)Z"⟩, 52) := ⟨⟨by decide +kernel, by decide +kernel⟩, List.mem_of_getElem? (i := 1406) (by decide +kernel), List.mem_of_getElem? (i := 1973) (by decide +kernel), List.mem_of_getElem? (i := 1974) (by decide +kernel)⟩
theorem lw_p125 : lw_okq (⟨"StraightPolysModel", "isName", "(I)Z"⟩, 52) := ⟨⟨by decide +kernel, by decide +kernel⟩, List.mem_of_getElem? (i := 1406) (by decide +kernel), List.mem_of_getElem? (i := 1977) (by decide +kernel), List.mem_of_getElem? (i := 1978) (by decide +kernel)⟩
theorem lw_p126 : lw_okq (⟨"StraightPolysModel", "layStep", "(IIIII)V"⟩, 52) := ⟨⟨by decide +kernel, by decide +kernel⟩, List.mem_of_getElem? (i := 1406) (by decide +kernel), List.mem_of_getElem? (i := 1985) (by decide +kernel), List.mem_of_getElem? (i := 1986) (by decide +kernel)⟩
theorem lw_p127 : lw_okq (⟨"StraightPolysModel", "valueOfAtom", "(IIII)I"⟩, 52) := ⟨⟨by decide +kernel, by decide +kernel⟩, List.mem_of_getElem? (i := 1406) (by decide +kernel), List.mem_of_getElem? (i := 1989) (by decide +kernel), List.mem_of_getElem? (i := 1990) (by decide +kernel)⟩
def lw_privs_8 : List (MethodName × Nat) := [(⟨"StraightPolysModel", "wrong", "(I)V"⟩, 52), (⟨"StraightPolysModel", "named", "(I)I"⟩, 52), (⟨"StraightPolysModel", "pass", "()V"⟩, 52), (⟨"StraightPolysModel", "isSign", "(I)Z"⟩, 52), (⟨"StraightPolysModel", "readAtom", "(I)V"⟩, 52), (⟨"StraightPolysModel", "readNumber", "(I)I"⟩, 52), (⟨"StraightPolysModel", "makesStep", "(I)Z"⟩, 52), (⟨"StraightPolysModel", "atom", "(II)V"⟩, 52), (⟨"StraightPolysModel", "takesProgram", "()V"⟩, 52), (⟨"StraightPolysModel", "boundOf", "(I)I"⟩, 52), (⟨"StraightPolysModel", "boundOfAtom", "(I)I"⟩, 52), (⟨"StraightPolysModel", "isStoodOn", "(I)Z"⟩, 52), (⟨"StraightPolysModel", "has", "(II)Z"⟩, 52), (⟨"StraightPolysModel", "isName", "(I)Z"⟩, 52), (⟨"StraightPolysModel", "layStep", "(IIIII)V"⟩, 52), (⟨"StraightPolysModel", "valueOfAtom", "(IIII)I"⟩, 52)]
theorem lw_r8 : ∀ q ∈ lw_privs_8, lw_okq q := List.forall_mem_cons.mpr ⟨lw_p112, List.forall_mem_cons.mpr ⟨lw_p113, List.forall_mem_cons.mpr ⟨lw_p114, List.forall_mem_cons.mpr ⟨lw_p115, List.forall_mem_cons.mpr ⟨lw_p116, List.forall_mem_cons.mpr ⟨lw_p117, List.forall_mem_cons.mpr ⟨lw_p118, List.forall_mem_cons.mpr ⟨lw_p119, List.forall_mem_cons.mpr ⟨lw_p120, List.forall_mem_cons.mpr ⟨lw_p121, List.forall_mem_cons.mpr ⟨lw_p122, List.forall_mem_cons.mpr ⟨lw_p123, List.forall_mem_cons.mpr ⟨lw_p124, List.forall_mem_cons.mpr ⟨lw_p125, List.forall_mem_cons.mpr ⟨lw_p126, List.forall_mem_cons.mpr ⟨lw_p127, fun _ h => absurd h List.not_mem_nil⟩⟩⟩⟩⟩⟩⟩⟩⟩⟩⟩⟩⟩⟩⟩⟩
theorem lw_p128 : lw_okq (⟨"StraightPolysModel", "turnOfAtom", "(II)I"⟩, 52) := ⟨⟨by decide +kernel, by decide +kernel⟩, List.mem_of_getElem? (i := 1406) (by decide +kernel), List.mem_of_getElem? (i := 1993) (by decide +kernel), List.mem_of_getElem? (i := 1994) (by decide +kernel)⟩
def lw_privs_9 : List (MethodName × Nat) := [(⟨"StraightPolysModel", "turnOfAtom", "(II)I"⟩, 52)]
theorem lw_r9 : ∀ q ∈ lw_privs_9, lw_okq q := List.forall_mem_cons.mpr ⟨lw_p128, fun _ h => absurd h List.not_mem_nil⟩
def lw_privs : List (MethodName × Nat) := lw_privs_1 ++ (lw_privs_2 ++ (lw_privs_3 ++ (lw_privs_4 ++ (lw_privs_5 ++ (lw_privs_6 ++ (lw_privs_7 ++ (lw_privs_8 ++ (lw_privs_9))))))))
def lw_tbl : List Cond := k2_sels lw_privs ++ tables_1
theorem lw_privs_ok : ∀ q ∈ lw_privs, lw_okq q := by
  show ∀ q ∈ lw_privs_1 ++ (lw_privs_2 ++ (lw_privs_3 ++ (lw_privs_4 ++ (lw_privs_5 ++ (lw_privs_6 ++ (lw_privs_7 ++ (lw_privs_8 ++ (lw_privs_9)))))))), lw_okq q
  exact List.forall_mem_append.mpr ⟨lw_r1, List.forall_mem_append.mpr ⟨lw_r2, List.forall_mem_append.mpr ⟨lw_r3, List.forall_mem_append.mpr ⟨lw_r4, List.forall_mem_append.mpr ⟨lw_r5, List.forall_mem_append.mpr ⟨lw_r6, List.forall_mem_append.mpr ⟨lw_r7, List.forall_mem_append.mpr ⟨lw_r8, lw_r9⟩⟩⟩⟩⟩⟩⟩⟩
def RX0 : String := "StraightPolys$Acts"
def TX0 : u_T := fun k => match k with
  | 0 => ("StraightPolys$Acts", "size", "I", false)
  | 1 => ("StraightPolys$Acts", "next", "I", false)
  | 2 => ("StraightPolys$Acts", "where", "[I", true)
  | _ => ("StraightPolys$Acts", "before", "[LStraightPolys$Poly;", true)
def tyX0 : Nat → FieldType := fun k => match k with
  | 0 => .int
  | 1 => .int
  | 2 => .array .int
  | _ => .array (.object "StraightPolys$Poly")
abbrev wsX00 : List Cond := u_ws RX0 TX0 4
theorem nmX0 : ∀ a, a < 4 → ∀ b, b < 4 → a ≠ b → (TX0 a).2.1 ≠ (TX0 b).2.1 := by decide +kernel
theorem tyX0_ok : ∀ k, k < 4 → parseFieldDescriptor (TX0 k).2.2.1 = some (tyX0 k) := by decide +kernel
abbrev cX0_init : ByteArray := prog_2_method_1_code
def yX0_init : MethodName := ⟨RX0, "<init>", "()V"⟩
abbrev cX0_forget : ByteArray := prog_2_method_2_code
def yX0_forget : MethodName := ⟨RX0, "forget", "()V"⟩
abbrev cX0_note : ByteArray := prog_2_method_3_code
def yX0_note : MethodName := ⟨RX0, "note", "(ILStraightPolys$Poly;)V"⟩
abbrev cX0_takeBack : ByteArray := prog_2_method_4_code
def yX0_takeBack : MethodName := ⟨RX0, "takeBack", "([LStraightPolys$Poly;)V"⟩
def RX1 : String := "StraightPolys$Box"
def TX1 : u_T := fun k => match k with
  | 0 => ("StraightPolys$Box", "cells", "[I", false)
  | 1 => ("StraightPolys$Box", "used", "I", false)
  | _ => ("StraightPolys$Box", "strides", "[I", true)
def tyX1 : Nat → FieldType := fun k => match k with
  | 0 => .array .int
  | 1 => .int
  | _ => .array .int
abbrev wsX10 : List Cond := u_ws RX1 TX1 3
theorem nmX1 : ∀ a, a < 3 → ∀ b, b < 3 → a ≠ b → (TX1 a).2.1 ≠ (TX1 b).2.1 := by decide +kernel
theorem tyX1_ok : ∀ k, k < 3 → parseFieldDescriptor (TX1 k).2.2.1 = some (tyX1 k) := by decide +kernel
abbrev cX1_init : ByteArray := prog_3_method_1_code
def yX1_init : MethodName := ⟨RX1, "<init>", "()V"⟩
abbrev cX1_open : ByteArray := prog_3_method_2_code
def yX1_open : MethodName := ⟨RX1, "open", "(III)V"⟩
abbrev cX1_narrow : ByteArray := prog_3_method_3_code
def yX1_narrow : MethodName := ⟨RX1, "narrow", "(III)V"⟩
abbrev cX1_cellOf : ByteArray := prog_3_method_4_code
def yX1_cellOf : MethodName := ⟨RX1, "cellOf", "(I)I"⟩
abbrev cX1_copyFrom : ByteArray := prog_3_method_5_code
def yX1_copyFrom : MethodName := ⟨RX1, "copyFrom", "(LStraightPolys$Box;)V"⟩
abbrev cX1_readInto : ByteArray := prog_3_method_6_code
def yX1_readInto : MethodName := ⟨RX1, "readInto", "(LStraightPolys$Poly;I)V"⟩
abbrev cX1_pushCell : ByteArray := prog_3_method_7_code
def yX1_pushCell : MethodName := ⟨RX1, "pushCell", "(LStraightPolys$Poly;II)V"⟩
def RX2 : String := "StraightPolys$Factors"
def TX2 : u_T := fun k => match k with
  | 0 => ("StraightPolys$Factors", "rows", "[I", true)
  | 1 => ("StraightPolys$Factors", "size", "I", false)
  | 2 => ("StraightPolys$Factors", "none", "LStraightPolys$Poly;", true)
  | 3 => ("StraightPolys$Factors", "scratch", "LStraightPolys$Poly;", true)
  | 4 => ("StraightPolys$Factors", "whole", "LStraightPolys$Points;", true)
  | 5 => ("StraightPolys$Factors", "highest", "LStraightPolys$Points;", true)
  | 6 => ("StraightPolys$Factors", "left", "LStraightPolys$Box;", true)
  | 7 => ("StraightPolys$Factors", "trial", "LStraightPolys$Box;", true)
  | 8 => ("StraightPolys$Factors", "degrees", "[I", true)
  | 9 => ("StraightPolys$Factors", "degree", "I", false)
  | 10 => ("StraightPolys$Factors", "timesOfVariable", "[I", true)
  | 11 => ("StraightPolys$Factors", "line", "LStraightPolys$Line;", true)
  | 12 => ("StraightPolys$Factors", "p", "I", false)
  | _ => ("StraightPolys$Factors", "found", "LStraightPolys$Poly;", false)
def tyX2 : Nat → FieldType := fun k => match k with
  | 0 => .array .int
  | 1 => .int
  | 2 => .object "StraightPolys$Poly"
  | 3 => .object "StraightPolys$Poly"
  | 4 => .object "StraightPolys$Points"
  | 5 => .object "StraightPolys$Points"
  | 6 => .object "StraightPolys$Box"
  | 7 => .object "StraightPolys$Box"
  | 8 => .array .int
  | 9 => .int
  | 10 => .array .int
  | 11 => .object "StraightPolys$Line"
  | 12 => .int
  | _ => .object "StraightPolys$Poly"
abbrev wsX20 : List Cond := u_ws RX2 TX2 14
theorem nmX2 : ∀ a, a < 14 → ∀ b, b < 14 → a ≠ b → (TX2 a).2.1 ≠ (TX2 b).2.1 := by decide +kernel
theorem tyX2_ok : ∀ k, k < 14 → parseFieldDescriptor (TX2 k).2.2.1 = some (tyX2 k) := by decide +kernel
abbrev cX2_init : ByteArray := prog_4_method_1_code
def yX2_init : MethodName := ⟨RX2, "<init>", "()V"⟩
abbrev cX2_forget : ByteArray := prog_4_method_2_code
def yX2_forget : MethodName := ⟨RX2, "forget", "()V"⟩
abbrev cX2_find : ByteArray := prog_4_method_3_code
def yX2_find : MethodName := ⟨RX2, "find", "(LStraightPolys$Poly;I)V"⟩
abbrev cX2_inAll : ByteArray := prog_4_method_4_code
def yX2_inAll : MethodName := ⟨RX2, "inAll", "()I"⟩
abbrev cX2_rest : ByteArray := prog_4_method_5_code
def yX2_rest : MethodName := ⟨RX2, "rest", "()LStraightPolys$Poly;"⟩
abbrev cX2_timesOf : ByteArray := prog_4_method_6_code
def yX2_timesOf : MethodName := ⟨RX2, "timesOf", "(LStraightPolys$Poly;ILStraightPolys$Line;)I"⟩
abbrev cX2_layOut : ByteArray := prog_4_method_7_code
def yX2_layOut : MethodName := ⟨RX2, "layOut", "(LStraightPolys$Poly;I)V"⟩
abbrev cX2_loadHighest : ByteArray := prog_4_method_8_code
def yX2_loadHighest : MethodName := ⟨RX2, "loadHighest", "(LStraightPolys$Poly;)V"⟩
abbrev cX2_tryLines : ByteArray := prog_4_method_9_code
def yX2_tryLines : MethodName := ⟨RX2, "tryLines", "(III)V"⟩
abbrev cX2_note : ByteArray := prog_4_method_10_code
def yX2_note : MethodName := ⟨RX2, "note", "(IIIII)V"⟩
abbrev cX2_takeOut : ByteArray := prog_4_method_11_code
def yX2_takeOut : MethodName := ⟨RX2, "takeOut", "(LStraightPolys$Line;)I"⟩
abbrev cX2_canGoIn : ByteArray := prog_4_method_12_code
def yX2_canGoIn : MethodName := ⟨RX2, "canGoIn", "(LStraightPolys$Line;)Z"⟩
abbrev cX2_divide : ByteArray := prog_4_method_13_code
def yX2_divide : MethodName := ⟨RX2, "divide", "(LStraightPolys$Line;)Z"⟩
abbrev cX2_divideSlice : ByteArray := prog_4_method_14_code
def yX2_divideSlice : MethodName := ⟨RX2, "divideSlice", "(LStraightPolys$Line;I)Z"⟩
abbrev cX2_isSliceZero : ByteArray := prog_4_method_15_code
def yX2_isSliceZero : MethodName := ⟨RX2, "isSliceZero", "(LStraightPolys$Line;)Z"⟩
abbrev cX2_takeQuotient : ByteArray := prog_4_method_16_code
def yX2_takeQuotient : MethodName := ⟨RX2, "takeQuotient", "(LStraightPolys$Line;)V"⟩
def RX3 : String := "StraightPolys$Line"
def TX3 : u_T := fun k => match k with
  | 0 => ("StraightPolys$Line", "main", "I", false)
  | 1 => ("StraightPolys$Line", "first", "I", false)
  | 2 => ("StraightPolys$Line", "second", "I", false)
  | 3 => ("StraightPolys$Line", "ofFirst", "I", false)
  | 4 => ("StraightPolys$Line", "ofSecond", "I", false)
  | _ => ("StraightPolys$Line", "alone", "I", false)
def tyX3 : Nat → FieldType := fun k => match k with
  | 0 => .int
  | 1 => .int
  | 2 => .int
  | 3 => .int
  | 4 => .int
  | _ => .int
abbrev wsX30 : List Cond := u_ws RX3 TX3 6
theorem nmX3 : ∀ a, a < 6 → ∀ b, b < 6 → a ≠ b → (TX3 a).2.1 ≠ (TX3 b).2.1 := by decide +kernel
theorem tyX3_ok : ∀ k, k < 6 → parseFieldDescriptor (TX3 k).2.2.1 = some (tyX3 k) := by decide +kernel
abbrev cX3_init : ByteArray := prog_5_method_1_code
def yX3_init : MethodName := ⟨RX3, "<init>", "(IIII)V"⟩
abbrev cX3_set : ByteArray := prog_5_method_2_code
def yX3_set : MethodName := ⟨RX3, "set", "(IIII)V"⟩
abbrev cX3_isVariable : ByteArray := prog_5_method_3_code
def yX3_isVariable : MethodName := ⟨RX3, "isVariable", "()Z"⟩
def RX4 : String := "StraightPolys$Order"
def TX4 : u_T := fun k => match k with
  | _ => ("StraightPolys$Order", "codes", "[I", true)
def tyX4 : Nat → FieldType := fun k => match k with
  | _ => .array .int
abbrev wsX40 : List Cond := u_ws RX4 TX4 1
theorem nmX4 : ∀ a, a < 1 → ∀ b, b < 1 → a ≠ b → (TX4 a).2.1 ≠ (TX4 b).2.1 := by decide +kernel
theorem tyX4_ok : ∀ k, k < 1 → parseFieldDescriptor (TX4 k).2.2.1 = some (tyX4 k) := by decide +kernel
abbrev cX4_init : ByteArray := prog_6_method_1_code
def yX4_init : MethodName := ⟨RX4, "<init>", "()V"⟩
abbrev cX4_indexOf : ByteArray := prog_6_method_2_code
def yX4_indexOf : MethodName := ⟨RX4, "indexOf", "(I)I"⟩
abbrev cX4_sort : ByteArray := prog_6_method_3_code
def yX4_sort : MethodName := ⟨RX4, "sort", "(LStraightPolys$Poly;I)V"⟩
abbrev cX4_rank : ByteArray := prog_6_method_4_code
def yX4_rank : MethodName := ⟨RX4, "rank", "(II)I"⟩
abbrev cX4_sink : ByteArray := prog_6_method_5_code
def yX4_sink : MethodName := ⟨RX4, "sink", "(II)V"⟩
def RX5 : String := "StraightPolys$Points"
def TX5 : u_T := fun k => match k with
  | 0 => ("StraightPolys$Points", "values", "[I", true)
  | 1 => ("StraightPolys$Points", "row", "[I", true)
  | 2 => ("StraightPolys$Points", "p", "I", false)
  | _ => ("StraightPolys$Points", "all", "I", false)
def tyX5 : Nat → FieldType := fun k => match k with
  | 0 => .array .int
  | 1 => .array .int
  | 2 => .int
  | _ => .int
abbrev wsX50 : List Cond := u_ws RX5 TX5 4
theorem nmX5 : ∀ a, a < 4 → ∀ b, b < 4 → a ≠ b → (TX5 a).2.1 ≠ (TX5 b).2.1 := by decide +kernel
theorem tyX5_ok : ∀ k, k < 4 → parseFieldDescriptor (TX5 k).2.2.1 = some (tyX5 k) := by decide +kernel
abbrev cX5_init : ByteArray := prog_7_method_1_code
def yX5_init : MethodName := ⟨RX5, "<init>", "()V"⟩
abbrev cX5_load : ByteArray := prog_7_method_2_code
def yX5_load : MethodName := ⟨RX5, "load", "(LStraightPolys$Poly;LStraightPolys$Poly;I)V"⟩
abbrev cX5_addReduced : ByteArray := prog_7_method_3_code
def yX5_addReduced : MethodName := ⟨RX5, "addReduced", "(LStraightPolys$Poly;I)V"⟩
abbrev cX5_spread : ByteArray := prog_7_method_4_code
def yX5_spread : MethodName := ⟨RX5, "spread", "(II)V"⟩
abbrev cX5_fillRow : ByteArray := prog_7_method_5_code
def yX5_fillRow : MethodName := ⟨RX5, "fillRow", "(III)V"⟩
abbrev cX5_zeros : ByteArray := prog_7_method_6_code
def yX5_zeros : MethodName := ⟨RX5, "zeros", "()I"⟩
abbrev cX5_firstNotZero : ByteArray := prog_7_method_7_code
def yX5_firstNotZero : MethodName := ⟨RX5, "firstNotZero", "()I"⟩
abbrev cX5_stride : ByteArray := prog_7_method_8_code
def yX5_stride : MethodName := ⟨RX5, "stride", "(I)I"⟩
abbrev cX5_isZeroOn : ByteArray := prog_7_method_9_code
def yX5_isZeroOn : MethodName := ⟨RX5, "isZeroOn", "(LStraightPolys$Line;)Z"⟩
def RX6 : String := "StraightPolys$Poly"
def TX6 : u_T := fun k => match k with
  | 0 => ("StraightPolys$Poly", "keys", "[I", true)
  | 1 => ("StraightPolys$Poly", "numbers", "[I", true)
  | 2 => ("StraightPolys$Poly", "size", "I", false)
  | _ => ("StraightPolys$Poly", "over", "Z", false)
def tyX6 : Nat → FieldType := fun k => match k with
  | 0 => .array .int
  | 1 => .array .int
  | 2 => .int
  | _ => .boolean
abbrev wsX60 : List Cond := u_ws RX6 TX6 4
theorem nmX6 : ∀ a, a < 4 → ∀ b, b < 4 → a ≠ b → (TX6 a).2.1 ≠ (TX6 b).2.1 := by decide +kernel
theorem tyX6_ok : ∀ k, k < 4 → parseFieldDescriptor (TX6 k).2.2.1 = some (tyX6 k) := by decide +kernel
abbrev cX6_init : ByteArray := prog_8_method_1_code
def yX6_init : MethodName := ⟨RX6, "<init>", "(I)V"⟩
abbrev cX6_key : ByteArray := prog_8_method_2_code
def yX6_key : MethodName := ⟨RX6, "key", "(III)I"⟩
abbrev cX6_unit : ByteArray := prog_8_method_3_code
def yX6_unit : MethodName := ⟨RX6, "unit", "(I)I"⟩
abbrev cX6_exponent : ByteArray := prog_8_method_4_code
def yX6_exponent : MethodName := ⟨RX6, "exponent", "(II)I"⟩
abbrev cX6_degreeOf : ByteArray := prog_8_method_5_code
def yX6_degreeOf : MethodName := ⟨RX6, "degreeOf", "(I)I"⟩
abbrev cX6_single : ByteArray := prog_8_method_6_code
def yX6_single : MethodName := ⟨RX6, "single", "(II)LStraightPolys$Poly;"⟩
abbrev cX6_clear : ByteArray := prog_8_method_7_code
def yX6_clear : MethodName := ⟨RX6, "clear", "()V"⟩
abbrev cX6_push : ByteArray := prog_8_method_8_code
def yX6_push : MethodName := ⟨RX6, "push", "(II)V"⟩
abbrev cX6_kept : ByteArray := prog_8_method_9_code
def yX6_kept : MethodName := ⟨RX6, "kept", "()LStraightPolys$Poly;"⟩
abbrev cX6_degree : ByteArray := prog_8_method_10_code
def yX6_degree : MethodName := ⟨RX6, "degree", "()I"⟩
abbrev cX6_degreeIn : ByteArray := prog_8_method_11_code
def yX6_degreeIn : MethodName := ⟨RX6, "degreeIn", "(I)I"⟩
abbrev cX6_roomIn : ByteArray := prog_8_method_12_code
def yX6_roomIn : MethodName := ⟨RX6, "roomIn", "(I)I"⟩
abbrev cX6_leastIn : ByteArray := prog_8_method_13_code
def yX6_leastIn : MethodName := ⟨RX6, "leastIn", "(I)I"⟩
abbrev cX6_isInXAlone : ByteArray := prog_8_method_14_code
def yX6_isInXAlone : MethodName := ⟨RX6, "isInXAlone", "()Z"⟩
abbrev cX6_hasOneDegree : ByteArray := prog_8_method_15_code
def yX6_hasOneDegree : MethodName := ⟨RX6, "hasOneDegree", "()Z"⟩
abbrev cX6_numberWith : ByteArray := prog_8_method_16_code
def yX6_numberWith : MethodName := ⟨RX6, "numberWith", "(I)I"⟩
abbrev cX6_isLike : ByteArray := prog_8_method_17_code
def yX6_isLike : MethodName := ⟨RX6, "isLike", "(LStraightPolys$Poly;)Z"⟩
def RX7 : String := "StraightPolys$Program"
def TX7 : u_T := fun k => match k with
  | 0 => ("StraightPolys$Program", "size", "I", false)
  | 1 => ("StraightPolys$Program", "names", "[I", true)
  | 2 => ("StraightPolys$Program", "signs", "[I", true)
  | 3 => ("StraightPolys$Program", "lefts", "[I", true)
  | 4 => ("StraightPolys$Program", "rights", "[I", true)
  | 5 => ("StraightPolys$Program", "bounds", "[I", true)
  | 6 => ("StraightPolys$Program", "makes", "[LStraightPolys$Poly;", true)
  | 7 => ("StraightPolys$Program", "values", "[I", true)
  | 8 => ("StraightPolys$Program", "turns", "[I", true)
  | _ => ("StraightPolys$Program", "point", "[I", true)
def tyX7 : Nat → FieldType := fun k => match k with
  | 0 => .int
  | 1 => .array .int
  | 2 => .array .int
  | 3 => .array .int
  | 4 => .array .int
  | 5 => .array .int
  | 6 => .array (.object "StraightPolys$Poly")
  | 7 => .array .int
  | 8 => .array .int
  | _ => .array .int
abbrev wsX70 : List Cond := u_ws RX7 TX7 10
theorem nmX7 : ∀ a, a < 10 → ∀ b, b < 10 → a ≠ b → (TX7 a).2.1 ≠ (TX7 b).2.1 := by decide +kernel
theorem tyX7_ok : ∀ k, k < 10 → parseFieldDescriptor (TX7 k).2.2.1 = some (tyX7 k) := by decide +kernel
abbrev cX7_init : ByteArray := prog_9_method_1_code
def yX7_init : MethodName := ⟨RX7, "<init>", "()V"⟩
abbrev cX7_run : ByteArray := prog_9_method_2_code
def yX7_run : MethodName := ⟨RX7, "run", "(LStraightPolys$Ring;)Z"⟩
abbrev cX7_boundOf : ByteArray := prog_9_method_3_code
def yX7_boundOf : MethodName := ⟨RX7, "boundOf", "(I)I"⟩
abbrev cX7_atomBound : ByteArray := prog_9_method_4_code
def yX7_atomBound : MethodName := ⟨RX7, "atomBound", "(I)I"⟩
abbrev cX7_atomPoly : ByteArray := prog_9_method_5_code
def yX7_atomPoly : MethodName := ⟨RX7, "atomPoly", "(II)LStraightPolys$Poly;"⟩
abbrev cX7_lastStandsOn : ByteArray := prog_9_method_6_code
def yX7_lastStandsOn : MethodName := ⟨RX7, "lastStandsOn", "(I)Z"⟩
abbrev cX7_mark : ByteArray := prog_9_method_7_code
def yX7_mark : MethodName := ⟨RX7, "mark", "(I)V"⟩
abbrev cX7_firstLike : ByteArray := prog_9_method_8_code
def yX7_firstLike : MethodName := ⟨RX7, "firstLike", "(I)I"⟩
abbrev cX7_usersOf : ByteArray := prog_9_method_9_code
def yX7_usersOf : MethodName := ⟨RX7, "usersOf", "(I)I"⟩
abbrev cX7_findValues : ByteArray := prog_9_method_10_code
def yX7_findValues : MethodName := ⟨RX7, "findValues", "(IIII)V"⟩
abbrev cX7_stepValue : ByteArray := prog_9_method_11_code
def yX7_stepValue : MethodName := ⟨RX7, "stepValue", "(II)I"⟩
abbrev cX7_atomValue : ByteArray := prog_9_method_12_code
def yX7_atomValue : MethodName := ⟨RX7, "atomValue", "(II)I"⟩
abbrev cX7_turnOf : ByteArray := prog_9_method_13_code
def yX7_turnOf : MethodName := ⟨RX7, "turnOf", "(II)I"⟩
abbrev cX7_handBack : ByteArray := prog_9_method_14_code
def yX7_handBack : MethodName := ⟨RX7, "handBack", "(II)V"⟩
abbrev cX7_hand : ByteArray := prog_9_method_15_code
def yX7_hand : MethodName := ⟨RX7, "hand", "(III)V"⟩
def RX8 : String := "StraightPolys$Reader"
def TX8 : u_T := fun k => match k with
  | 0 => ("StraightPolys$Reader", "start", "I", false)
  | 1 => ("StraightPolys$Reader", "text", "[I", true)
  | 2 => ("StraightPolys$Reader", "length", "I", true)
  | 3 => ("StraightPolys$Reader", "told", "LStraightPolys$Program;", true)
  | 4 => ("StraightPolys$Reader", "stepNamed", "[I", true)
  | 5 => ("StraightPolys$Reader", "next", "I", false)
  | 6 => ("StraightPolys$Reader", "token", "I", false)
  | 7 => ("StraightPolys$Reader", "number", "I", false)
  | _ => ("StraightPolys$Reader", "state", "I", false)
def tyX8 : Nat → FieldType := fun k => match k with
  | 0 => .int
  | 1 => .array .int
  | 2 => .int
  | 3 => .object "StraightPolys$Program"
  | 4 => .array .int
  | 5 => .int
  | 6 => .int
  | 7 => .int
  | _ => .int
abbrev wsX80 : List Cond := u_ws RX8 TX8 9
theorem nmX8 : ∀ a, a < 9 → ∀ b, b < 9 → a ≠ b → (TX8 a).2.1 ≠ (TX8 b).2.1 := by decide +kernel
theorem tyX8_ok : ∀ k, k < 9 → parseFieldDescriptor (TX8 k).2.2.1 = some (tyX8 k) := by decide +kernel
abbrev cX8_init : ByteArray := prog_10_method_1_code
def yX8_init : MethodName := ⟨RX8, "<init>", "([IILStraightPolys$Program;)V"⟩
abbrev cX8_read : ByteArray := prog_10_method_2_code
def yX8_read : MethodName := ⟨RX8, "read", "()I"⟩
abbrev cX8_readToken : ByteArray := prog_10_method_3_code
def yX8_readToken : MethodName := ⟨RX8, "readToken", "()V"⟩
abbrev cX8_isFigure : ByteArray := prog_10_method_4_code
def yX8_isFigure : MethodName := ⟨RX8, "isFigure", "(I)Z"⟩
abbrev cX8_readNumber : ByteArray := prog_10_method_5_code
def yX8_readNumber : MethodName := ⟨RX8, "readNumber", "()V"⟩
abbrev cX8_take : ByteArray := prog_10_method_6_code
def yX8_take : MethodName := ⟨RX8, "take", "()I"⟩
abbrev cX8_go : ByteArray := prog_10_method_7_code
def yX8_go : MethodName := ⟨RX8, "go", "(I)I"⟩
abbrev cX8_takeName : ByteArray := prog_10_method_8_code
def yX8_takeName : MethodName := ⟨RX8, "takeName", "()I"⟩
abbrev cX8_takeAtom : ByteArray := prog_10_method_9_code
def yX8_takeAtom : MethodName := ⟨RX8, "takeAtom", "()I"⟩
abbrev cX8_setAtom : ByteArray := prog_10_method_10_code
def yX8_setAtom : MethodName := ⟨RX8, "setAtom", "(I)I"⟩
abbrev cX8_takeSign : ByteArray := prog_10_method_11_code
def yX8_takeSign : MethodName := ⟨RX8, "takeSign", "()I"⟩
abbrev cX8_takeExponent : ByteArray := prog_10_method_12_code
def yX8_takeExponent : MethodName := ⟨RX8, "takeExponent", "()I"⟩
abbrev cX8_takeStepEnd : ByteArray := prog_10_method_13_code
def yX8_takeStepEnd : MethodName := ⟨RX8, "takeStepEnd", "()I"⟩
def RX9 : String := "StraightPolys$Ring"
def TX9 : u_T := fun k => match k with
  | 0 => ("StraightPolys$Ring", "p", "I", false)
  | 1 => ("StraightPolys$Ring", "draft", "LStraightPolys$Poly;", true)
  | 2 => ("StraightPolys$Ring", "running", "LStraightPolys$Poly;", true)
  | 3 => ("StraightPolys$Ring", "products", "LStraightPolys$Box;", true)
  | 4 => ("StraightPolys$Ring", "sums", "LStraightPolys$Box;", true)
  | 5 => ("StraightPolys$Ring", "offsets", "[I", true)
  | 6 => ("StraightPolys$Ring", "powersOfPoint", "[I", true)
  | 7 => ("StraightPolys$Ring", "firstRow", "[I", true)
  | _ => ("StraightPolys$Ring", "secondRow", "[I", true)
def tyX9 : Nat → FieldType := fun k => match k with
  | 0 => .int
  | 1 => .object "StraightPolys$Poly"
  | 2 => .object "StraightPolys$Poly"
  | 3 => .object "StraightPolys$Box"
  | 4 => .object "StraightPolys$Box"
  | 5 => .array .int
  | 6 => .array .int
  | 7 => .array .int
  | _ => .array .int
abbrev wsX90 : List Cond := u_ws RX9 TX9 9
theorem nmX9 : ∀ a, a < 9 → ∀ b, b < 9 → a ≠ b → (TX9 a).2.1 ≠ (TX9 b).2.1 := by decide +kernel
theorem tyX9_ok : ∀ k, k < 9 → parseFieldDescriptor (TX9 k).2.2.1 = some (tyX9 k) := by decide +kernel
abbrev cX9_init : ByteArray := prog_11_method_1_code
def yX9_init : MethodName := ⟨RX9, "<init>", "()V"⟩
abbrev cX9_isSize : ByteArray := prog_11_method_2_code
def yX9_isSize : MethodName := ⟨RX9, "isSize", "(I)Z"⟩
abbrev cX9_isNumber : ByteArray := prog_11_method_3_code
def yX9_isNumber : MethodName := ⟨RX9, "isNumber", "(I)Z"⟩
abbrev cX9_isPoint : ByteArray := prog_11_method_4_code
def yX9_isPoint : MethodName := ⟨RX9, "isPoint", "(III)Z"⟩
abbrev cX9_isLine : ByteArray := prog_11_method_5_code
def yX9_isLine : MethodName := ⟨RX9, "isLine", "(IIII)Z"⟩
abbrev cX9_sum : ByteArray := prog_11_method_6_code
def yX9_sum : MethodName := ⟨RX9, "sum", "(LStraightPolys$Poly;LStraightPolys$Poly;I)LStraightPolys$Poly;"⟩
abbrev cX9_product : ByteArray := prog_11_method_7_code
def yX9_product : MethodName := ⟨RX9, "product", "(LStraightPolys$Poly;LStraightPolys$Poly;)LStraightPolys$Poly;"⟩
abbrev cX9_power : ByteArray := prog_11_method_8_code
def yX9_power : MethodName := ⟨RX9, "power", "(LStraightPolys$Poly;I)LStraightPolys$Poly;"⟩
abbrev cX9_multiply : ByteArray := prog_11_method_9_code
def yX9_multiply : MethodName := ⟨RX9, "multiply", "(LStraightPolys$Poly;LStraightPolys$Poly;LStraightPolys$Poly;)Z"⟩
abbrev cX9_findOffsets : ByteArray := prog_11_method_10_code
def yX9_findOffsets : MethodName := ⟨RX9, "findOffsets", "(LStraightPolys$Poly;LStraightPolys$Box;)V"⟩
abbrev cX9_addTimes : ByteArray := prog_11_method_11_code
def yX9_addTimes : MethodName := ⟨RX9, "addTimes", "(LStraightPolys$Box;IILStraightPolys$Poly;)V"⟩
abbrev cX9_derivative : ByteArray := prog_11_method_12_code
def yX9_derivative : MethodName := ⟨RX9, "derivative", "(LStraightPolys$Poly;I)LStraightPolys$Poly;"⟩
abbrev cX9_part : ByteArray := prog_11_method_13_code
def yX9_part : MethodName := ⟨RX9, "part", "(LStraightPolys$Poly;I)LStraightPolys$Poly;"⟩
abbrev cX9_reducedExponent : ByteArray := prog_11_method_14_code
def yX9_reducedExponent : MethodName := ⟨RX9, "reducedExponent", "(II)I"⟩
abbrev cX9_reduced : ByteArray := prog_11_method_15_code
def yX9_reduced : MethodName := ⟨RX9, "reduced", "(LStraightPolys$Poly;)LStraightPolys$Poly;"⟩
abbrev cX9_turned : ByteArray := prog_11_method_16_code
def yX9_turned : MethodName := ⟨RX9, "turned", "(LStraightPolys$Poly;I)LStraightPolys$Poly;"⟩
abbrev cX9_putInto : ByteArray := prog_11_method_17_code
def yX9_putInto : MethodName := ⟨RX9, "putInto", "(LStraightPolys$Poly;ILStraightPolys$Poly;)LStraightPolys$Poly;"⟩
abbrev cX9_putRoom : ByteArray := prog_11_method_18_code
def yX9_putRoom : MethodName := ⟨RX9, "putRoom", "(LStraightPolys$Poly;ILStraightPolys$Poly;I)I"⟩
abbrev cX9_addPut : ByteArray := prog_11_method_19_code
def yX9_addPut : MethodName := ⟨RX9, "addPut", "(LStraightPolys$Poly;II)V"⟩
abbrev cX9_common : ByteArray := prog_11_method_20_code
def yX9_common : MethodName := ⟨RX9, "common", "(LStraightPolys$Poly;LStraightPolys$Poly;)LStraightPolys$Poly;"⟩
abbrev cX9_layOut : ByteArray := prog_11_method_21_code
def yX9_layOut : MethodName := ⟨RX9, "layOut", "(LStraightPolys$Poly;[I)I"⟩
abbrev cX9_takeRemainder : ByteArray := prog_11_method_22_code
def yX9_takeRemainder : MethodName := ⟨RX9, "takeRemainder", "([II[II)I"⟩
abbrev cX9_inverse : ByteArray := prog_11_method_23_code
def yX9_inverse : MethodName := ⟨RX9, "inverse", "(I)I"⟩
abbrev cX9_fitTo : ByteArray := prog_11_method_24_code
def yX9_fitTo : MethodName := ⟨RX9, "fitTo", "([I)LStraightPolys$Poly;"⟩
abbrev cX9_raised : ByteArray := prog_11_method_25_code
def yX9_raised : MethodName := ⟨RX9, "raised", "(III)I"⟩
abbrev cX9_valueAt : ByteArray := prog_11_method_26_code
def yX9_valueAt : MethodName := ⟨RX9, "valueAt", "(LStraightPolys$Poly;III)I"⟩
abbrev cX9_findPowers : ByteArray := prog_11_method_27_code
def yX9_findPowers : MethodName := ⟨RX9, "findPowers", "(II)V"⟩
def RX10 : String := "StraightPolys$Speech"
def TX10 : u_T := fun k => match k with
  | 0 => ("StraightPolys$Speech", "length", "I", false)
  | _ => ("StraightPolys$Speech", "bytes", "[B", true)
def tyX10 : Nat → FieldType := fun k => match k with
  | 0 => .int
  | _ => .array .byte
abbrev wsX100 : List Cond := u_ws RX10 TX10 2
theorem nmX10 : ∀ a, a < 2 → ∀ b, b < 2 → a ≠ b → (TX10 a).2.1 ≠ (TX10 b).2.1 := by decide +kernel
theorem tyX10_ok : ∀ k, k < 2 → parseFieldDescriptor (TX10 k).2.2.1 = some (tyX10 k) := by decide +kernel
abbrev cX10_init : ByteArray := prog_12_method_1_code
def yX10_init : MethodName := ⟨RX10, "<init>", "()V"⟩
abbrev cX10_write : ByteArray := prog_12_method_2_code
def yX10_write : MethodName := ⟨RX10, "write", "(LStraightPolys$Poly;LStraightPolys$Order;)V"⟩
abbrev cX10_writeTerm : ByteArray := prog_12_method_3_code
def yX10_writeTerm : MethodName := ⟨RX10, "writeTerm", "(II)V"⟩
abbrev cX10_writeNumber : ByteArray := prog_12_method_4_code
def yX10_writeNumber : MethodName := ⟨RX10, "writeNumber", "(I)V"⟩
abbrev cX10_writeByte : ByteArray := prog_12_method_5_code
def yX10_writeByte : MethodName := ⟨RX10, "writeByte", "(I)V"⟩
def RX11 : String := "StraightPolys"
def TX11 : u_T := fun k => match k with
  | 0 => ("StraightPolys", "zero", "LStraightPolys$Poly;", true)
  | 1 => ("StraightPolys", "places", "[LStraightPolys$Poly;", true)
  | 2 => ("StraightPolys", "ring", "LStraightPolys$Ring;", true)
  | 3 => ("StraightPolys", "points", "LStraightPolys$Points;", true)
  | 4 => ("StraightPolys", "factors", "LStraightPolys$Factors;", true)
  | 5 => ("StraightPolys", "sorted", "LStraightPolys$Order;", true)
  | 6 => ("StraightPolys", "speech", "LStraightPolys$Speech;", true)
  | 7 => ("StraightPolys", "acts", "LStraightPolys$Acts;", true)
  | 8 => ("StraightPolys", "tape", "[I", true)
  | 9 => ("StraightPolys", "tapeLength", "I", false)
  | 10 => ("StraightPolys", "faultPlace", "I", false)
  | _ => ("StraightPolys", "program", "LStraightPolys$Program;", false)
def tyX11 : Nat → FieldType := fun k => match k with
  | 0 => .object "StraightPolys$Poly"
  | 1 => .array (.object "StraightPolys$Poly")
  | 2 => .object "StraightPolys$Ring"
  | 3 => .object "StraightPolys$Points"
  | 4 => .object "StraightPolys$Factors"
  | 5 => .object "StraightPolys$Order"
  | 6 => .object "StraightPolys$Speech"
  | 7 => .object "StraightPolys$Acts"
  | 8 => .array .int
  | 9 => .int
  | 10 => .int
  | _ => .object "StraightPolys$Program"
abbrev wsX110 : List Cond := u_ws RX11 TX11 12
theorem nmX11 : ∀ a, a < 12 → ∀ b, b < 12 → a ≠ b → (TX11 a).2.1 ≠ (TX11 b).2.1 := by decide +kernel
theorem tyX11_ok : ∀ k, k < 12 → parseFieldDescriptor (TX11 k).2.2.1 = some (tyX11 k) := by decide +kernel
abbrev cX11_init : ByteArray := prog_1_method_1_code
def yX11_init : MethodName := ⟨RX11, "<init>", "()V"⟩
abbrev cX11_field : ByteArray := prog_1_method_2_code
def yX11_field : MethodName := ⟨RX11, "field", "(I)I"⟩
abbrev cX11_feed : ByteArray := prog_1_method_3_code
def yX11_feed : MethodName := ⟨RX11, "feed", "(IIIII)I"⟩
abbrev cX11_tell : ByteArray := prog_1_method_4_code
def yX11_tell : MethodName := ⟨RX11, "tell", "(II)I"⟩
abbrev cX11_fault : ByteArray := prog_1_method_5_code
def yX11_fault : MethodName := ⟨RX11, "fault", "()I"⟩
abbrev cX11_count : ByteArray := prog_1_method_6_code
def yX11_count : MethodName := ⟨RX11, "count", "(I)I"⟩
abbrev cX11_step : ByteArray := prog_1_method_7_code
def yX11_step : MethodName := ⟨RX11, "step", "(II)I"⟩
abbrev cX11_at : ByteArray := prog_1_method_8_code
def yX11_at : MethodName := ⟨RX11, "at", "(IZIII)I"⟩
abbrev cX11_make : ByteArray := prog_1_method_9_code
def yX11_make : MethodName := ⟨RX11, "make", "(IIII)I"⟩
abbrev cX11_put : ByteArray := prog_1_method_10_code
def yX11_put : MethodName := ⟨RX11, "put", "(IIII)I"⟩
abbrev cX11_fit : ByteArray := prog_1_method_11_code
def yX11_fit : MethodName := ⟨RX11, "fit", "(I)I"⟩
abbrev cX11_undo : ByteArray := prog_1_method_12_code
def yX11_undo : MethodName := ⟨RX11, "undo", "()I"⟩
abbrev cX11_of : ByteArray := prog_1_method_13_code
def yX11_of : MethodName := ⟨RX11, "of", "(II)I"⟩
abbrev cX11_term : ByteArray := prog_1_method_14_code
def yX11_term : MethodName := ⟨RX11, "term", "(IIII)I"⟩
abbrev cX11_number : ByteArray := prog_1_method_15_code
def yX11_number : MethodName := ⟨RX11, "number", "(IIII)I"⟩
abbrev cX11_value : ByteArray := prog_1_method_16_code
def yX11_value : MethodName := ⟨RX11, "value", "(IIII)I"⟩
abbrev cX11_same : ByteArray := prog_1_method_17_code
def yX11_same : MethodName := ⟨RX11, "same", "(IIZ)Z"⟩
abbrev cX11_witness : ByteArray := prog_1_method_18_code
def yX11_witness : MethodName := ⟨RX11, "witness", "(II)I"⟩
abbrev cX11_factor : ByteArray := prog_1_method_19_code
def yX11_factor : MethodName := ⟨RX11, "factor", "(III)I"⟩
abbrev cX11_often : ByteArray := prog_1_method_20_code
def yX11_often : MethodName := ⟨RX11, "often", "(IIIII)I"⟩
abbrev cX11_say : ByteArray := prog_1_method_21_code
def yX11_say : MethodName := ⟨RX11, "say", "(I)I"⟩
abbrev cX11_said : ByteArray := prog_1_method_22_code
def yX11_said : MethodName := ⟨RX11, "said", "(I)I"⟩
abbrev cX11_isPlace : ByteArray := prog_1_method_23_code
def yX11_isPlace : MethodName := ⟨RX11, "isPlace", "(I)Z"⟩
abbrev cX11_polyAt : ByteArray := prog_1_method_24_code
def yX11_polyAt : MethodName := ⟨RX11, "polyAt", "(I)LStraightPolys$Poly;"⟩
abbrev cX11_append : ByteArray := prog_1_method_25_code
def yX11_append : MethodName := ⟨RX11, "append", "(I)V"⟩
abbrev cX11_keep : ByteArray := prog_1_method_26_code
def yX11_keep : MethodName := ⟨RX11, "keep", "(ILStraightPolys$Poly;)I"⟩
abbrev cX11_canMake : ByteArray := prog_1_method_27_code
def yX11_canMake : MethodName := ⟨RX11, "canMake", "(III)Z"⟩
abbrev cX11_made : ByteArray := prog_1_method_28_code
def yX11_made : MethodName := ⟨RX11, "made", "(ILStraightPolys$Poly;I)LStraightPolys$Poly;"⟩
abbrev cX11_firstUnlike : ByteArray := prog_1_method_29_code
def yX11_firstUnlike : MethodName := ⟨RX11, "firstUnlike", "(LStraightPolys$Poly;LStraightPolys$Poly;)I"⟩
def RX12 : String := "StraightPolysModel"
def TX12 : u_T := fun k => match k with
  | 0 => ("StraightPolysModel", "code", "I", false)
  | 1 => ("StraightPolysModel", "p", "I", false)
  | 2 => ("StraightPolysModel", "many", "[I", true)
  | 3 => ("StraightPolysModel", "key", "[I", true)
  | 4 => ("StraightPolysModel", "num", "[I", true)
  | 5 => ("StraightPolysModel", "cube", "[I", true)
  | 6 => ("StraightPolysModel", "touched", "[I", true)
  | 7 => ("StraightPolysModel", "touches", "I", false)
  | 8 => ("StraightPolysModel", "powers", "[I", true)
  | 9 => ("StraightPolysModel", "actPlace", "[I", true)
  | 10 => ("StraightPolysModel", "actMany", "[I", true)
  | 11 => ("StraightPolysModel", "actKey", "[I", true)
  | 12 => ("StraightPolysModel", "actNum", "[I", true)
  | 13 => ("StraightPolysModel", "acts", "I", false)
  | 14 => ("StraightPolysModel", "three", "[I", true)
  | 15 => ("StraightPolysModel", "one", "[I", true)
  | 16 => ("StraightPolysModel", "other", "[I", true)
  | 17 => ("StraightPolysModel", "whole", "[I", true)
  | 18 => ("StraightPolysModel", "quotient", "[I", true)
  | 19 => ("StraightPolysModel", "plane", "[I", true)
  | 20 => ("StraightPolysModel", "nextPlane", "[I", true)
  | 21 => ("StraightPolysModel", "values", "[I", true)
  | 22 => ("StraightPolysModel", "a", "I", false)
  | 23 => ("StraightPolysModel", "b", "I", false)
  | 24 => ("StraightPolysModel", "c", "I", false)
  | 25 => ("StraightPolysModel", "d", "I", false)
  | 26 => ("StraightPolysModel", "puts", "[I", true)
  | 27 => ("StraightPolysModel", "text", "[I", true)
  | 28 => ("StraightPolysModel", "said", "I", false)
  | 29 => ("StraightPolysModel", "name", "[I", true)
  | 30 => ("StraightPolysModel", "sign", "[I", true)
  | 31 => ("StraightPolysModel", "kind", "[I", true)
  | 32 => ("StraightPolysModel", "told", "[I", true)
  | 33 => ("StraightPolysModel", "readName", "[I", true)
  | 34 => ("StraightPolysModel", "readSign", "[I", true)
  | 35 => ("StraightPolysModel", "readKind", "[I", true)
  | 36 => ("StraightPolysModel", "readTold", "[I", true)
  | 37 => ("StraightPolysModel", "steps", "I", false)
  | 38 => ("StraightPolysModel", "readSteps", "I", false)
  | 39 => ("StraightPolysModel", "bounds", "[I", true)
  | 40 => ("StraightPolysModel", "value", "[I", true)
  | 41 => ("StraightPolysModel", "turn", "[I", true)
  | 42 => ("StraightPolysModel", "tape", "[I", true)
  | 43 => ("StraightPolysModel", "taped", "I", false)
  | 44 => ("StraightPolysModel", "size", "I", false)
  | 45 => ("StraightPolysModel", "at", "I", false)
  | 46 => ("StraightPolysModel", "token", "I", false)
  | 47 => ("StraightPolysModel", "begins", "I", false)
  | 48 => ("StraightPolysModel", "stops", "I", false)
  | 49 => ("StraightPolysModel", "bad", "I", false)
  | 50 => ("StraightPolysModel", "badPlace", "I", false)
  | _ => ("StraightPolysModel", "faultPlace", "I", false)
def tyX12 : Nat → FieldType := fun k => match k with
  | 0 => .int
  | 1 => .int
  | 2 => .array .int
  | 3 => .array .int
  | 4 => .array .int
  | 5 => .array .int
  | 6 => .array .int
  | 7 => .int
  | 8 => .array .int
  | 9 => .array .int
  | 10 => .array .int
  | 11 => .array .int
  | 12 => .array .int
  | 13 => .int
  | 14 => .array .int
  | 15 => .array .int
  | 16 => .array .int
  | 17 => .array .int
  | 18 => .array .int
  | 19 => .array .int
  | 20 => .array .int
  | 21 => .array .int
  | 22 => .int
  | 23 => .int
  | 24 => .int
  | 25 => .int
  | 26 => .array .int
  | 27 => .array .int
  | 28 => .int
  | 29 => .array .int
  | 30 => .array .int
  | 31 => .array .int
  | 32 => .array .int
  | 33 => .array .int
  | 34 => .array .int
  | 35 => .array .int
  | 36 => .array .int
  | 37 => .int
  | 38 => .int
  | 39 => .array .int
  | 40 => .array .int
  | 41 => .array .int
  | 42 => .array .int
  | 43 => .int
  | 44 => .int
  | 45 => .int
  | 46 => .int
  | 47 => .int
  | 48 => .int
  | 49 => .int
  | 50 => .int
  | _ => .int
abbrev wsX120 : List Cond := u_ws RX12 TX12 52
theorem nmX12 : ∀ a, a < 52 → ∀ b, b < 52 → a ≠ b → (TX12 a).2.1 ≠ (TX12 b).2.1 := by decide +kernel
theorem tyX12_ok : ∀ k, k < 52 → parseFieldDescriptor (TX12 k).2.2.1 = some (tyX12 k) := by decide +kernel
abbrev cX12_init : ByteArray := prog_14_method_1_code
def yX12_init : MethodName := ⟨RX12, "<init>", "()V"⟩
abbrev cX12_thrown : ByteArray := prog_14_method_2_code
def yX12_thrown : MethodName := ⟨RX12, "thrown", "()I"⟩
abbrev cX12_fail : ByteArray := prog_14_method_3_code
def yX12_fail : MethodName := ⟨RX12, "fail", "(I)I"⟩
abbrev cX12_isIn : ByteArray := prog_14_method_4_code
def yX12_isIn : MethodName := ⟨RX12, "isIn", "(III)Z"⟩
abbrev cX12_mod : ByteArray := prog_14_method_5_code
def yX12_mod : MethodName := ⟨RX12, "mod", "(I)I"⟩
abbrev cX12_inverse : ByteArray := prog_14_method_6_code
def yX12_inverse : MethodName := ⟨RX12, "inverse", "(I)I"⟩
abbrev cX12_keyOf : ByteArray := prog_14_method_7_code
def yX12_keyOf : MethodName := ⟨RX12, "keyOf", "(III)I"⟩
abbrev cX12_ex : ByteArray := prog_14_method_8_code
def yX12_ex : MethodName := ⟨RX12, "ex", "(II)I"⟩
abbrev cX12_degreeOfKey : ByteArray := prog_14_method_9_code
def yX12_degreeOfKey : MethodName := ⟨RX12, "degreeOfKey", "(I)I"⟩
abbrev cX12_keyAt : ByteArray := prog_14_method_10_code
def yX12_keyAt : MethodName := ⟨RX12, "keyAt", "(II)I"⟩
abbrev cX12_numAt : ByteArray := prog_14_method_11_code
def yX12_numAt : MethodName := ⟨RX12, "numAt", "(II)I"⟩
abbrev cX12_copy : ByteArray := prog_14_method_12_code
def yX12_copy : MethodName := ⟨RX12, "copy", "(II)V"⟩
abbrev cX12_degreeOf : ByteArray := prog_14_method_13_code
def yX12_degreeOf : MethodName := ⟨RX12, "degreeOf", "(I)I"⟩
abbrev cX12_degreeIn : ByteArray := prog_14_method_14_code
def yX12_degreeIn : MethodName := ⟨RX12, "degreeIn", "(II)I"⟩
abbrev cX12_areSame : ByteArray := prog_14_method_15_code
def yX12_areSame : MethodName := ⟨RX12, "areSame", "(II)Z"⟩
abbrev cX12_gathers : ByteArray := prog_14_method_16_code
def yX12_gathers : MethodName := ⟨RX12, "gathers", "(IIII)V"⟩
abbrev cX12_gathered : ByteArray := prog_14_method_17_code
def yX12_gathered : MethodName := ⟨RX12, "gathered", "(I)Z"⟩
abbrev cX12_sort : ByteArray := prog_14_method_18_code
def yX12_sort : MethodName := ⟨RX12, "sort", "(I)V"⟩
abbrev cX12_gathersAll : ByteArray := prog_14_method_19_code
def yX12_gathersAll : MethodName := ⟨RX12, "gathersAll", "(II)V"⟩
abbrev cX12_sum : ByteArray := prog_14_method_20_code
def yX12_sum : MethodName := ⟨RX12, "sum", "(IIII)Z"⟩
abbrev cX12_gathersTerm : ByteArray := prog_14_method_21_code
def yX12_gathersTerm : MethodName := ⟨RX12, "gathersTerm", "(III)V"⟩
abbrev cX12_product : ByteArray := prog_14_method_22_code
def yX12_product : MethodName := ⟨RX12, "product", "(III)Z"⟩
abbrev cX12_number : ByteArray := prog_14_method_23_code
def yX12_number : MethodName := ⟨RX12, "number", "(II)V"⟩
abbrev cX12_power : ByteArray := prog_14_method_24_code
def yX12_power : MethodName := ⟨RX12, "power", "(III)Z"⟩
abbrev cX12_powerOf : ByteArray := prog_14_method_25_code
def yX12_powerOf : MethodName := ⟨RX12, "powerOf", "(II)I"⟩
abbrev cX12_layPowers : ByteArray := prog_14_method_26_code
def yX12_layPowers : MethodName := ⟨RX12, "layPowers", "(II)V"⟩
abbrev cX12_valueOf : ByteArray := prog_14_method_27_code
def yX12_valueOf : MethodName := ⟨RX12, "valueOf", "(IIII)I"⟩
abbrev cX12_isPoint : ByteArray := prog_14_method_28_code
def yX12_isPoint : MethodName := ⟨RX12, "isPoint", "(III)Z"⟩
abbrev cX12_zeros : ByteArray := prog_14_method_29_code
def yX12_zeros : MethodName := ⟨RX12, "zeros", "(I)I"⟩
abbrev cX12_witnessOf : ByteArray := prog_14_method_30_code
def yX12_witnessOf : MethodName := ⟨RX12, "witnessOf", "(II)I"⟩
abbrev cX12_keep : ByteArray := prog_14_method_31_code
def yX12_keep : MethodName := ⟨RX12, "keep", "(I)V"⟩
abbrev cX12_become : ByteArray := prog_14_method_32_code
def yX12_become : MethodName := ⟨RX12, "become", "(II)I"⟩
abbrev cX12_undo : ByteArray := prog_14_method_33_code
def yX12_undo : MethodName := ⟨RX12, "undo", "()I"⟩
abbrev cX12_field : ByteArray := prog_14_method_34_code
def yX12_field : MethodName := ⟨RX12, "field", "(I)I"⟩
abbrev cX12_derivative : ByteArray := prog_14_method_35_code
def yX12_derivative : MethodName := ⟨RX12, "derivative", "(III)Z"⟩
abbrev cX12_part : ByteArray := prog_14_method_36_code
def yX12_part : MethodName := ⟨RX12, "part", "(III)Z"⟩
abbrev cX12_reducedExponent : ByteArray := prog_14_method_37_code
def yX12_reducedExponent : MethodName := ⟨RX12, "reducedExponent", "(I)I"⟩
abbrev cX12_reduced : ByteArray := prog_14_method_38_code
def yX12_reduced : MethodName := ⟨RX12, "reduced", "(II)Z"⟩
abbrev cX12_becomes : ByteArray := prog_14_method_39_code
def yX12_becomes : MethodName := ⟨RX12, "becomes", "(II)I"⟩
abbrev cX12_turned : ByteArray := prog_14_method_40_code
def yX12_turned : MethodName := ⟨RX12, "turned", "(III)Z"⟩
abbrev cX12_isInX : ByteArray := prog_14_method_41_code
def yX12_isInX : MethodName := ⟨RX12, "isInX", "(I)Z"⟩
abbrev cX12_spread : ByteArray := prog_14_method_42_code
def yX12_spread : MethodName := ⟨RX12, "spread", "(I[I)V"⟩
abbrev cX12_topOf : ByteArray := prog_14_method_43_code
def yX12_topOf : MethodName := ⟨RX12, "topOf", "([I)I"⟩
abbrev cX12_leaves : ByteArray := prog_14_method_44_code
def yX12_leaves : MethodName := ⟨RX12, "leaves", "([I[I)V"⟩
abbrev cX12_common : ByteArray := prog_14_method_45_code
def yX12_common : MethodName := ⟨RX12, "common", "(III)Z"⟩
abbrev cX12_layWhole : ByteArray := prog_14_method_46_code
def yX12_layWhole : MethodName := ⟨RX12, "layWhole", "(I)V"⟩
abbrev cX12_layValues : ByteArray := prog_14_method_47_code
def yX12_layValues : MethodName := ⟨RX12, "layValues", "(I)V"⟩
abbrev cX12_lines : ByteArray := prog_14_method_48_code
def yX12_lines : MethodName := ⟨RX12, "lines", "()I"⟩
abbrev cX12_layLine : ByteArray := prog_14_method_49_code
def yX12_layLine : MethodName := ⟨RX12, "layLine", "(I)V"⟩
abbrev cX12_vanishes : ByteArray := prog_14_method_50_code
def yX12_vanishes : MethodName := ⟨RX12, "vanishes", "()Z"⟩
abbrev cX12_lead : ByteArray := prog_14_method_51_code
def yX12_lead : MethodName := ⟨RX12, "lead", "()I"⟩
abbrev cX12_cell : ByteArray := prog_14_method_52_code
def yX12_cell : MethodName := ⟨RX12, "cell", "(IIII)I"⟩
abbrev cX12_steps : ByteArray := prog_14_method_53_code
def yX12_steps : MethodName := ⟨RX12, "steps", "(II)Z"⟩
abbrev cX12_divides : ByteArray := prog_14_method_54_code
def yX12_divides : MethodName := ⟨RX12, "divides", "()Z"⟩
abbrev cX12_layRow : ByteArray := prog_14_method_55_code
def yX12_layRow : MethodName := ⟨RX12, "layRow", "(II)V"⟩
abbrev cX12_oftenOf : ByteArray := prog_14_method_56_code
def yX12_oftenOf : MethodName := ⟨RX12, "oftenOf", "(I)I"⟩
abbrev cX12_rest : ByteArray := prog_14_method_57_code
def yX12_rest : MethodName := ⟨RX12, "rest", "(II)Z"⟩
abbrev cX12_make : ByteArray := prog_14_method_58_code
def yX12_make : MethodName := ⟨RX12, "make", "(IIII)I"⟩
abbrev cX12_isPlace : ByteArray := prog_14_method_59_code
def yX12_isPlace : MethodName := ⟨RX12, "isPlace", "(I)Z"⟩
abbrev cX12_mayMake : ByteArray := prog_14_method_60_code
def yX12_mayMake : MethodName := ⟨RX12, "mayMake", "(III)Z"⟩
abbrev cX12_makes : ByteArray := prog_14_method_61_code
def yX12_makes : MethodName := ⟨RX12, "makes", "(IIII)Z"⟩
abbrev cX12_put : ByteArray := prog_14_method_62_code
def yX12_put : MethodName := ⟨RX12, "put", "(IIII)I"⟩
abbrev cX12_putsTerm : ByteArray := prog_14_method_63_code
def yX12_putsTerm : MethodName := ⟨RX12, "putsTerm", "(III)V"⟩
abbrev cX12_gathersPuts : ByteArray := prog_14_method_64_code
def yX12_gathersPuts : MethodName := ⟨RX12, "gathersPuts", "(I)Z"⟩
abbrev cX12_fit : ByteArray := prog_14_method_65_code
def yX12_fit : MethodName := ⟨RX12, "fit", "(I)I"⟩
abbrev cX12_of : ByteArray := prog_14_method_66_code
def yX12_of : MethodName := ⟨RX12, "of", "(II)I"⟩
abbrev cX12_isOfOneDegree : ByteArray := prog_14_method_67_code
def yX12_isOfOneDegree : MethodName := ⟨RX12, "isOfOneDegree", "(I)Z"⟩
abbrev cX12_factors : ByteArray := prog_14_method_68_code
def yX12_factors : MethodName := ⟨RX12, "factors", "(IZ)I"⟩
abbrev cX12_factor : ByteArray := prog_14_method_69_code
def yX12_factor : MethodName := ⟨RX12, "factor", "(III)I"⟩
abbrev cX12_often : ByteArray := prog_14_method_70_code
def yX12_often : MethodName := ⟨RX12, "often", "(IIIII)I"⟩
abbrev cX12_isAhead : ByteArray := prog_14_method_71_code
def yX12_isAhead : MethodName := ⟨RX12, "isAhead", "(III)Z"⟩
abbrev cX12_placeOf : ByteArray := prog_14_method_72_code
def yX12_placeOf : MethodName := ⟨RX12, "placeOf", "(III)I"⟩
abbrev cX12_term : ByteArray := prog_14_method_73_code
def yX12_term : MethodName := ⟨RX12, "term", "(IIII)I"⟩
abbrev cX12_number_ : ByteArray := prog_14_method_74_code
def yX12_number_ : MethodName := ⟨RX12, "number", "(IIII)I"⟩
abbrev cX12_value : ByteArray := prog_14_method_75_code
def yX12_value : MethodName := ⟨RX12, "value", "(IIII)I"⟩
abbrev cX12_same : ByteArray := prog_14_method_76_code
def yX12_same : MethodName := ⟨RX12, "same", "(IIZ)Z"⟩
abbrev cX12_witness : ByteArray := prog_14_method_77_code
def yX12_witness : MethodName := ⟨RX12, "witness", "(II)I"⟩
abbrev cX12_writes : ByteArray := prog_14_method_78_code
def yX12_writes : MethodName := ⟨RX12, "writes", "(I)V"⟩
abbrev cX12_writesNumber : ByteArray := prog_14_method_79_code
def yX12_writesNumber : MethodName := ⟨RX12, "writesNumber", "(I)V"⟩
abbrev cX12_writesTerm : ByteArray := prog_14_method_80_code
def yX12_writesTerm : MethodName := ⟨RX12, "writesTerm", "(II)V"⟩
abbrev cX12_say : ByteArray := prog_14_method_81_code
def yX12_say : MethodName := ⟨RX12, "say", "(I)I"⟩
abbrev cX12_said : ByteArray := prog_14_method_82_code
def yX12_said : MethodName := ⟨RX12, "said", "(I)I"⟩
abbrev cX12_count : ByteArray := prog_14_method_83_code
def yX12_count : MethodName := ⟨RX12, "count", "(I)I"⟩
abbrev cX12_atom : ByteArray := prog_14_method_84_code
def yX12_atom : MethodName := ⟨RX12, "atom", "(II)V"⟩
abbrev cX12_makesStep : ByteArray := prog_14_method_85_code
def yX12_makesStep : MethodName := ⟨RX12, "makesStep", "(I)Z"⟩
abbrev cX12_takesProgram : ByteArray := prog_14_method_86_code
def yX12_takesProgram : MethodName := ⟨RX12, "takesProgram", "()V"⟩
abbrev cX12_tell : ByteArray := prog_14_method_87_code
def yX12_tell : MethodName := ⟨RX12, "tell", "(II)I"⟩
abbrev cX12_isName : ByteArray := prog_14_method_88_code
def yX12_isName : MethodName := ⟨RX12, "isName", "(I)Z"⟩
abbrev cX12_has : ByteArray := prog_14_method_89_code
def yX12_has : MethodName := ⟨RX12, "has", "(II)Z"⟩
abbrev cX12_boundOfAtom : ByteArray := prog_14_method_90_code
def yX12_boundOfAtom : MethodName := ⟨RX12, "boundOfAtom", "(I)I"⟩
abbrev cX12_boundOf : ByteArray := prog_14_method_91_code
def yX12_boundOf : MethodName := ⟨RX12, "boundOf", "(I)I"⟩
abbrev cX12_isStoodOn : ByteArray := prog_14_method_92_code
def yX12_isStoodOn : MethodName := ⟨RX12, "isStoodOn", "(I)Z"⟩
abbrev cX12_step : ByteArray := prog_14_method_93_code
def yX12_step : MethodName := ⟨RX12, "step", "(II)I"⟩
abbrev cX12_valueOfAtom : ByteArray := prog_14_method_94_code
def yX12_valueOfAtom : MethodName := ⟨RX12, "valueOfAtom", "(IIII)I"⟩
abbrev cX12_turnOfAtom : ByteArray := prog_14_method_95_code
def yX12_turnOfAtom : MethodName := ⟨RX12, "turnOfAtom", "(II)I"⟩
abbrev cX12_layStep : ByteArray := prog_14_method_96_code
def yX12_layStep : MethodName := ⟨RX12, "layStep", "(IIIII)V"⟩
abbrev cX12_at : ByteArray := prog_14_method_97_code
def yX12_at : MethodName := ⟨RX12, "at", "(IZIII)I"⟩
abbrev cX12_feed : ByteArray := prog_14_method_98_code
def yX12_feed : MethodName := ⟨RX12, "feed", "(IIIII)I"⟩
abbrev cX12_fault : ByteArray := prog_14_method_99_code
def yX12_fault : MethodName := ⟨RX12, "fault", "()I"⟩
abbrev cX12_byteAt : ByteArray := prog_14_method_100_code
def yX12_byteAt : MethodName := ⟨RX12, "byteAt", "(I)I"⟩
abbrev cX12_isFigure : ByteArray := prog_14_method_101_code
def yX12_isFigure : MethodName := ⟨RX12, "isFigure", "(I)Z"⟩
abbrev cX12_next : ByteArray := prog_14_method_102_code
def yX12_next : MethodName := ⟨RX12, "next", "()V"⟩
abbrev cX12_opens : ByteArray := prog_14_method_103_code
def yX12_opens : MethodName := ⟨RX12, "opens", "(I)V"⟩
abbrev cX12_wrong : ByteArray := prog_14_method_104_code
def yX12_wrong : MethodName := ⟨RX12, "wrong", "(I)V"⟩
abbrev cX12_pass : ByteArray := prog_14_method_105_code
def yX12_pass : MethodName := ⟨RX12, "pass", "()V"⟩
abbrev cX12_isSign : ByteArray := prog_14_method_106_code
def yX12_isSign : MethodName := ⟨RX12, "isSign", "(I)Z"⟩
abbrev cX12_readNumber : ByteArray := prog_14_method_107_code
def yX12_readNumber : MethodName := ⟨RX12, "readNumber", "(I)I"⟩
abbrev cX12_named : ByteArray := prog_14_method_108_code
def yX12_named : MethodName := ⟨RX12, "named", "(I)I"⟩
abbrev cX12_readAtom : ByteArray := prog_14_method_109_code
def yX12_readAtom : MethodName := ⟨RX12, "readAtom", "(I)V"⟩
abbrev cX12_readStep : ByteArray := prog_14_method_110_code
def yX12_readStep : MethodName := ⟨RX12, "readStep", "()V"⟩
abbrev cX12_readProgram : ByteArray := prog_14_method_111_code
def yX12_readProgram : MethodName := ⟨RX12, "readProgram", "()V"⟩
def RJ5 : String := "java/lang/AbstractStringBuilder"
def TJ5 : u_T := fun k => match k with
  | _ => ("", "", "", false)
def tyJ5 : Nat → FieldType := fun k => match k with
  | _ => .int
abbrev wsJ50 : List Cond := u_ws RJ5 TJ5 0
theorem nmJ5 : ∀ a, a < 0 → ∀ b, b < 0 → a ≠ b → (TJ5 a).2.1 ≠ (TJ5 b).2.1 := by decide +kernel
theorem tyJ5_ok : ∀ k, k < 0 → parseFieldDescriptor (TJ5 k).2.2.1 = some (tyJ5 k) := by decide +kernel
abbrev cJ5_init_d00df : ByteArray := prog_16_method_2_code
def yJ5_init_d00df : MethodName := ⟨RJ5, "<init>", "(I)V"⟩
abbrev cJ5_length_8abf5 : ByteArray := prog_16_method_6_code
def yJ5_length_8abf5 : MethodName := ⟨RJ5, "length", "()I"⟩
abbrev cJ5_ensureCapacityInternal_d00df : ByteArray := prog_16_method_9_code
def yJ5_ensureCapacityInternal_d00df : MethodName := ⟨RJ5, "ensureCapacityInternal", "(I)V"⟩
abbrev cJ5_newCapacity_0f7a4 : ByteArray := prog_16_method_10_code
def yJ5_newCapacity_0f7a4 : MethodName := ⟨RJ5, "newCapacity", "(I)I"⟩
abbrev cJ5_inflate_da8c8 : ByteArray := prog_16_method_11_code
def yJ5_inflate_da8c8 : MethodName := ⟨RJ5, "inflate", "()V"⟩
abbrev cJ5_append_cf1ce : ByteArray := prog_16_method_22_code
def yJ5_append_cf1ce : MethodName := ⟨RJ5, "append", "(Ljava/lang/String;)Ljava/lang/AbstractStringBuilder;"⟩
abbrev cJ5_appendNull_278bc : ByteArray := prog_16_method_26_code
def yJ5_appendNull_278bc : MethodName := ⟨RJ5, "appendNull", "()Ljava/lang/AbstractStringBuilder;"⟩
abbrev cJ5_append_c97b9 : ByteArray := prog_16_method_32_code
def yJ5_append_c97b9 : MethodName := ⟨RJ5, "append", "(I)Ljava/lang/AbstractStringBuilder;"⟩
abbrev cJ5_getValue_6d5f1 : ByteArray := prog_16_method_64_code
def yJ5_getValue_6d5f1 : MethodName := ⟨RJ5, "getValue", "()[B"⟩
abbrev cJ5_isLatin1_aae02 : ByteArray := prog_16_method_68_code
def yJ5_isLatin1_aae02 : MethodName := ⟨RJ5, "isLatin1", "()Z"⟩
abbrev cJ5_inflateIfNeededFor_a7421 : ByteArray := prog_16_method_71_code
def yJ5_inflateIfNeededFor_a7421 : MethodName := ⟨RJ5, "inflateIfNeededFor", "(Ljava/lang/String;)V"⟩
abbrev cJ5_putStringAt_47b60 : ByteArray := prog_16_method_73_code
def yJ5_putStringAt_47b60 : MethodName := ⟨RJ5, "putStringAt", "(ILjava/lang/String;)V"⟩
def RJ6 : String := "java/lang/Integer"
def TJ6 : u_T := fun k => match k with
  | _ => ("", "", "", false)
def tyJ6 : Nat → FieldType := fun k => match k with
  | _ => .int
abbrev wsJ60 : List Cond := u_ws RJ6 TJ6 0
theorem nmJ6 : ∀ a, a < 0 → ∀ b, b < 0 → a ≠ b → (TJ6 a).2.1 ≠ (TJ6 b).2.1 := by decide +kernel
theorem tyJ6_ok : ∀ k, k < 0 → parseFieldDescriptor (TJ6 k).2.2.1 = some (tyJ6 k) := by decide +kernel
abbrev cJ6_getChars_ba4f3 : ByteArray := prog_23_method_12_code
def yJ6_getChars_ba4f3 : MethodName := ⟨RJ6, "getChars", "(II[B)I"⟩
abbrev cJ6_stringSize_0f7a4 : ByteArray := prog_23_method_13_code
def yJ6_stringSize_0f7a4 : MethodName := ⟨RJ6, "stringSize", "(I)I"⟩
def RJ9 : String := "java/lang/Math"
def TJ9 : u_T := fun k => match k with
  | _ => ("", "", "", false)
def tyJ9 : Nat → FieldType := fun k => match k with
  | _ => .int
abbrev wsJ90 : List Cond := u_ws RJ9 TJ9 0
theorem nmJ9 : ∀ a, a < 0 → ∀ b, b < 0 → a ≠ b → (TJ9 a).2.1 ≠ (TJ9 b).2.1 := by decide +kernel
theorem tyJ9_ok : ∀ k, k < 0 → parseFieldDescriptor (TJ9 k).2.2.1 = some (tyJ9 k) := by decide +kernel
abbrev cJ9_max_7cf53 : ByteArray := prog_24_method_65_code
def yJ9_max_7cf53 : MethodName := ⟨RJ9, "max", "(II)I"⟩
abbrev cJ9_min_7cf53 : ByteArray := prog_24_method_69_code
def yJ9_min_7cf53 : MethodName := ⟨RJ9, "min", "(II)I"⟩
def RJ0 : String := "java/lang/String"
def TJ0 : u_T := fun k => match k with
  | 0 => ("java/lang/String", "value", "[B", true)
  | 1 => ("java/lang/String", "coder", "B", true)
  | 2 => ("java/lang/String", "hash", "I", false)
  | _ => ("java/lang/String", "hashIsZero", "Z", false)
def tyJ0 : Nat → FieldType := fun k => match k with
  | 0 => .array .byte
  | 1 => .byte
  | 2 => .int
  | _ => .boolean
abbrev wsJ00 : List Cond := u_ws RJ0 TJ0 4
theorem nmJ0 : ∀ a, a < 4 → ∀ b, b < 4 → a ≠ b → (TJ0 a).2.1 ≠ (TJ0 b).2.1 := by decide +kernel
theorem tyJ0_ok : ∀ k, k < 4 → parseFieldDescriptor (TJ0 k).2.2.1 = some (tyJ0 k) := by decide +kernel
abbrev cJ0_init_81219 : ByteArray := prog_27_method_53_code
def yJ0_init_81219 : MethodName := ⟨RJ0, "<init>", "(Ljava/lang/StringBuilder;)V"⟩
abbrev cJ0_length_8abf5 : ByteArray := prog_27_method_54_code
def yJ0_length_8abf5 : MethodName := ⟨RJ0, "length", "()I"⟩
abbrev cJ0_getBytes_840e7 : ByteArray := prog_27_method_147_code
def yJ0_getBytes_840e7 : MethodName := ⟨RJ0, "getBytes", "([BIB)V"⟩
abbrev cJ0_init_db425 : ByteArray := prog_27_method_150_code
def yJ0_init_db425 : MethodName := ⟨RJ0, "<init>", "(Ljava/lang/AbstractStringBuilder;Ljava/lang/Void;)V"⟩
abbrev cJ0_coder_7d493 : ByteArray := prog_27_method_152_code
def yJ0_coder_7d493 : MethodName := ⟨RJ0, "coder", "()B"⟩
abbrev cJ0_checkBoundsOffCount_cabcc : ByteArray := prog_27_method_157_code
def yJ0_checkBoundsOffCount_cabcc : MethodName := ⟨RJ0, "checkBoundsOffCount", "(III)I"⟩
abbrev cJ0_checkBoundsBeginEnd_23922 : ByteArray := prog_27_method_158_code
def yJ0_checkBoundsBeginEnd_23922 : MethodName := ⟨RJ0, "checkBoundsBeginEnd", "(III)V"⟩
def RJ4 : String := "java/lang/StringBuilder"
def TJ4 : u_T := fun k => match k with
  | 0 => ("java/lang/AbstractStringBuilder", "value", "[B", false)
  | 1 => ("java/lang/AbstractStringBuilder", "coder", "B", false)
  | 2 => ("java/lang/AbstractStringBuilder", "maybeLatin1", "Z", false)
  | _ => ("java/lang/AbstractStringBuilder", "count", "I", false)
def tyJ4 : Nat → FieldType := fun k => match k with
  | 0 => .array .byte
  | 1 => .byte
  | 2 => .boolean
  | _ => .int
abbrev wsJ40 : List Cond := u_ws RJ4 TJ4 4
theorem nmJ4 : ∀ a, a < 4 → ∀ b, b < 4 → a ≠ b → (TJ4 a).2.1 ≠ (TJ4 b).2.1 := by decide +kernel
theorem tyJ4_ok : ∀ k, k < 4 → parseFieldDescriptor (TJ4 k).2.2.1 = some (tyJ4 k) := by decide +kernel
abbrev cJ4_init_da8c8 : ByteArray := prog_28_method_1_code
def yJ4_init_da8c8 : MethodName := ⟨RJ4, "<init>", "()V"⟩
abbrev cJ4_append_15ec4 : ByteArray := prog_28_method_7_code
def yJ4_append_15ec4 : MethodName := ⟨RJ4, "append", "(Ljava/lang/String;)Ljava/lang/StringBuilder;"⟩
abbrev cJ4_append_bf812 : ByteArray := prog_28_method_15_code
def yJ4_append_bf812 : MethodName := ⟨RJ4, "append", "(I)Ljava/lang/StringBuilder;"⟩
abbrev cJ4_toString_0e30d : ByteArray := prog_28_method_42_code
def yJ4_toString_0e30d : MethodName := ⟨RJ4, "toString", "()Ljava/lang/String;"⟩
abbrev cJ4_length_8abf5 : ByteArray := prog_28_method_93_code
def yJ4_length_8abf5 : MethodName := ⟨RJ4, "length", "()I"⟩
def RJ1 : String := "java/lang/StringLatin1"
def TJ1 : u_T := fun k => match k with
  | _ => ("", "", "", false)
def tyJ1 : Nat → FieldType := fun k => match k with
  | _ => .int
abbrev wsJ10 : List Cond := u_ws RJ1 TJ1 0
theorem nmJ1 : ∀ a, a < 0 → ∀ b, b < 0 → a ≠ b → (TJ1 a).2.1 ≠ (TJ1 b).2.1 := by decide +kernel
theorem tyJ1_ok : ∀ k, k < 0 → parseFieldDescriptor (TJ1 k).2.2.1 = some (tyJ1 k) := by decide +kernel
abbrev cJ1_inflate_0e8fd : ByteArray := prog_29_method_50_code
def yJ1_inflate_0e8fd : MethodName := ⟨RJ1, "inflate", "([BI[BII)V"⟩
def RJ2 : String := "java/lang/StringUTF16"
def TJ2 : u_T := fun k => match k with
  | _ => ("", "", "", false)
def tyJ2 : Nat → FieldType := fun k => match k with
  | _ => .int
abbrev wsJ20 : List Cond := u_ws RJ2 TJ2 0
theorem nmJ2 : ∀ a, a < 0 → ∀ b, b < 0 → a ≠ b → (TJ2 a).2.1 ≠ (TJ2 b).2.1 := by decide +kernel
theorem tyJ2_ok : ∀ k, k < 0 → parseFieldDescriptor (TJ2 k).2.2.1 = some (tyJ2 k) := by decide +kernel
abbrev cJ2_newBytesFor_77867 : ByteArray := prog_30_method_2_code
def yJ2_newBytesFor_77867 : MethodName := ⟨RJ2, "newBytesFor", "(I)[B"⟩
abbrev cJ2_newBytesLength_0f7a4 : ByteArray := prog_30_method_3_code
def yJ2_newBytesLength_0f7a4 : MethodName := ⟨RJ2, "newBytesLength", "(I)I"⟩
abbrev cJ2_putChar_b72d1 : ByteArray := prog_30_method_4_code
def yJ2_putChar_b72d1 : MethodName := ⟨RJ2, "putChar", "([BII)V"⟩
abbrev cJ2_getChar_3b067 : ByteArray := prog_30_method_5_code
def yJ2_getChar_3b067 : MethodName := ⟨RJ2, "getChar", "([BI)C"⟩
abbrev cJ2_length_9d52b : ByteArray := prog_30_method_6_code
def yJ2_length_9d52b : MethodName := ⟨RJ2, "length", "([B)I"⟩
abbrev cJ2_coderFromArrayLen_85cad : ByteArray := prog_30_method_15_code
def yJ2_coderFromArrayLen_85cad : MethodName := ⟨RJ2, "coderFromArrayLen", "([BI)B"⟩
abbrev cJ2_compress_39247 : ByteArray := prog_30_method_17_code
def yJ2_compress_39247 : MethodName := ⟨RJ2, "compress", "([BII)[B"⟩
abbrev cJ2_compress_5af95 : ByteArray := prog_30_method_22_code
def yJ2_compress_5af95 : MethodName := ⟨RJ2, "compress", "([BI[BII)I"⟩
abbrev cJ2_getChars_46870 : ByteArray := prog_30_method_77_code
def yJ2_getChars_46870 : MethodName := ⟨RJ2, "getChars", "(III[B)I"⟩
abbrev cJ2_putCharsAt_cd4e5 : ByteArray := prog_30_method_81_code
def yJ2_putCharsAt_cd4e5 : MethodName := ⟨RJ2, "putCharsAt", "([BICCCC)I"⟩
abbrev cJ2_inflate_0e8fd : ByteArray := prog_30_method_86_code
def yJ2_inflate_0e8fd : MethodName := ⟨RJ2, "inflate", "([BI[BII)V"⟩
abbrev cJ2_getChars_ba4f3 : ByteArray := prog_30_method_89_code
def yJ2_getChars_ba4f3 : MethodName := ⟨RJ2, "getChars", "(II[B)I"⟩
abbrev cJ2_checkBoundsBeginEnd_d044e : ByteArray := prog_30_method_93_code
def yJ2_checkBoundsBeginEnd_d044e : MethodName := ⟨RJ2, "checkBoundsBeginEnd", "(II[B)V"⟩
abbrev cJ2_checkBoundsOffCount_d044e : ByteArray := prog_30_method_94_code
def yJ2_checkBoundsOffCount_d044e : MethodName := ⟨RJ2, "checkBoundsOffCount", "(II[B)V"⟩
def RJ10 : String := "java/lang/System"
def TJ10 : u_T := fun k => match k with
  | _ => ("", "", "", false)
def tyJ10 : Nat → FieldType := fun k => match k with
  | _ => .int
abbrev wsJ100 : List Cond := u_ws RJ10 TJ10 0
theorem nmJ10 : ∀ a, a < 0 → ∀ b, b < 0 → a ≠ b → (TJ10 a).2.1 ≠ (TJ10 b).2.1 := by decide +kernel
theorem tyJ10_ok : ∀ k, k < 0 → parseFieldDescriptor (TJ10 k).2.2.1 = some (tyJ10 k) := by decide +kernel
def RJ7 : String := "java/util/Arrays"
def TJ7 : u_T := fun k => match k with
  | _ => ("", "", "", false)
def tyJ7 : Nat → FieldType := fun k => match k with
  | _ => .int
abbrev wsJ70 : List Cond := u_ws RJ7 TJ7 0
theorem nmJ7 : ∀ a, a < 0 → ∀ b, b < 0 → a ≠ b → (TJ7 a).2.1 ≠ (TJ7 b).2.1 := by decide +kernel
theorem tyJ7_ok : ∀ k, k < 0 → parseFieldDescriptor (TJ7 k).2.2.1 = some (tyJ7 k) := by decide +kernel
abbrev cJ7_rangeCheck_23922 : ByteArray := prog_35_method_30_code
def yJ7_rangeCheck_23922 : MethodName := ⟨RJ7, "rangeCheck", "(III)V"⟩
abbrev cJ7_fill_53178 : ByteArray := prog_35_method_103_code
def yJ7_fill_53178 : MethodName := ⟨RJ7, "fill", "([II)V"⟩
abbrev cJ7_fill_fda19 : ByteArray := prog_35_method_104_code
def yJ7_fill_fda19 : MethodName := ⟨RJ7, "fill", "([IIII)V"⟩
abbrev cJ7_copyOf_9075b : ByteArray := prog_35_method_121_code
def yJ7_copyOf_9075b : MethodName := ⟨RJ7, "copyOf", "([BI)[B"⟩
abbrev cJ7_checkLength_df160 : ByteArray := prog_35_method_131_code
def yJ7_checkLength_df160 : MethodName := ⟨RJ7, "checkLength", "(II)V"⟩
abbrev cJ7_copyOfRange_39247 : ByteArray := prog_35_method_132_code
def yJ7_copyOfRange_39247 : MethodName := ⟨RJ7, "copyOfRange", "([BII)[B"⟩
abbrev cJ7_copyOfRangeByte_39247 : ByteArray := prog_35_method_133_code
def yJ7_copyOfRangeByte_39247 : MethodName := ⟨RJ7, "copyOfRangeByte", "([BII)[B"⟩
def RJ8 : String := "jdk/internal/util/ArraysSupport"
def TJ8 : u_T := fun k => match k with
  | _ => ("", "", "", false)
def tyJ8 : Nat → FieldType := fun k => match k with
  | _ => .int
abbrev wsJ80 : List Cond := u_ws RJ8 TJ8 0
theorem nmJ8 : ∀ a, a < 0 → ∀ b, b < 0 → a ≠ b → (TJ8 a).2.1 ≠ (TJ8 b).2.1 := by decide +kernel
theorem tyJ8_ok : ∀ k, k < 0 → parseFieldDescriptor (TJ8 k).2.2.1 = some (tyJ8 k) := by decide +kernel
abbrev cJ8_newLength_cabcc : ByteArray := prog_37_method_27_code
def yJ8_newLength_cabcc : MethodName := ⟨RJ8, "newLength", "(III)I"⟩
abbrev cJ8_hugeLength_7cf53 : ByteArray := prog_37_method_28_code
def yJ8_hugeLength_7cf53 : MethodName := ⟨RJ8, "hugeLength", "(II)I"⟩
def RJ3 : String := "jdk/internal/util/Preconditions"
def TJ3 : u_T := fun k => match k with
  | _ => ("", "", "", false)
def tyJ3 : Nat → FieldType := fun k => match k with
  | _ => .int
abbrev wsJ30 : List Cond := u_ws RJ3 TJ3 0
theorem nmJ3 : ∀ a, a < 0 → ∀ b, b < 0 → a ≠ b → (TJ3 a).2.1 ≠ (TJ3 b).2.1 := by decide +kernel
theorem tyJ3_ok : ∀ k, k < 0 → parseFieldDescriptor (TJ3 k).2.2.1 = some (tyJ3 k) := by decide +kernel
abbrev cJ3_checkFromToIndex_8c36e : ByteArray := prog_38_method_12_code
def yJ3_checkFromToIndex_8c36e : MethodName := ⟨RJ3, "checkFromToIndex", "(IIILjava/util/function/BiFunction;)I"⟩
abbrev cJ3_checkFromIndexSize_8c36e : ByteArray := prog_38_method_13_code
def yJ3_checkFromIndexSize_8c36e : MethodName := ⟨RJ3, "checkFromIndexSize", "(IIILjava/util/function/BiFunction;)I"⟩
def RL : String := "StraightPolysLaw"
abbrev cL_tell : ByteArray := method_3_code
def yL_tell : MethodName := ⟨RL, "tell", "(LStraightPolys;II[J)I"⟩
abbrev cL_count : ByteArray := method_4_code
def yL_count : MethodName := ⟨RL, "count", "(LStraightPolys;I[J)I"⟩
abbrev cL_step : ByteArray := method_5_code
def yL_step : MethodName := ⟨RL, "step", "(LStraightPolys;II[J)I"⟩
abbrev cL_at : ByteArray := method_6_code
def yL_at : MethodName := ⟨RL, "at", "(LStraightPolys;IZIII[J)I"⟩
abbrev cL_fit : ByteArray := method_7_code
def yL_fit : MethodName := ⟨RL, "fit", "(LStraightPolys;I[J)I"⟩
abbrev cL_of : ByteArray := method_8_code
def yL_of : MethodName := ⟨RL, "of", "(LStraightPolys;II[J)I"⟩
abbrev cL_term : ByteArray := method_9_code
def yL_term : MethodName := ⟨RL, "term", "(LStraightPolys;IIII[J)I"⟩
abbrev cL_number : ByteArray := method_10_code
def yL_number : MethodName := ⟨RL, "number", "(LStraightPolys;IIII[J)I"⟩
abbrev cL_value : ByteArray := method_11_code
def yL_value : MethodName := ⟨RL, "value", "(LStraightPolys;IIII[J)I"⟩
abbrev cL_same : ByteArray := method_12_code
def yL_same : MethodName := ⟨RL, "same", "(LStraightPolys;IIZ[J)I"⟩
abbrev cL_witness : ByteArray := method_13_code
def yL_witness : MethodName := ⟨RL, "witness", "(LStraightPolys;II[J)I"⟩
abbrev cL_factor : ByteArray := method_14_code
def yL_factor : MethodName := ⟨RL, "factor", "(LStraightPolys;III[J)I"⟩
abbrev cL_often : ByteArray := method_15_code
def yL_often : MethodName := ⟨RL, "often", "(LStraightPolys;IIIII[J)I"⟩
abbrev cL_say : ByteArray := method_16_code
def yL_say : MethodName := ⟨RL, "say", "(LStraightPolys;I[J)I"⟩
abbrev cL_law : ByteArray := code
def yL_law : MethodName := ⟨RL, "law", "([I)Z"⟩
abbrev vwCl : List vw_C := [(RJ0, TJ0, 4), (RJ4, TJ4, 4), (RX0, TX0, 4), (RX1, TX1, 3), (RX2, TX2, 14), (RX3, TX3, 6), (RX4, TX4, 1), (RX5, TX5, 4), (RX6, TX6, 4), (RX7, TX7, 10), (RX8, TX8, 9), (RX9, TX9, 9), (RX10, TX10, 2), (RX11, TX11, 12), (RX12, TX12, 52)]
