section
def lw_okq (q : MethodName × Nat) : Prop := (q.1.cls ≠ "java/lang/invoke/MethodHandle" ∧ q.1.cls ≠ "java/lang/invoke/VarHandle") ∧ Cond.instantiable q.1.cls q.2 ∈ tables_1 ∧ Cond.privateMethod q.1 ∈ tables_1 ∧ Cond.instanceMethod q.1 ∈ tables_1
theorem lw_p0 : lw_okq (⟨"WellPipes", "found", "(I)I"⟩, 9) := ⟨⟨by decide +kernel, by decide +kernel⟩, List.mem_of_getElem? (i := 13) (by decide +kernel), List.mem_of_getElem? (i := 222) (by decide +kernel), List.mem_of_getElem? (i := 223) (by decide +kernel)⟩
theorem lw_p1 : lw_okq (⟨"WellPipes", "passed", "(I)I"⟩, 9) := ⟨⟨by decide +kernel, by decide +kernel⟩, List.mem_of_getElem? (i := 13) (by decide +kernel), List.mem_of_getElem? (i := 234) (by decide +kernel), List.mem_of_getElem? (i := 235) (by decide +kernel)⟩
theorem lw_p2 : lw_okq (⟨"WellPipes$Reader", "readLaw", "(LWellPipes$Well;)V"⟩, 6) := ⟨⟨by decide +kernel, by decide +kernel⟩, List.mem_of_getElem? (i := 23) (by decide +kernel), List.mem_of_getElem? (i := 282) (by decide +kernel), List.mem_of_getElem? (i := 283) (by decide +kernel)⟩
theorem lw_p3 : lw_okq (⟨"WellPipes$Reader", "readSign", "(C)V"⟩, 6) := ⟨⟨by decide +kernel, by decide +kernel⟩, List.mem_of_getElem? (i := 23) (by decide +kernel), List.mem_of_getElem? (i := 286) (by decide +kernel), List.mem_of_getElem? (i := 287) (by decide +kernel)⟩
theorem lw_p4 : lw_okq (⟨"WellPipes$Reader", "fail", "(I)V"⟩, 6) := ⟨⟨by decide +kernel, by decide +kernel⟩, List.mem_of_getElem? (i := 23) (by decide +kernel), List.mem_of_getElem? (i := 290) (by decide +kernel), List.mem_of_getElem? (i := 291) (by decide +kernel)⟩
theorem lw_p5 : lw_okq (⟨"WellPipes$Reader", "readNumber", "(II)I"⟩, 6) := ⟨⟨by decide +kernel, by decide +kernel⟩, List.mem_of_getElem? (i := 23) (by decide +kernel), List.mem_of_getElem? (i := 294) (by decide +kernel), List.mem_of_getElem? (i := 295) (by decide +kernel)⟩
theorem lw_p6 : lw_okq (⟨"WellPipes$Reader", "readRule", "(I)I"⟩, 6) := ⟨⟨by decide +kernel, by decide +kernel⟩, List.mem_of_getElem? (i := 23) (by decide +kernel), List.mem_of_getElem? (i := 298) (by decide +kernel), List.mem_of_getElem? (i := 299) (by decide +kernel)⟩
theorem lw_p7 : lw_okq (⟨"WellPipes$Reader", "readGas", "(LWellPipes$Well;)V"⟩, 6) := ⟨⟨by decide +kernel, by decide +kernel⟩, List.mem_of_getElem? (i := 23) (by decide +kernel), List.mem_of_getElem? (i := 306) (by decide +kernel), List.mem_of_getElem? (i := 307) (by decide +kernel)⟩
theorem lw_p8 : lw_okq (⟨"WellPipes$Reader", "readGrade", "(LWellPipes$Well;I)V"⟩, 6) := ⟨⟨by decide +kernel, by decide +kernel⟩, List.mem_of_getElem? (i := 23) (by decide +kernel), List.mem_of_getElem? (i := 310) (by decide +kernel), List.mem_of_getElem? (i := 311) (by decide +kernel)⟩
theorem lw_p9 : lw_okq (⟨"WellPipes$Reader", "kindAtHand", "()I"⟩, 6) := ⟨⟨by decide +kernel, by decide +kernel⟩, List.mem_of_getElem? (i := 23) (by decide +kernel), List.mem_of_getElem? (i := 314) (by decide +kernel), List.mem_of_getElem? (i := 315) (by decide +kernel)⟩
theorem lw_p10 : lw_okq (⟨"WellPipes", "isStep", "(I)Z"⟩, 9) := ⟨⟨by decide +kernel, by decide +kernel⟩, List.mem_of_getElem? (i := 13) (by decide +kernel), List.mem_of_getElem? (i := 357) (by decide +kernel), List.mem_of_getElem? (i := 358) (by decide +kernel)⟩
theorem lw_p11 : lw_okq (⟨"WellPipes", "isGrade", "(I)Z"⟩, 9) := ⟨⟨by decide +kernel, by decide +kernel⟩, List.mem_of_getElem? (i := 13) (by decide +kernel), List.mem_of_getElem? (i := 361) (by decide +kernel), List.mem_of_getElem? (i := 362) (by decide +kernel)⟩
theorem lw_p12 : lw_okq (⟨"WellPipes", "hasNoWell", "()Z"⟩, 9) := ⟨⟨by decide +kernel, by decide +kernel⟩, List.mem_of_getElem? (i := 13) (by decide +kernel), List.mem_of_getElem? (i := 378) (by decide +kernel), List.mem_of_getElem? (i := 379) (by decide +kernel)⟩
theorem lw_p13 : lw_okq (⟨"WellPipes$Search", "swap", "()V"⟩, 9) := ⟨⟨by decide +kernel, by decide +kernel⟩, List.mem_of_getElem? (i := 93) (by decide +kernel), List.mem_of_getElem? (i := 394) (by decide +kernel), List.mem_of_getElem? (i := 395) (by decide +kernel)⟩
theorem lw_p14 : lw_okq (⟨"WellPipes$Search", "layOnAll", "(II)V"⟩, 9) := ⟨⟨by decide +kernel, by decide +kernel⟩, List.mem_of_getElem? (i := 93) (by decide +kernel), List.mem_of_getElem? (i := 398) (by decide +kernel), List.mem_of_getElem? (i := 399) (by decide +kernel)⟩
theorem lw_p15 : lw_okq (⟨"WellPipes$Search", "layOn", "(IIII)V"⟩, 9) := ⟨⟨by decide +kernel, by decide +kernel⟩, List.mem_of_getElem? (i := 93) (by decide +kernel), List.mem_of_getElem? (i := 436) (by decide +kernel), List.mem_of_getElem? (i := 437) (by decide +kernel)⟩
def lw_privs_1 : List (MethodName × Nat) := [(⟨"WellPipes", "found", "(I)I"⟩, 9), (⟨"WellPipes", "passed", "(I)I"⟩, 9), (⟨"WellPipes$Reader", "readLaw", "(LWellPipes$Well;)V"⟩, 6), (⟨"WellPipes$Reader", "readSign", "(C)V"⟩, 6), (⟨"WellPipes$Reader", "fail", "(I)V"⟩, 6), (⟨"WellPipes$Reader", "readNumber", "(II)I"⟩, 6), (⟨"WellPipes$Reader", "readRule", "(I)I"⟩, 6), (⟨"WellPipes$Reader", "readGas", "(LWellPipes$Well;)V"⟩, 6), (⟨"WellPipes$Reader", "readGrade", "(LWellPipes$Well;I)V"⟩, 6), (⟨"WellPipes$Reader", "kindAtHand", "()I"⟩, 6), (⟨"WellPipes", "isStep", "(I)Z"⟩, 9), (⟨"WellPipes", "isGrade", "(I)Z"⟩, 9), (⟨"WellPipes", "hasNoWell", "()Z"⟩, 9), (⟨"WellPipes$Search", "swap", "()V"⟩, 9), (⟨"WellPipes$Search", "layOnAll", "(II)V"⟩, 9), (⟨"WellPipes$Search", "layOn", "(IIII)V"⟩, 9)]
theorem lw_r1 : ∀ q ∈ lw_privs_1, lw_okq q := List.forall_mem_cons.mpr ⟨lw_p0, List.forall_mem_cons.mpr ⟨lw_p1, List.forall_mem_cons.mpr ⟨lw_p2, List.forall_mem_cons.mpr ⟨lw_p3, List.forall_mem_cons.mpr ⟨lw_p4, List.forall_mem_cons.mpr ⟨lw_p5, List.forall_mem_cons.mpr ⟨lw_p6, List.forall_mem_cons.mpr ⟨lw_p7, List.forall_mem_cons.mpr ⟨lw_p8, List.forall_mem_cons.mpr ⟨lw_p9, List.forall_mem_cons.mpr ⟨lw_p10, List.forall_mem_cons.mpr ⟨lw_p11, List.forall_mem_cons.mpr ⟨lw_p12, List.forall_mem_cons.mpr ⟨lw_p13, List.forall_mem_cons.mpr ⟨lw_p14, List.forall_mem_cons.mpr ⟨lw_p15, fun _ h => absurd h List.not_mem_nil⟩⟩⟩⟩⟩⟩⟩⟩⟩⟩⟩⟩⟩⟩⟩⟩
theorem lw_p16 : lw_okq (⟨"WellPipes$Search", "choose", "()Z"⟩, 9) := ⟨⟨by decide +kernel, by decide +kernel⟩, List.mem_of_getElem? (i := 93) (by decide +kernel), List.mem_of_getElem? (i := 447) (by decide +kernel), List.mem_of_getElem? (i := 448) (by decide +kernel)⟩
theorem lw_p17 : lw_okq (⟨"WellPipes$Search", "tellString", "(I)V"⟩, 9) := ⟨⟨by decide +kernel, by decide +kernel⟩, List.mem_of_getElem? (i := 93) (by decide +kernel), List.mem_of_getElem? (i := 451) (by decide +kernel), List.mem_of_getElem? (i := 452) (by decide +kernel)⟩
theorem lw_p18 : lw_okq (⟨"WellPipes", "isBest", "(LWellPipes$Well;LWellPipes$Row;I)Z"⟩, 9) := ⟨⟨by decide +kernel, by decide +kernel⟩, List.mem_of_getElem? (i := 13) (by decide +kernel), List.mem_of_getElem? (i := 564) (by decide +kernel), List.mem_of_getElem? (i := 565) (by decide +kernel)⟩
theorem lw_p19 : lw_okq (⟨"WellPipes$Asks", "bodyFor", "(I)I"⟩, 4) := ⟨⟨by decide +kernel, by decide +kernel⟩, List.mem_of_getElem? (i := 147) (by decide +kernel), List.mem_of_getElem? (i := 626) (by decide +kernel), List.mem_of_getElem? (i := 627) (by decide +kernel)⟩
theorem lw_p20 : lw_okq (⟨"WellPipes$Asks", "begin", "(II)I"⟩, 4) := ⟨⟨by decide +kernel, by decide +kernel⟩, List.mem_of_getElem? (i := 147) (by decide +kernel), List.mem_of_getElem? (i := 634) (by decide +kernel), List.mem_of_getElem? (i := 635) (by decide +kernel)⟩
theorem lw_p21 : lw_okq (⟨"WellPipes", "howManyRows", "()I"⟩, 9) := ⟨⟨by decide +kernel, by decide +kernel⟩, List.mem_of_getElem? (i := 13) (by decide +kernel), List.mem_of_getElem? (i := 647) (by decide +kernel), List.mem_of_getElem? (i := 648) (by decide +kernel)⟩
theorem lw_p22 : lw_okq (⟨"WellPipesModel", "finding", "(I)I"⟩, 26) := ⟨⟨by decide +kernel, by decide +kernel⟩, List.mem_of_getElem? (i := 663) (by decide +kernel), List.mem_of_getElem? (i := 762) (by decide +kernel), List.mem_of_getElem? (i := 763) (by decide +kernel)⟩
theorem lw_p23 : lw_okq (⟨"WellPipesModel", "begin", "()V"⟩, 26) := ⟨⟨by decide +kernel, by decide +kernel⟩, List.mem_of_getElem? (i := 663) (by decide +kernel), List.mem_of_getElem? (i := 793) (by decide +kernel), List.mem_of_getElem? (i := 794) (by decide +kernel)⟩
theorem lw_p24 : lw_okq (⟨"WellPipesModel", "nextToken", "()V"⟩, 26) := ⟨⟨by decide +kernel, by decide +kernel⟩, List.mem_of_getElem? (i := 663) (by decide +kernel), List.mem_of_getElem? (i := 797) (by decide +kernel), List.mem_of_getElem? (i := 798) (by decide +kernel)⟩
theorem lw_p25 : lw_okq (⟨"WellPipesModel", "isLetter", "(I)Z"⟩, 26) := ⟨⟨by decide +kernel, by decide +kernel⟩, List.mem_of_getElem? (i := 663) (by decide +kernel), List.mem_of_getElem? (i := 806) (by decide +kernel), List.mem_of_getElem? (i := 807) (by decide +kernel)⟩
theorem lw_p26 : lw_okq (⟨"WellPipesModel", "must", "(Z)V"⟩, 26) := ⟨⟨by decide +kernel, by decide +kernel⟩, List.mem_of_getElem? (i := 663) (by decide +kernel), List.mem_of_getElem? (i := 810) (by decide +kernel), List.mem_of_getElem? (i := 811) (by decide +kernel)⟩
theorem lw_p27 : lw_okq (⟨"WellPipesModel", "bad", "(I)V"⟩, 26) := ⟨⟨by decide +kernel, by decide +kernel⟩, List.mem_of_getElem? (i := 663) (by decide +kernel), List.mem_of_getElem? (i := 814) (by decide +kernel), List.mem_of_getElem? (i := 815) (by decide +kernel)⟩
theorem lw_p28 : lw_okq (⟨"WellPipesModel", "number", "(II)I"⟩, 26) := ⟨⟨by decide +kernel, by decide +kernel⟩, List.mem_of_getElem? (i := 663) (by decide +kernel), List.mem_of_getElem? (i := 818) (by decide +kernel), List.mem_of_getElem? (i := 819) (by decide +kernel)⟩
theorem lw_p29 : lw_okq (⟨"WellPipesModel", "mustSign", "(I)V"⟩, 26) := ⟨⟨by decide +kernel, by decide +kernel⟩, List.mem_of_getElem? (i := 663) (by decide +kernel), List.mem_of_getElem? (i := 822) (by decide +kernel), List.mem_of_getElem? (i := 823) (by decide +kernel)⟩
theorem lw_p30 : lw_okq (⟨"WellPipesModel", "isSort", "()Z"⟩, 26) := ⟨⟨by decide +kernel, by decide +kernel⟩, List.mem_of_getElem? (i := 663) (by decide +kernel), List.mem_of_getElem? (i := 826) (by decide +kernel), List.mem_of_getElem? (i := 827) (by decide +kernel)⟩
theorem lw_p31 : lw_okq (⟨"WellPipesModel", "readGrade", "()V"⟩, 26) := ⟨⟨by decide +kernel, by decide +kernel⟩, List.mem_of_getElem? (i := 663) (by decide +kernel), List.mem_of_getElem? (i := 833) (by decide +kernel), List.mem_of_getElem? (i := 834) (by decide +kernel)⟩
def lw_privs_2 : List (MethodName × Nat) := [(⟨"WellPipes$Search", "choose", "()Z"⟩, 9), (⟨"WellPipes$Search", "tellString", "(I)V"⟩, 9), (⟨"WellPipes", "isBest", "(LWellPipes$Well;LWellPipes$Row;I)Z"⟩, 9), (⟨"WellPipes$Asks", "bodyFor", "(I)I"⟩, 4), (⟨"WellPipes$Asks", "begin", "(II)I"⟩, 4), (⟨"WellPipes", "howManyRows", "()I"⟩, 9), (⟨"WellPipesModel", "finding", "(I)I"⟩, 26), (⟨"WellPipesModel", "begin", "()V"⟩, 26), (⟨"WellPipesModel", "nextToken", "()V"⟩, 26), (⟨"WellPipesModel", "isLetter", "(I)Z"⟩, 26), (⟨"WellPipesModel", "must", "(Z)V"⟩, 26), (⟨"WellPipesModel", "bad", "(I)V"⟩, 26), (⟨"WellPipesModel", "number", "(II)I"⟩, 26), (⟨"WellPipesModel", "mustSign", "(I)V"⟩, 26), (⟨"WellPipesModel", "isSort", "()Z"⟩, 26), (⟨"WellPipesModel", "readGrade", "()V"⟩, 26)]
theorem lw_r2 : ∀ q ∈ lw_privs_2, lw_okq q := List.forall_mem_cons.mpr ⟨lw_p16, List.forall_mem_cons.mpr ⟨lw_p17, List.forall_mem_cons.mpr ⟨lw_p18, List.forall_mem_cons.mpr ⟨lw_p19, List.forall_mem_cons.mpr ⟨lw_p20, List.forall_mem_cons.mpr ⟨lw_p21, List.forall_mem_cons.mpr ⟨lw_p22, List.forall_mem_cons.mpr ⟨lw_p23, List.forall_mem_cons.mpr ⟨lw_p24, List.forall_mem_cons.mpr ⟨lw_p25, List.forall_mem_cons.mpr ⟨lw_p26, List.forall_mem_cons.mpr ⟨lw_p27, List.forall_mem_cons.mpr ⟨lw_p28, List.forall_mem_cons.mpr ⟨lw_p29, List.forall_mem_cons.mpr ⟨lw_p30, List.forall_mem_cons.mpr ⟨lw_p31, fun _ h => absurd h List.not_mem_nil⟩⟩⟩⟩⟩⟩⟩⟩⟩⟩⟩⟩⟩⟩⟩⟩
theorem lw_p32 : lw_okq (⟨"WellPipesModel", "failed", "()Z"⟩, 26) := ⟨⟨by decide +kernel, by decide +kernel⟩, List.mem_of_getElem? (i := 663) (by decide +kernel), List.mem_of_getElem? (i := 837) (by decide +kernel), List.mem_of_getElem? (i := 838) (by decide +kernel)⟩
theorem lw_p33 : lw_okq (⟨"WellPipesModel", "isStep", "(I)Z"⟩, 26) := ⟨⟨by decide +kernel, by decide +kernel⟩, List.mem_of_getElem? (i := 663) (by decide +kernel), List.mem_of_getElem? (i := 846) (by decide +kernel), List.mem_of_getElem? (i := 847) (by decide +kernel)⟩
theorem lw_p34 : lw_okq (⟨"WellPipesModel", "isGrade", "(I)Z"⟩, 26) := ⟨⟨by decide +kernel, by decide +kernel⟩, List.mem_of_getElem? (i := 663) (by decide +kernel), List.mem_of_getElem? (i := 850) (by decide +kernel), List.mem_of_getElem? (i := 851) (by decide +kernel)⟩
theorem lw_p35 : lw_okq (⟨"WellPipesModel", "keep", "()V"⟩, 26) := ⟨⟨by decide +kernel, by decide +kernel⟩, List.mem_of_getElem? (i := 663) (by decide +kernel), List.mem_of_getElem? (i := 855) (by decide +kernel), List.mem_of_getElem? (i := 856) (by decide +kernel)⟩
theorem lw_p36 : lw_okq (⟨"WellPipesModel", "isThere", "()Z"⟩, 26) := ⟨⟨by decide +kernel, by decide +kernel⟩, List.mem_of_getElem? (i := 663) (by decide +kernel), List.mem_of_getElem? (i := 863) (by decide +kernel), List.mem_of_getElem? (i := 864) (by decide +kernel)⟩
theorem lw_p37 : lw_okq (⟨"WellPipesModel", "laysBest", "([II)I"⟩, 26) := ⟨⟨by decide +kernel, by decide +kernel⟩, List.mem_of_getElem? (i := 663) (by decide +kernel), List.mem_of_getElem? (i := 867) (by decide +kernel), List.mem_of_getElem? (i := 868) (by decide +kernel)⟩
theorem lw_p38 : lw_okq (⟨"WellPipesModel", "leastAt", "([IIIIII)I"⟩, 26) := ⟨⟨by decide +kernel, by decide +kernel⟩, List.mem_of_getElem? (i := 663) (by decide +kernel), List.mem_of_getElem? (i := 874) (by decide +kernel), List.mem_of_getElem? (i := 875) (by decide +kernel)⟩
theorem lw_p39 : lw_okq (⟨"WellPipesModel", "through", "([IIIIII)I"⟩, 26) := ⟨⟨by decide +kernel, by decide +kernel⟩, List.mem_of_getElem? (i := 663) (by decide +kernel), List.mem_of_getElem? (i := 879) (by decide +kernel), List.mem_of_getElem? (i := 880) (by decide +kernel)⟩
theorem lw_p40 : lw_okq (⟨"WellPipesModel", "firstLoose", "()I"⟩, 26) := ⟨⟨by decide +kernel, by decide +kernel⟩, List.mem_of_getElem? (i := 663) (by decide +kernel), List.mem_of_getElem? (i := 948) (by decide +kernel), List.mem_of_getElem? (i := 949) (by decide +kernel)⟩
theorem lw_p41 : lw_okq (⟨"WellPipesModel", "layThen", "()V"⟩, 26) := ⟨⟨by decide +kernel, by decide +kernel⟩, List.mem_of_getElem? (i := 663) (by decide +kernel), List.mem_of_getElem? (i := 967) (by decide +kernel), List.mem_of_getElem? (i := 968) (by decide +kernel)⟩
theorem lw_p42 : lw_okq (⟨"WellPipesModel", "heftAt", "(I)I"⟩, 26) := ⟨⟨by decide +kernel, by decide +kernel⟩, List.mem_of_getElem? (i := 663) (by decide +kernel), List.mem_of_getElem? (i := 991) (by decide +kernel), List.mem_of_getElem? (i := 992) (by decide +kernel)⟩
theorem lw_p43 : lw_okq (⟨"WellPipesModel", "bestTurn", "(II)I"⟩, 26) := ⟨⟨by decide +kernel, by decide +kernel⟩, List.mem_of_getElem? (i := 663) (by decide +kernel), List.mem_of_getElem? (i := 999) (by decide +kernel), List.mem_of_getElem? (i := 1000) (by decide +kernel)⟩
theorem lw_p44 : lw_okq (⟨"WellPipesModel", "rowFound", "(III)I"⟩, 26) := ⟨⟨by decide +kernel, by decide +kernel⟩, List.mem_of_getElem? (i := 663) (by decide +kernel), List.mem_of_getElem? (i := 1007) (by decide +kernel), List.mem_of_getElem? (i := 1008) (by decide +kernel)⟩
theorem lw_p45 : lw_okq (⟨"WellPipesModel", "sizeOf", "(I)I"⟩, 26) := ⟨⟨by decide +kernel, by decide +kernel⟩, List.mem_of_getElem? (i := 663) (by decide +kernel), List.mem_of_getElem? (i := 1053) (by decide +kernel), List.mem_of_getElem? (i := 1054) (by decide +kernel)⟩
theorem lw_p46 : lw_okq (⟨"WellPipesModel", "thickSize", "(I)I"⟩, 26) := ⟨⟨by decide +kernel, by decide +kernel⟩, List.mem_of_getElem? (i := 663) (by decide +kernel), List.mem_of_getElem? (i := 1057) (by decide +kernel), List.mem_of_getElem? (i := 1058) (by decide +kernel)⟩
theorem lw_p47 : lw_okq (⟨"WellPipesModel", "began", "(I)V"⟩, 26) := ⟨⟨by decide +kernel, by decide +kernel⟩, List.mem_of_getElem? (i := 663) (by decide +kernel), List.mem_of_getElem? (i := 1061) (by decide +kernel), List.mem_of_getElem? (i := 1062) (by decide +kernel)⟩
def lw_privs_3 : List (MethodName × Nat) := [(⟨"WellPipesModel", "failed", "()Z"⟩, 26), (⟨"WellPipesModel", "isStep", "(I)Z"⟩, 26), (⟨"WellPipesModel", "isGrade", "(I)Z"⟩, 26), (⟨"WellPipesModel", "keep", "()V"⟩, 26), (⟨"WellPipesModel", "isThere", "()Z"⟩, 26), (⟨"WellPipesModel", "laysBest", "([II)I"⟩, 26), (⟨"WellPipesModel", "leastAt", "([IIIIII)I"⟩, 26), (⟨"WellPipesModel", "through", "([IIIIII)I"⟩, 26), (⟨"WellPipesModel", "firstLoose", "()I"⟩, 26), (⟨"WellPipesModel", "layThen", "()V"⟩, 26), (⟨"WellPipesModel", "heftAt", "(I)I"⟩, 26), (⟨"WellPipesModel", "bestTurn", "(II)I"⟩, 26), (⟨"WellPipesModel", "rowFound", "(III)I"⟩, 26), (⟨"WellPipesModel", "sizeOf", "(I)I"⟩, 26), (⟨"WellPipesModel", "thickSize", "(I)I"⟩, 26), (⟨"WellPipesModel", "began", "(I)V"⟩, 26)]
theorem lw_r3 : ∀ q ∈ lw_privs_3, lw_okq q := List.forall_mem_cons.mpr ⟨lw_p32, List.forall_mem_cons.mpr ⟨lw_p33, List.forall_mem_cons.mpr ⟨lw_p34, List.forall_mem_cons.mpr ⟨lw_p35, List.forall_mem_cons.mpr ⟨lw_p36, List.forall_mem_cons.mpr ⟨lw_p37, List.forall_mem_cons.mpr ⟨lw_p38, List.forall_mem_cons.mpr ⟨lw_p39, List.forall_mem_cons.mpr ⟨lw_p40, List.forall_mem_cons.mpr ⟨lw_p41, List.forall_mem_cons.mpr ⟨lw_p42, List.forall_mem_cons.mpr ⟨lw_p43, List.forall_mem_cons.mpr ⟨lw_p44, List.forall_mem_cons.mpr ⟨lw_p45, List.forall_mem_cons.mpr ⟨lw_p46, List.forall_mem_cons.mpr ⟨lw_p47, fun _ h => absurd h List.not_mem_nil⟩⟩⟩⟩⟩⟩⟩⟩⟩⟩⟩⟩⟩⟩⟩⟩
theorem lw_p48 : lw_okq (⟨"WellPipesModel", "plainSize", "(I)I"⟩, 26) := ⟨⟨by decide +kernel, by decide +kernel⟩, List.mem_of_getElem? (i := 663) (by decide +kernel), List.mem_of_getElem? (i := 1065) (by decide +kernel), List.mem_of_getElem? (i := 1066) (by decide +kernel)⟩
theorem lw_p49 : lw_okq (⟨"WellPipesModel", "markOf", "(I)I"⟩, 26) := ⟨⟨by decide +kernel, by decide +kernel⟩, List.mem_of_getElem? (i := 663) (by decide +kernel), List.mem_of_getElem? (i := 1069) (by decide +kernel), List.mem_of_getElem? (i := 1070) (by decide +kernel)⟩
def lw_privs_4 : List (MethodName × Nat) := [(⟨"WellPipesModel", "plainSize", "(I)I"⟩, 26), (⟨"WellPipesModel", "markOf", "(I)I"⟩, 26)]
theorem lw_r4 : ∀ q ∈ lw_privs_4, lw_okq q := List.forall_mem_cons.mpr ⟨lw_p48, List.forall_mem_cons.mpr ⟨lw_p49, fun _ h => absurd h List.not_mem_nil⟩⟩
def lw_privs : List (MethodName × Nat) := lw_privs_1 ++ (lw_privs_2 ++ (lw_privs_3 ++ (lw_privs_4)))
def lw_tbl : List Cond := k2_sels lw_privs ++ tables_1
theorem lw_privs_ok : ∀ q ∈ lw_privs, lw_okq q := by
  show ∀ q ∈ lw_privs_1 ++ (lw_privs_2 ++ (lw_privs_3 ++ (lw_privs_4))), lw_okq q
  exact List.forall_mem_append.mpr ⟨lw_r1, List.forall_mem_append.mpr ⟨lw_r2, List.forall_mem_append.mpr ⟨lw_r3, lw_r4⟩⟩⟩
def RX0 : String := "WellPipes$Acts"
def TX0 : u_T := fun k => match k with
  | 0 => ("WellPipes$Acts", "whats", "[I", true)
  | 1 => ("WellPipes$Acts", "befores", "[I", true)
  | _ => ("WellPipes$Acts", "kept", "I", false)
def tyX0 : Nat → FieldType := fun k => match k with
  | 0 => .array .int
  | 1 => .array .int
  | _ => .int
abbrev wsX00 : List Cond := u_ws RX0 TX0 3
theorem nmX0 : ∀ a, a < 3 → ∀ b, b < 3 → a ≠ b → (TX0 a).2.1 ≠ (TX0 b).2.1 := by decide +kernel
theorem tyX0_ok : ∀ k, k < 3 → parseFieldDescriptor (TX0 k).2.2.1 = some (tyX0 k) := by decide +kernel
abbrev cX0_init : ByteArray := prog_2_method_1_code
def yX0_init : MethodName := ⟨RX0, "<init>", "()V"⟩
abbrev cX0_keep : ByteArray := prog_2_method_2_code
def yX0_keep : MethodName := ⟨RX0, "keep", "(II)V"⟩
abbrev cX0_takeBack : ByteArray := prog_2_method_3_code
def yX0_takeBack : MethodName := ⟨RX0, "takeBack", "(LWellPipes$Well;)V"⟩
abbrev cX0_forgetAll : ByteArray := prog_2_method_4_code
def yX0_forgetAll : MethodName := ⟨RX0, "forgetAll", "()V"⟩
def RX1 : String := "WellPipes$Asks"
def TX1 : u_T := fun k => match k with
  | 0 => ("WellPipes$Asks", "bodies", "[I", true)
  | 1 => ("WellPipes$Asks", "left", "I", false)
  | 2 => ("WellPipes$Asks", "well", "LWellPipes$Well;", false)
  | _ => ("WellPipes$Asks", "one", "I", false)
def tyX1 : Nat → FieldType := fun k => match k with
  | 0 => .array .int
  | 1 => .int
  | 2 => .object "WellPipes$Well"
  | _ => .int
abbrev wsX10 : List Cond := u_ws RX1 TX1 4
theorem nmX1 : ∀ a, a < 4 → ∀ b, b < 4 → a ≠ b → (TX1 a).2.1 ≠ (TX1 b).2.1 := by decide +kernel
theorem tyX1_ok : ∀ k, k < 4 → parseFieldDescriptor (TX1 k).2.2.1 = some (tyX1 k) := by decide +kernel
abbrev cX1_init : ByteArray := prog_3_method_1_code
def yX1_init : MethodName := ⟨RX1, "<init>", "()V"⟩
abbrev cX1_answer : ByteArray := prog_3_method_2_code
def yX1_answer : MethodName := ⟨RX1, "answer", "(LWellPipes$Well;II)I"⟩
abbrev cX1_bodyFor : ByteArray := prog_3_method_3_code
def yX1_bodyFor : MethodName := ⟨RX1, "bodyFor", "(I)I"⟩
abbrev cX1_begin : ByteArray := prog_3_method_4_code
def yX1_begin : MethodName := ⟨RX1, "begin", "(II)I"⟩
def RX2 : String := "WellPipes$Reader"
def TX2 : u_T := fun k => match k with
  | 0 => ("WellPipes$Reader", "bytes", "[I", true)
  | 1 => ("WellPipes$Reader", "length", "I", false)
  | 2 => ("WellPipes$Reader", "faultPlace", "I", false)
  | 3 => ("WellPipes$Reader", "latestFault", "I", false)
  | 4 => ("WellPipes$Reader", "at", "I", false)
  | _ => ("WellPipes$Reader", "failed", "Z", false)
def tyX2 : Nat → FieldType := fun k => match k with
  | 0 => .array .int
  | 1 => .int
  | 2 => .int
  | 3 => .int
  | 4 => .int
  | _ => .boolean
abbrev wsX20 : List Cond := u_ws RX2 TX2 6
theorem nmX2 : ∀ a, a < 6 → ∀ b, b < 6 → a ≠ b → (TX2 a).2.1 ≠ (TX2 b).2.1 := by decide +kernel
theorem tyX2_ok : ∀ k, k < 6 → parseFieldDescriptor (TX2 k).2.2.1 = some (tyX2 k) := by decide +kernel
abbrev cX2_init : ByteArray := prog_4_method_1_code
def yX2_init : MethodName := ⟨RX2, "<init>", "()V"⟩
abbrev cX2_take : ByteArray := prog_4_method_2_code
def yX2_take : MethodName := ⟨RX2, "take", "(I)Z"⟩
abbrev cX2_read : ByteArray := prog_4_method_3_code
def yX2_read : MethodName := ⟨RX2, "read", "(LWellPipes$Well;)Z"⟩
abbrev cX2_readLaw : ByteArray := prog_4_method_4_code
def yX2_readLaw : MethodName := ⟨RX2, "readLaw", "(LWellPipes$Well;)V"⟩
abbrev cX2_readGas : ByteArray := prog_4_method_5_code
def yX2_readGas : MethodName := ⟨RX2, "readGas", "(LWellPipes$Well;)V"⟩
abbrev cX2_readGrade : ByteArray := prog_4_method_6_code
def yX2_readGrade : MethodName := ⟨RX2, "readGrade", "(LWellPipes$Well;I)V"⟩
abbrev cX2_kindAtHand : ByteArray := prog_4_method_7_code
def yX2_kindAtHand : MethodName := ⟨RX2, "kindAtHand", "()I"⟩
abbrev cX2_readSign : ByteArray := prog_4_method_8_code
def yX2_readSign : MethodName := ⟨RX2, "readSign", "(C)V"⟩
abbrev cX2_readRule : ByteArray := prog_4_method_9_code
def yX2_readRule : MethodName := ⟨RX2, "readRule", "(I)I"⟩
abbrev cX2_readNumber : ByteArray := prog_4_method_10_code
def yX2_readNumber : MethodName := ⟨RX2, "readNumber", "(II)I"⟩
abbrev cX2_fail : ByteArray := prog_4_method_11_code
def yX2_fail : MethodName := ⟨RX2, "fail", "(I)V"⟩
def RX3 : String := "WellPipes$Row"
def TX3 : u_T := fun k => match k with
  | 0 => ("WellPipes$Row", "items", "[I", true)
  | 1 => ("WellPipes$Row", "lane", "I", false)
  | _ => ("WellPipes$Row", "size", "I", false)
def tyX3 : Nat → FieldType := fun k => match k with
  | 0 => .array .int
  | 1 => .int
  | _ => .int
abbrev wsX30 : List Cond := u_ws RX3 TX3 3
theorem nmX3 : ∀ a, a < 3 → ∀ b, b < 3 → a ≠ b → (TX3 a).2.1 ≠ (TX3 b).2.1 := by decide +kernel
theorem tyX3_ok : ∀ k, k < 3 → parseFieldDescriptor (TX3 k).2.2.1 = some (tyX3 k) := by decide +kernel
abbrev cX3_init : ByteArray := prog_5_method_1_code
def yX3_init : MethodName := ⟨RX3, "<init>", "()V"⟩
abbrev cX3_isMissing : ByteArray := prog_5_method_2_code
def yX3_isMissing : MethodName := ⟨RX3, "isMissing", "()Z"⟩
abbrev cX3_begin : ByteArray := prog_5_method_3_code
def yX3_begin : MethodName := ⟨RX3, "begin", "(II)V"⟩
abbrev cX3_hasPlaces : ByteArray := prog_5_method_4_code
def yX3_hasPlaces : MethodName := ⟨RX3, "hasPlaces", "(II)Z"⟩
abbrev cX3_put : ByteArray := prog_5_method_5_code
def yX3_put : MethodName := ⟨RX3, "put", "(II)I"⟩
def RX4 : String := "WellPipes$Search"
def TX4 : u_T := fun k => match k with
  | 0 => ("WellPipes$Search", "string", "[I", true)
  | 1 => ("WellPipes$Search", "cost", "I", false)
  | 2 => ("WellPipes$Search", "heft", "I", false)
  | 3 => ("WellPipes$Search", "below", "[I", false)
  | 4 => ("WellPipes$Search", "above", "[I", false)
  | 5 => ("WellPipes$Search", "wholeBelow", "[I", false)
  | 6 => ("WellPipes$Search", "wholeAbove", "[I", false)
  | 7 => ("WellPipes$Search", "well", "LWellPipes$Well;", false)
  | _ => ("WellPipes$Search", "least", "I", false)
def tyX4 : Nat → FieldType := fun k => match k with
  | 0 => .array .int
  | 1 => .int
  | 2 => .int
  | 3 => .array .int
  | 4 => .array .int
  | 5 => .array .int
  | 6 => .array .int
  | 7 => .object "WellPipes$Well"
  | _ => .int
abbrev wsX40 : List Cond := u_ws RX4 TX4 9
theorem nmX4 : ∀ a, a < 9 → ∀ b, b < 9 → a ≠ b → (TX4 a).2.1 ≠ (TX4 b).2.1 := by decide +kernel
theorem tyX4_ok : ∀ k, k < 9 → parseFieldDescriptor (TX4 k).2.2.1 = some (tyX4 k) := by decide +kernel
abbrev cX4_init : ByteArray := prog_6_method_1_code
def yX4_init : MethodName := ⟨RX4, "<init>", "()V"⟩
abbrev cX4_find : ByteArray := prog_6_method_2_code
def yX4_find : MethodName := ⟨RX4, "find", "(LWellPipes$Well;I)Z"⟩
abbrev cX4_swap : ByteArray := prog_6_method_3_code
def yX4_swap : MethodName := ⟨RX4, "swap", "()V"⟩
abbrev cX4_layOnAll : ByteArray := prog_6_method_4_code
def yX4_layOnAll : MethodName := ⟨RX4, "layOnAll", "(II)V"⟩
abbrev cX4_layOn : ByteArray := prog_6_method_5_code
def yX4_layOn : MethodName := ⟨RX4, "layOn", "(IIII)V"⟩
abbrev cX4_isAhead : ByteArray := prog_6_method_6_code
def yX4_isAhead : MethodName := ⟨RX4, "isAhead", "(II)Z"⟩
abbrev cX4_state : ByteArray := prog_6_method_7_code
def yX4_state : MethodName := ⟨RX4, "state", "(III)I"⟩
abbrev cX4_choose : ByteArray := prog_6_method_8_code
def yX4_choose : MethodName := ⟨RX4, "choose", "()Z"⟩
abbrev cX4_tellString : ByteArray := prog_6_method_9_code
def yX4_tellString : MethodName := ⟨RX4, "tellString", "(I)V"⟩
def RX5 : String := "WellPipes$Well"
def TX5 : u_T := fun k => match k with
  | 0 => ("WellPipes$Well", "steps", "I", false)
  | 1 => ("WellPipes$Well", "grades", "I", false)
  | 2 => ("WellPipes$Well", "rules", "[I", true)
  | 3 => ("WellPipes$Well", "kinds", "[I", true)
  | 4 => ("WellPipes$Well", "figures", "[I", true)
  | _ => ("WellPipes$Well", "laid", "[I", true)
def tyX5 : Nat → FieldType := fun k => match k with
  | 0 => .int
  | 1 => .int
  | 2 => .array .int
  | 3 => .array .int
  | 4 => .array .int
  | _ => .array .int
abbrev wsX50 : List Cond := u_ws RX5 TX5 6
theorem nmX5 : ∀ a, a < 6 → ∀ b, b < 6 → a ≠ b → (TX5 a).2.1 ≠ (TX5 b).2.1 := by decide +kernel
theorem tyX5_ok : ∀ k, k < 6 → parseFieldDescriptor (TX5 k).2.2.1 = some (tyX5 k) := by decide +kernel
abbrev cX5_init : ByteArray := prog_7_method_1_code
def yX5_init : MethodName := ⟨RX5, "<init>", "()V"⟩
abbrev cX5_becomes : ByteArray := prog_7_method_2_code
def yX5_becomes : MethodName := ⟨RX5, "becomes", "(LWellPipes$Well;)V"⟩
abbrev cX5_figure : ByteArray := prog_7_method_3_code
def yX5_figure : MethodName := ⟨RX5, "figure", "(II)I"⟩
abbrev cX5_putFigure : ByteArray := prog_7_method_4_code
def yX5_putFigure : MethodName := ⟨RX5, "putFigure", "(III)V"⟩
abbrev cX5_laidFigure : ByteArray := prog_7_method_5_code
def yX5_laidFigure : MethodName := ⟨RX5, "laidFigure", "(II)I"⟩
abbrev cX5_sumOfLaid : ByteArray := prog_7_method_6_code
def yX5_sumOfLaid : MethodName := ⟨RX5, "sumOfLaid", "(I)I"⟩
abbrev cX5_howManyLaid : ByteArray := prog_7_method_7_code
def yX5_howManyLaid : MethodName := ⟨RX5, "howManyLaid", "()I"⟩
abbrev cX5_burstLoad : ByteArray := prog_7_method_8_code
def yX5_burstLoad : MethodName := ⟨RX5, "burstLoad", "(I)I"⟩
abbrev cX5_crushLoad : ByteArray := prog_7_method_9_code
def yX5_crushLoad : MethodName := ⟨RX5, "crushLoad", "(I)I"⟩
abbrev cX5_pullLoad : ByteArray := prog_7_method_10_code
def yX5_pullLoad : MethodName := ⟨RX5, "pullLoad", "(I)I"⟩
abbrev cX5_burstBorne : ByteArray := prog_7_method_11_code
def yX5_burstBorne : MethodName := ⟨RX5, "burstBorne", "(I)I"⟩
abbrev cX5_pullBorne : ByteArray := prog_7_method_12_code
def yX5_pullBorne : MethodName := ⟨RX5, "pullBorne", "(I)I"⟩
abbrev cX5_crushBorne : ByteArray := prog_7_method_13_code
def yX5_crushBorne : MethodName := ⟨RX5, "crushBorne", "(II)I"⟩
abbrev cX5_dent : ByteArray := prog_7_method_14_code
def yX5_dent : MethodName := ⟨RX5, "dent", "(II)I"⟩
abbrev cX5_wouldHold : ByteArray := prog_7_method_15_code
def yX5_wouldHold : MethodName := ⟨RX5, "wouldHold", "(III)Z"⟩
abbrev cX5_holds : ByteArray := prog_7_method_16_code
def yX5_holds : MethodName := ⟨RX5, "holds", "(I)Z"⟩
abbrev cX5_holdsFlawed : ByteArray := prog_7_method_17_code
def yX5_holdsFlawed : MethodName := ⟨RX5, "holdsFlawed", "(I)Z"⟩
abbrev cX5_howManyHold : ByteArray := prog_7_method_18_code
def yX5_howManyHold : MethodName := ⟨RX5, "howManyHold", "()I"⟩
abbrev cX5_firstThatFails : ByteArray := prog_7_method_19_code
def yX5_firstThatFails : MethodName := ⟨RX5, "firstThatFails", "()I"⟩
abbrev cX5_isSound : ByteArray := prog_7_method_20_code
def yX5_isSound : MethodName := ⟨RX5, "isSound", "()Z"⟩
abbrev cX5_sectionLength : ByteArray := prog_7_method_21_code
def yX5_sectionLength : MethodName := ⟨RX5, "sectionLength", "(I)I"⟩
abbrev cX5_howManySections : ByteArray := prog_7_method_22_code
def yX5_howManySections : MethodName := ⟨RX5, "howManySections", "()I"⟩
abbrev cX5_priceOf : ByteArray := prog_7_method_23_code
def yX5_priceOf : MethodName := ⟨RX5, "priceOf", "(I)I"⟩
abbrev cX5_changeByDraw : ByteArray := prog_7_method_24_code
def yX5_changeByDraw : MethodName := ⟨RX5, "changeByDraw", "(I)V"⟩
abbrev cX5_stringCode : ByteArray := prog_7_method_25_code
def yX5_stringCode : MethodName := ⟨RX5, "stringCode", "()I"⟩
abbrev cX5_layString : ByteArray := prog_7_method_26_code
def yX5_layString : MethodName := ⟨RX5, "layString", "(I)V"⟩
def RX6 : String := "WellPipes"
def TX6 : u_T := fun k => match k with
  | 0 => ("WellPipes", "rows", "[LWellPipes$Row;", true)
  | 1 => ("WellPipes", "reader", "LWellPipes$Reader;", true)
  | 2 => ("WellPipes", "now", "LWellPipes$Well;", true)
  | 3 => ("WellPipes", "supposed", "LWellPipes$Well;", true)
  | 4 => ("WellPipes", "images", "[LWellPipes$Well;", true)
  | 5 => ("WellPipes", "search", "LWellPipes$Search;", true)
  | 6 => ("WellPipes", "acts", "LWellPipes$Acts;", true)
  | 7 => ("WellPipes", "asks", "LWellPipes$Asks;", true)
  | _ => ("WellPipes", "finding", "I", false)
def tyX6 : Nat → FieldType := fun k => match k with
  | 0 => .array (.object "WellPipes$Row")
  | 1 => .object "WellPipes$Reader"
  | 2 => .object "WellPipes$Well"
  | 3 => .object "WellPipes$Well"
  | 4 => .array (.object "WellPipes$Well")
  | 5 => .object "WellPipes$Search"
  | 6 => .object "WellPipes$Acts"
  | 7 => .object "WellPipes$Asks"
  | _ => .int
abbrev wsX60 : List Cond := u_ws RX6 TX6 9
theorem nmX6 : ∀ a, a < 9 → ∀ b, b < 9 → a ≠ b → (TX6 a).2.1 ≠ (TX6 b).2.1 := by decide +kernel
theorem tyX6_ok : ∀ k, k < 9 → parseFieldDescriptor (TX6 k).2.2.1 = some (tyX6 k) := by decide +kernel
abbrev cX6_init : ByteArray := prog_1_method_1_code
def yX6_init : MethodName := ⟨RX6, "<init>", "()V"⟩
abbrev cX6_row : ByteArray := prog_1_method_2_code
def yX6_row : MethodName := ⟨RX6, "row", "(III)I"⟩
abbrev cX6_set : ByteArray := prog_1_method_3_code
def yX6_set : MethodName := ⟨RX6, "set", "(III)I"⟩
abbrev cX6_copy : ByteArray := prog_1_method_4_code
def yX6_copy : MethodName := ⟨RX6, "copy", "(IIIII)I"⟩
abbrev cX6_drop : ByteArray := prog_1_method_5_code
def yX6_drop : MethodName := ⟨RX6, "drop", "(I)I"⟩
abbrev cX6_feed : ByteArray := prog_1_method_6_code
def yX6_feed : MethodName := ⟨RX6, "feed", "(I)I"⟩
abbrev cX6_well : ByteArray := prog_1_method_7_code
def yX6_well : MethodName := ⟨RX6, "well", "()I"⟩
abbrev cX6_fault : ByteArray := prog_1_method_8_code
def yX6_fault : MethodName := ⟨RX6, "fault", "()I"⟩
abbrev cX6_undo : ByteArray := prog_1_method_9_code
def yX6_undo : MethodName := ⟨RX6, "undo", "()I"⟩
abbrev cX6_lay : ByteArray := prog_1_method_10_code
def yX6_lay : MethodName := ⟨RX6, "lay", "(II)I"⟩
abbrev cX6_layBest : ByteArray := prog_1_method_11_code
def yX6_layBest : MethodName := ⟨RX6, "layBest", "()I"⟩
abbrev cX6_rule : ByteArray := prog_1_method_12_code
def yX6_rule : MethodName := ⟨RX6, "rule", "(II)I"⟩
abbrev cX6_price : ByteArray := prog_1_method_13_code
def yX6_price : MethodName := ⟨RX6, "price", "(II)I"⟩
abbrev cX6_grade : ByteArray := prog_1_method_14_code
def yX6_grade : MethodName := ⟨RX6, "grade", "(II)I"⟩
abbrev cX6_step : ByteArray := prog_1_method_15_code
def yX6_step : MethodName := ⟨RX6, "step", "(II)I"⟩
abbrev cX6_bears : ByteArray := prog_1_method_16_code
def yX6_bears : MethodName := ⟨RX6, "bears", "(II)I"⟩
abbrev cX6_stand : ByteArray := prog_1_method_17_code
def yX6_stand : MethodName := ⟨RX6, "stand", "(I)I"⟩
abbrev cX6_best : ByteArray := prog_1_method_18_code
def yX6_best : MethodName := ⟨RX6, "best", "(I)I"⟩
abbrev cX6_without : ByteArray := prog_1_method_19_code
def yX6_without : MethodName := ⟨RX6, "without", "(I)I"⟩
abbrev cX6_most : ByteArray := prog_1_method_20_code
def yX6_most : MethodName := ⟨RX6, "most", "(I)I"⟩
abbrev cX6_need : ByteArray := prog_1_method_21_code
def yX6_need : MethodName := ⟨RX6, "need", "(I)I"⟩
abbrev cX6_sets : ByteArray := prog_1_method_22_code
def yX6_sets : MethodName := ⟨RX6, "sets", "(II)I"⟩
abbrev cX6_share : ByteArray := prog_1_method_23_code
def yX6_share : MethodName := ⟨RX6, "share", "(II)I"⟩
abbrev cX6_byTurns : ByteArray := prog_1_method_24_code
def yX6_byTurns : MethodName := ⟨RX6, "byTurns", "(I)I"⟩
abbrev cX6_who : ByteArray := prog_1_method_25_code
def yX6_who : MethodName := ⟨RX6, "who", "(IIII)I"⟩
abbrev cX6_flaws : ByteArray := prog_1_method_26_code
def yX6_flaws : MethodName := ⟨RX6, "flaws", "(II)J"⟩
abbrev cX6_drawn : ByteArray := prog_1_method_27_code
def yX6_drawn : MethodName := ⟨RX6, "drawn", "(III)I"⟩
abbrev cX6_image : ByteArray := prog_1_method_28_code
def yX6_image : MethodName := ⟨RX6, "image", "(I)I"⟩
abbrev cX6_restore : ByteArray := prog_1_method_29_code
def yX6_restore : MethodName := ⟨RX6, "restore", "(I)I"⟩
abbrev cX6_kind : ByteArray := prog_1_method_30_code
def yX6_kind : MethodName := ⟨RX6, "kind", "(I)I"⟩
abbrev cX6_as : ByteArray := prog_1_method_31_code
def yX6_as : MethodName := ⟨RX6, "as", "(II)I"⟩
abbrev cX6_ask : ByteArray := prog_1_method_32_code
def yX6_ask : MethodName := ⟨RX6, "ask", "(II)I"⟩
abbrev cX6_trace : ByteArray := prog_1_method_33_code
def yX6_trace : MethodName := ⟨RX6, "trace", "(I)I"⟩
abbrev cX6_count : ByteArray := prog_1_method_34_code
def yX6_count : MethodName := ⟨RX6, "count", "(I)I"⟩
abbrev cX6_status : ByteArray := prog_1_method_35_code
def yX6_status : MethodName := ⟨RX6, "status", "()I"⟩
abbrev cX6_found : ByteArray := prog_1_method_36_code
def yX6_found : MethodName := ⟨RX6, "found", "(I)I"⟩
abbrev cX6_passed : ByteArray := prog_1_method_37_code
def yX6_passed : MethodName := ⟨RX6, "passed", "(I)I"⟩
abbrev cX6_isRow : ByteArray := prog_1_method_38_code
def yX6_isRow : MethodName := ⟨RX6, "isRow", "(I)Z"⟩
abbrev cX6_isStep : ByteArray := prog_1_method_39_code
def yX6_isStep : MethodName := ⟨RX6, "isStep", "(I)Z"⟩
abbrev cX6_isGrade : ByteArray := prog_1_method_40_code
def yX6_isGrade : MethodName := ⟨RX6, "isGrade", "(I)Z"⟩
abbrev cX6_hasNoWell : ByteArray := prog_1_method_41_code
def yX6_hasNoWell : MethodName := ⟨RX6, "hasNoWell", "()Z"⟩
abbrev cX6_howManyRows : ByteArray := prog_1_method_42_code
def yX6_howManyRows : MethodName := ⟨RX6, "howManyRows", "()I"⟩
abbrev cX6_isBest : ByteArray := prog_1_method_43_code
def yX6_isBest : MethodName := ⟨RX6, "isBest", "(LWellPipes$Well;LWellPipes$Row;I)Z"⟩
abbrev cX6_costByTurns : ByteArray := prog_1_method_44_code
def yX6_costByTurns : MethodName := ⟨RX6, "costByTurns", "(LWellPipes$Well;IIIZ)I"⟩
abbrev cX6_greatestDivisor : ByteArray := prog_1_method_45_code
def yX6_greatestDivisor : MethodName := ⟨RX6, "greatestDivisor", "(JJ)J"⟩
def RX7 : String := "WellPipesModel"
def TX7 : u_T := fun k => match k with
  | 0 => ("WellPipesModel", "thrown", "I", false)
  | 1 => ("WellPipesModel", "status", "I", false)
  | 2 => ("WellPipesModel", "lane", "[I", true)
  | 3 => ("WellPipesModel", "many", "[I", true)
  | 4 => ("WellPipesModel", "item", "[I", true)
  | 5 => ("WellPipesModel", "well", "[I", true)
  | 6 => ("WellPipesModel", "fresh", "[I", true)
  | 7 => ("WellPipesModel", "then", "[I", true)
  | 8 => ("WellPipesModel", "was", "[I", true)
  | 9 => ("WellPipesModel", "acts", "I", false)
  | 10 => ("WellPipesModel", "tape", "[I", true)
  | 11 => ("WellPipesModel", "taped", "I", false)
  | 12 => ("WellPipesModel", "cursor", "I", false)
  | 13 => ("WellPipesModel", "start", "I", false)
  | 14 => ("WellPipesModel", "token", "I", false)
  | 15 => ("WellPipesModel", "value", "I", false)
  | 16 => ("WellPipesModel", "fault", "I", false)
  | 17 => ("WellPipesModel", "faultAt", "I", false)
  | 18 => ("WellPipesModel", "latest", "I", false)
  | 19 => ("WellPipesModel", "table", "[I", true)
  | 20 => ("WellPipesModel", "string", "[I", true)
  | 21 => ("WellPipesModel", "worth", "[I", true)
  | 22 => ("WellPipesModel", "isKept", "[Z", true)
  | 23 => ("WellPipesModel", "kept", "[I", true)
  | 24 => ("WellPipesModel", "trace", "[I", true)
  | _ => ("WellPipesModel", "traced", "I", false)
def tyX7 : Nat → FieldType := fun k => match k with
  | 0 => .int
  | 1 => .int
  | 2 => .array .int
  | 3 => .array .int
  | 4 => .array .int
  | 5 => .array .int
  | 6 => .array .int
  | 7 => .array .int
  | 8 => .array .int
  | 9 => .int
  | 10 => .array .int
  | 11 => .int
  | 12 => .int
  | 13 => .int
  | 14 => .int
  | 15 => .int
  | 16 => .int
  | 17 => .int
  | 18 => .int
  | 19 => .array .int
  | 20 => .array .int
  | 21 => .array .int
  | 22 => .array .boolean
  | 23 => .array .int
  | 24 => .array .int
  | _ => .int
abbrev wsX70 : List Cond := u_ws RX7 TX7 26
theorem nmX7 : ∀ a, a < 26 → ∀ b, b < 26 → a ≠ b → (TX7 a).2.1 ≠ (TX7 b).2.1 := by decide +kernel
theorem tyX7_ok : ∀ k, k < 26 → parseFieldDescriptor (TX7 k).2.2.1 = some (tyX7 k) := by decide +kernel
abbrev cX7_init : ByteArray := prog_9_method_1_code
def yX7_init : MethodName := ⟨RX7, "<init>", "()V"⟩
abbrev cX7_in : ByteArray := prog_9_method_3_code
def yX7_in : MethodName := ⟨RX7, "in", "(JJJ)Z"⟩
abbrev cX7_finding : ByteArray := prog_9_method_4_code
def yX7_finding : MethodName := ⟨RX7, "finding", "(I)I"⟩
abbrev cX7_isRow : ByteArray := prog_9_method_5_code
def yX7_isRow : MethodName := ⟨RX7, "isRow", "(I)Z"⟩
abbrev cX7_row : ByteArray := prog_9_method_6_code
def yX7_row : MethodName := ⟨RX7, "row", "(III)I"⟩
abbrev cX7_set : ByteArray := prog_9_method_7_code
def yX7_set : MethodName := ⟨RX7, "set", "(III)I"⟩
abbrev cX7_copy : ByteArray := prog_9_method_8_code
def yX7_copy : MethodName := ⟨RX7, "copy", "(IIIII)I"⟩
abbrev cX7_drop : ByteArray := prog_9_method_9_code
def yX7_drop : MethodName := ⟨RX7, "drop", "(I)I"⟩
abbrev cX7_feed : ByteArray := prog_9_method_10_code
def yX7_feed : MethodName := ⟨RX7, "feed", "(I)I"⟩
abbrev cX7_bad : ByteArray := prog_9_method_11_code
def yX7_bad : MethodName := ⟨RX7, "bad", "(I)V"⟩
abbrev cX7_nextToken : ByteArray := prog_9_method_12_code
def yX7_nextToken : MethodName := ⟨RX7, "nextToken", "()V"⟩
abbrev cX7_must : ByteArray := prog_9_method_13_code
def yX7_must : MethodName := ⟨RX7, "must", "(Z)V"⟩
abbrev cX7_isLetter : ByteArray := prog_9_method_14_code
def yX7_isLetter : MethodName := ⟨RX7, "isLetter", "(I)Z"⟩
abbrev cX7_number : ByteArray := prog_9_method_15_code
def yX7_number : MethodName := ⟨RX7, "number", "(II)I"⟩
abbrev cX7_mustSign : ByteArray := prog_9_method_16_code
def yX7_mustSign : MethodName := ⟨RX7, "mustSign", "(I)V"⟩
abbrev cX7_begin : ByteArray := prog_9_method_17_code
def yX7_begin : MethodName := ⟨RX7, "begin", "()V"⟩
abbrev cX7_failed : ByteArray := prog_9_method_18_code
def yX7_failed : MethodName := ⟨RX7, "failed", "()Z"⟩
abbrev cX7_fault : ByteArray := prog_9_method_19_code
def yX7_fault : MethodName := ⟨RX7, "fault", "()I"⟩
abbrev cX7_kindBy : ByteArray := prog_9_method_20_code
def yX7_kindBy : MethodName := ⟨RX7, "kindBy", "(I)I"⟩
abbrev cX7_isSort : ByteArray := prog_9_method_21_code
def yX7_isSort : MethodName := ⟨RX7, "isSort", "()Z"⟩
abbrev cX7_readGrade : ByteArray := prog_9_method_22_code
def yX7_readGrade : MethodName := ⟨RX7, "readGrade", "()V"⟩
abbrev cX7_well : ByteArray := prog_9_method_23_code
def yX7_well : MethodName := ⟨RX7, "well", "()I"⟩
abbrev cX7_isThere : ByteArray := prog_9_method_24_code
def yX7_isThere : MethodName := ⟨RX7, "isThere", "()Z"⟩
abbrev cX7_isStep : ByteArray := prog_9_method_25_code
def yX7_isStep : MethodName := ⟨RX7, "isStep", "(I)Z"⟩
abbrev cX7_isGrade : ByteArray := prog_9_method_26_code
def yX7_isGrade : MethodName := ⟨RX7, "isGrade", "(I)Z"⟩
abbrev cX7_has : ByteArray := prog_9_method_27_code
def yX7_has : MethodName := ⟨RX7, "has", "(II)Z"⟩
abbrev cX7_of : ByteArray := prog_9_method_28_code
def yX7_of : MethodName := ⟨RX7, "of", "([III)I"⟩
abbrev cX7_burstLoad : ByteArray := prog_9_method_29_code
def yX7_burstLoad : MethodName := ⟨RX7, "burstLoad", "([II)I"⟩
abbrev cX7_crushLoad : ByteArray := prog_9_method_30_code
def yX7_crushLoad : MethodName := ⟨RX7, "crushLoad", "([II)I"⟩
abbrev cX7_hangs : ByteArray := prog_9_method_31_code
def yX7_hangs : MethodName := ⟨RX7, "hangs", "([II)I"⟩
abbrev cX7_bearsBurst : ByteArray := prog_9_method_32_code
def yX7_bearsBurst : MethodName := ⟨RX7, "bearsBurst", "([II)I"⟩
abbrev cX7_bearsPull : ByteArray := prog_9_method_33_code
def yX7_bearsPull : MethodName := ⟨RX7, "bearsPull", "([II)I"⟩
abbrev cX7_bearsCrush : ByteArray := prog_9_method_34_code
def yX7_bearsCrush : MethodName := ⟨RX7, "bearsCrush", "([III)I"⟩
abbrev cX7_wouldHold : ByteArray := prog_9_method_35_code
def yX7_wouldHold : MethodName := ⟨RX7, "wouldHold", "([IIII)Z"⟩
abbrev cX7_holds : ByteArray := prog_9_method_36_code
def yX7_holds : MethodName := ⟨RX7, "holds", "([II)Z"⟩
abbrev cX7_manyHold : ByteArray := prog_9_method_37_code
def yX7_manyHold : MethodName := ⟨RX7, "manyHold", "([I)I"⟩
abbrev cX7_costOf : ByteArray := prog_9_method_38_code
def yX7_costOf : MethodName := ⟨RX7, "costOf", "([I)I"⟩
abbrev cX7_sectionOf : ByteArray := prog_9_method_39_code
def yX7_sectionOf : MethodName := ⟨RX7, "sectionOf", "([II)I"⟩
abbrev cX7_sections : ByteArray := prog_9_method_40_code
def yX7_sections : MethodName := ⟨RX7, "sections", "([I)I"⟩
abbrev cX7_isSound : ByteArray := prog_9_method_41_code
def yX7_isSound : MethodName := ⟨RX7, "isSound", "([I)Z"⟩
abbrev cX7_layThen : ByteArray := prog_9_method_42_code
def yX7_layThen : MethodName := ⟨RX7, "layThen", "()V"⟩
abbrev cX7_at : ByteArray := prog_9_method_43_code
def yX7_at : MethodName := ⟨RX7, "at", "(IIII)I"⟩
abbrev cX7_through : ByteArray := prog_9_method_44_code
def yX7_through : MethodName := ⟨RX7, "through", "([IIIIII)I"⟩
abbrev cX7_leastAt : ByteArray := prog_9_method_45_code
def yX7_leastAt : MethodName := ⟨RX7, "leastAt", "([IIIIII)I"⟩
abbrev cX7_laysBest : ByteArray := prog_9_method_46_code
def yX7_laysBest : MethodName := ⟨RX7, "laysBest", "([II)I"⟩
abbrev cX7_keep : ByteArray := prog_9_method_47_code
def yX7_keep : MethodName := ⟨RX7, "keep", "()V"⟩
abbrev cX7_lay : ByteArray := prog_9_method_48_code
def yX7_lay : MethodName := ⟨RX7, "lay", "(II)I"⟩
abbrev cX7_layBest : ByteArray := prog_9_method_49_code
def yX7_layBest : MethodName := ⟨RX7, "layBest", "()I"⟩
abbrev cX7_rule : ByteArray := prog_9_method_50_code
def yX7_rule : MethodName := ⟨RX7, "rule", "(II)I"⟩
abbrev cX7_price : ByteArray := prog_9_method_51_code
def yX7_price : MethodName := ⟨RX7, "price", "(II)I"⟩
abbrev cX7_undo : ByteArray := prog_9_method_52_code
def yX7_undo : MethodName := ⟨RX7, "undo", "()I"⟩
abbrev cX7_grade : ByteArray := prog_9_method_53_code
def yX7_grade : MethodName := ⟨RX7, "grade", "(II)I"⟩
abbrev cX7_step : ByteArray := prog_9_method_54_code
def yX7_step : MethodName := ⟨RX7, "step", "(II)I"⟩
abbrev cX7_bears : ByteArray := prog_9_method_55_code
def yX7_bears : MethodName := ⟨RX7, "bears", "(II)I"⟩
abbrev cX7_firstLoose : ByteArray := prog_9_method_56_code
def yX7_firstLoose : MethodName := ⟨RX7, "firstLoose", "()I"⟩
abbrev cX7_stand : ByteArray := prog_9_method_57_code
def yX7_stand : MethodName := ⟨RX7, "stand", "(I)I"⟩
abbrev cX7_best : ByteArray := prog_9_method_58_code
def yX7_best : MethodName := ⟨RX7, "best", "(I)I"⟩
abbrev cX7_without : ByteArray := prog_9_method_59_code
def yX7_without : MethodName := ⟨RX7, "without", "(I)I"⟩
abbrev cX7_most : ByteArray := prog_9_method_60_code
def yX7_most : MethodName := ⟨RX7, "most", "(I)I"⟩
abbrev cX7_need : ByteArray := prog_9_method_61_code
def yX7_need : MethodName := ⟨RX7, "need", "(I)I"⟩
abbrev cX7_sets : ByteArray := prog_9_method_62_code
def yX7_sets : MethodName := ⟨RX7, "sets", "(II)I"⟩
abbrev cX7_heftAt : ByteArray := prog_9_method_63_code
def yX7_heftAt : MethodName := ⟨RX7, "heftAt", "(I)I"⟩
abbrev cX7_share : ByteArray := prog_9_method_64_code
def yX7_share : MethodName := ⟨RX7, "share", "(II)I"⟩
abbrev cX7_bestTurn : ByteArray := prog_9_method_65_code
def yX7_bestTurn : MethodName := ⟨RX7, "bestTurn", "(II)I"⟩
abbrev cX7_byTurns : ByteArray := prog_9_method_66_code
def yX7_byTurns : MethodName := ⟨RX7, "byTurns", "(I)I"⟩
abbrev cX7_rowFound : ByteArray := prog_9_method_67_code
def yX7_rowFound : MethodName := ⟨RX7, "rowFound", "(III)I"⟩
abbrev cX7_who : ByteArray := prog_9_method_68_code
def yX7_who : MethodName := ⟨RX7, "who", "(IIII)I"⟩
abbrev cX7_flaws : ByteArray := prog_9_method_69_code
def yX7_flaws : MethodName := ⟨RX7, "flaws", "(II)J"⟩
abbrev cX7_drawn : ByteArray := prog_9_method_70_code
def yX7_drawn : MethodName := ⟨RX7, "drawn", "(III)I"⟩
abbrev cX7_image : ByteArray := prog_9_method_71_code
def yX7_image : MethodName := ⟨RX7, "image", "(I)I"⟩
abbrev cX7_restore : ByteArray := prog_9_method_72_code
def yX7_restore : MethodName := ⟨RX7, "restore", "(I)I"⟩
abbrev cX7_isOf : ByteArray := prog_9_method_73_code
def yX7_isOf : MethodName := ⟨RX7, "isOf", "(II)Z"⟩
abbrev cX7_kind : ByteArray := prog_9_method_74_code
def yX7_kind : MethodName := ⟨RX7, "kind", "(I)I"⟩
abbrev cX7_as : ByteArray := prog_9_method_75_code
def yX7_as : MethodName := ⟨RX7, "as", "(II)I"⟩
abbrev cX7_began : ByteArray := prog_9_method_76_code
def yX7_began : MethodName := ⟨RX7, "began", "(I)V"⟩
abbrev cX7_plainSize : ByteArray := prog_9_method_77_code
def yX7_plainSize : MethodName := ⟨RX7, "plainSize", "(I)I"⟩
abbrev cX7_thickSize : ByteArray := prog_9_method_78_code
def yX7_thickSize : MethodName := ⟨RX7, "thickSize", "(I)I"⟩
abbrev cX7_markOf : ByteArray := prog_9_method_79_code
def yX7_markOf : MethodName := ⟨RX7, "markOf", "(I)I"⟩
abbrev cX7_sizeOf : ByteArray := prog_9_method_80_code
def yX7_sizeOf : MethodName := ⟨RX7, "sizeOf", "(I)I"⟩
abbrev cX7_ask : ByteArray := prog_9_method_81_code
def yX7_ask : MethodName := ⟨RX7, "ask", "(II)I"⟩
abbrev cX7_trace : ByteArray := prog_9_method_82_code
def yX7_trace : MethodName := ⟨RX7, "trace", "(I)I"⟩
abbrev cX7_count : ByteArray := prog_9_method_83_code
def yX7_count : MethodName := ⟨RX7, "count", "(I)I"⟩
abbrev cX7_status : ByteArray := prog_9_method_84_code
def yX7_status : MethodName := ⟨RX7, "status", "()I"⟩
def RJ9 : String := "java/lang/Math"
abbrev cJ9_max_7cf53 : ByteArray := prog_10_method_65_code
def yJ9_max_7cf53 : MethodName := ⟨RJ9, "max", "(II)I"⟩
abbrev cJ9_max_f86c9 : ByteArray := prog_10_method_66_code
def yJ9_max_f86c9 : MethodName := ⟨RJ9, "max", "(JJ)J"⟩
abbrev cJ9_min_7cf53 : ByteArray := prog_10_method_69_code
def yJ9_min_7cf53 : MethodName := ⟨RJ9, "min", "(II)I"⟩
def RJ10 : String := "java/lang/System"
def RJ7 : String := "java/util/Arrays"
abbrev cJ7_fill_53178 : ByteArray := prog_12_method_103_code
def yJ7_fill_53178 : MethodName := ⟨RJ7, "fill", "([II)V"⟩
def RL : String := "WellPipesLaw"
end
section
theorem dJ7_fill_53178_0 : decode cJ7_fill_53178 0 = .ok (.iconst 0, 1) := by decide +kernel
theorem dJ7_fill_53178_1 : decode cJ7_fill_53178 1 = .ok (.istore_n 2, 1) := by decide +kernel
theorem dJ7_fill_53178_2 : decode cJ7_fill_53178 2 = .ok (.aload_n 0, 1) := by decide +kernel
theorem dJ7_fill_53178_3 : decode cJ7_fill_53178 3 = .ok (.arraylength, 1) := by decide +kernel
theorem dJ7_fill_53178_4 : decode cJ7_fill_53178 4 = .ok (.istore_n 3, 1) := by decide +kernel
theorem dJ7_fill_53178_5 : decode cJ7_fill_53178 5 = .ok (.iload_n 2, 1) := by decide +kernel
theorem dJ7_fill_53178_6 : decode cJ7_fill_53178 6 = .ok (.iload_n 3, 1) := by decide +kernel
theorem dJ7_fill_53178_7 : decode cJ7_fill_53178 7 = .ok (.if_icmp .ge 13, 3) := by decide +kernel
theorem dJ7_fill_53178_10 : decode cJ7_fill_53178 10 = .ok (.aload_n 0, 1) := by decide +kernel
theorem dJ7_fill_53178_11 : decode cJ7_fill_53178 11 = .ok (.iload_n 2, 1) := by decide +kernel
theorem dJ7_fill_53178_12 : decode cJ7_fill_53178 12 = .ok (.iload_n 1, 1) := by decide +kernel
theorem dJ7_fill_53178_13 : decode cJ7_fill_53178 13 = .ok (.iastore, 1) := by decide +kernel
theorem dJ7_fill_53178_14 : decode cJ7_fill_53178 14 = .ok (.iinc 2 1, 3) := by decide +kernel
theorem dJ7_fill_53178_17 : decode cJ7_fill_53178 17 = .ok (.goto (-12), 3) := by decide +kernel
theorem dJ7_fill_53178_20 : decode cJ7_fill_53178 20 = .ok (.return_, 1) := by decide +kernel
theorem dJ9_max_7cf53_0 : decode cJ9_max_7cf53 0 = .ok (.iload_n 0, 1) := by decide +kernel
theorem dJ9_max_7cf53_1 : decode cJ9_max_7cf53 1 = .ok (.iload_n 1, 1) := by decide +kernel
theorem dJ9_max_7cf53_2 : decode cJ9_max_7cf53 2 = .ok (.if_icmp .lt 7, 3) := by decide +kernel
theorem dJ9_max_7cf53_5 : decode cJ9_max_7cf53 5 = .ok (.iload_n 0, 1) := by decide +kernel
theorem dJ9_max_7cf53_6 : decode cJ9_max_7cf53 6 = .ok (.goto 4, 3) := by decide +kernel
theorem dJ9_max_7cf53_9 : decode cJ9_max_7cf53 9 = .ok (.iload_n 1, 1) := by decide +kernel
theorem dJ9_max_7cf53_10 : decode cJ9_max_7cf53 10 = .ok (.ireturn, 1) := by decide +kernel
theorem dJ9_max_f86c9_0 : decode cJ9_max_f86c9 0 = .ok (.lload_n 0, 1) := by decide +kernel
theorem dJ9_max_f86c9_1 : decode cJ9_max_f86c9 1 = .ok (.lload_n 2, 1) := by decide +kernel
theorem dJ9_max_f86c9_2 : decode cJ9_max_f86c9 2 = .ok (.lcmp, 1) := by decide +kernel
theorem dJ9_max_f86c9_3 : decode cJ9_max_f86c9 3 = .ok (.ifCond .lt 7, 3) := by decide +kernel
theorem dJ9_max_f86c9_6 : decode cJ9_max_f86c9 6 = .ok (.lload_n 0, 1) := by decide +kernel
theorem dJ9_max_f86c9_7 : decode cJ9_max_f86c9 7 = .ok (.goto 4, 3) := by decide +kernel
theorem dJ9_max_f86c9_10 : decode cJ9_max_f86c9 10 = .ok (.lload_n 2, 1) := by decide +kernel
theorem dJ9_max_f86c9_11 : decode cJ9_max_f86c9 11 = .ok (.lreturn, 1) := by decide +kernel
theorem dJ9_min_7cf53_0 : decode cJ9_min_7cf53 0 = .ok (.iload_n 0, 1) := by decide +kernel
theorem dJ9_min_7cf53_1 : decode cJ9_min_7cf53 1 = .ok (.iload_n 1, 1) := by decide +kernel
theorem dJ9_min_7cf53_2 : decode cJ9_min_7cf53 2 = .ok (.if_icmp .gt 7, 3) := by decide +kernel
theorem dJ9_min_7cf53_5 : decode cJ9_min_7cf53 5 = .ok (.iload_n 0, 1) := by decide +kernel
theorem dJ9_min_7cf53_6 : decode cJ9_min_7cf53 6 = .ok (.goto 4, 3) := by decide +kernel
theorem dJ9_min_7cf53_9 : decode cJ9_min_7cf53 9 = .ok (.iload_n 1, 1) := by decide +kernel
theorem dJ9_min_7cf53_10 : decode cJ9_min_7cf53 10 = .ok (.ireturn, 1) := by decide +kernel
theorem dX0_init_0 : decode cX0_init 0 = .ok (.aload_n 0, 1) := by decide +kernel
theorem dX0_init_1 : decode cX0_init 1 = .ok (.invokespecial 5, 3) := by decide +kernel
theorem dX0_init_4 : decode cX0_init 4 = .ok (.aload_n 0, 1) := by decide +kernel
theorem dX0_init_5 : decode cX0_init 5 = .ok (.bipush 24, 2) := by decide +kernel
theorem dX0_init_7 : decode cX0_init 7 = .ok (.newarray .int, 2) := by decide +kernel
theorem dX0_init_9 : decode cX0_init 9 = .ok (.putfield 11, 3) := by decide +kernel
theorem dX0_init_12 : decode cX0_init 12 = .ok (.aload_n 0, 1) := by decide +kernel
theorem dX0_init_13 : decode cX0_init 13 = .ok (.bipush 24, 2) := by decide +kernel
theorem dX0_init_15 : decode cX0_init 15 = .ok (.newarray .int, 2) := by decide +kernel
theorem dX0_init_17 : decode cX0_init 17 = .ok (.putfield 15, 3) := by decide +kernel
theorem dX0_init_20 : decode cX0_init 20 = .ok (.return_, 1) := by decide +kernel
theorem dX0_keep_0 : decode cX0_keep 0 = .ok (.aload_n 0, 1) := by decide +kernel
theorem dX0_keep_1 : decode cX0_keep 1 = .ok (.getfield 18, 3) := by decide +kernel
theorem dX0_keep_4 : decode cX0_keep 4 = .ok (.bipush 24, 2) := by decide +kernel
theorem dX0_keep_6 : decode cX0_keep 6 = .ok (.if_icmp .lt 39, 3) := by decide +kernel
theorem dX0_keep_9 : decode cX0_keep 9 = .ok (.aload_n 0, 1) := by decide +kernel
theorem dX0_keep_10 : decode cX0_keep 10 = .ok (.getfield 11, 3) := by decide +kernel
theorem dX0_keep_13 : decode cX0_keep 13 = .ok (.iconst 1, 1) := by decide +kernel
theorem dX0_keep_14 : decode cX0_keep 14 = .ok (.aload_n 0, 1) := by decide +kernel
theorem dX0_keep_15 : decode cX0_keep 15 = .ok (.getfield 11, 3) := by decide +kernel
theorem dX0_keep_18 : decode cX0_keep 18 = .ok (.iconst 0, 1) := by decide +kernel
theorem dX0_keep_19 : decode cX0_keep 19 = .ok (.bipush 23, 2) := by decide +kernel
theorem dX0_keep_21 : decode cX0_keep 21 = .ok (.invokestatic 22, 3) := by decide +kernel
theorem dX0_keep_24 : decode cX0_keep 24 = .ok (.aload_n 0, 1) := by decide +kernel
theorem dX0_keep_25 : decode cX0_keep 25 = .ok (.getfield 15, 3) := by decide +kernel
theorem dX0_keep_28 : decode cX0_keep 28 = .ok (.iconst 1, 1) := by decide +kernel
theorem dX0_keep_29 : decode cX0_keep 29 = .ok (.aload_n 0, 1) := by decide +kernel
theorem dX0_keep_30 : decode cX0_keep 30 = .ok (.getfield 15, 3) := by decide +kernel
theorem dX0_keep_33 : decode cX0_keep 33 = .ok (.iconst 0, 1) := by decide +kernel
theorem dX0_keep_34 : decode cX0_keep 34 = .ok (.bipush 23, 2) := by decide +kernel
theorem dX0_keep_36 : decode cX0_keep 36 = .ok (.invokestatic 22, 3) := by decide +kernel
theorem dX0_keep_39 : decode cX0_keep 39 = .ok (.aload_n 0, 1) := by decide +kernel
theorem dX0_keep_40 : decode cX0_keep 40 = .ok (.bipush 23, 2) := by decide +kernel
theorem dX0_keep_42 : decode cX0_keep 42 = .ok (.putfield 18, 3) := by decide +kernel
theorem dX0_keep_45 : decode cX0_keep 45 = .ok (.aload_n 0, 1) := by decide +kernel
theorem dX0_keep_46 : decode cX0_keep 46 = .ok (.getfield 11, 3) := by decide +kernel
theorem dX0_keep_49 : decode cX0_keep 49 = .ok (.aload_n 0, 1) := by decide +kernel
theorem dX0_keep_50 : decode cX0_keep 50 = .ok (.getfield 18, 3) := by decide +kernel
theorem dX0_keep_53 : decode cX0_keep 53 = .ok (.iload_n 1, 1) := by decide +kernel
theorem dX0_keep_54 : decode cX0_keep 54 = .ok (.iastore, 1) := by decide +kernel
theorem dX0_keep_55 : decode cX0_keep 55 = .ok (.aload_n 0, 1) := by decide +kernel
theorem dX0_keep_56 : decode cX0_keep 56 = .ok (.getfield 15, 3) := by decide +kernel
theorem dX0_keep_59 : decode cX0_keep 59 = .ok (.aload_n 0, 1) := by decide +kernel
theorem dX0_keep_60 : decode cX0_keep 60 = .ok (.getfield 18, 3) := by decide +kernel
theorem dX0_keep_63 : decode cX0_keep 63 = .ok (.iload_n 2, 1) := by decide +kernel
theorem dX0_keep_64 : decode cX0_keep 64 = .ok (.iastore, 1) := by decide +kernel
theorem dX0_keep_65 : decode cX0_keep 65 = .ok (.aload_n 0, 1) := by decide +kernel
theorem dX0_keep_66 : decode cX0_keep 66 = .ok (.dup, 1) := by decide +kernel
theorem dX0_keep_67 : decode cX0_keep 67 = .ok (.getfield 18, 3) := by decide +kernel
theorem dX0_keep_70 : decode cX0_keep 70 = .ok (.iconst 1, 1) := by decide +kernel
theorem dX0_keep_71 : decode cX0_keep 71 = .ok (.iadd, 1) := by decide +kernel
theorem dX0_keep_72 : decode cX0_keep 72 = .ok (.putfield 18, 3) := by decide +kernel
theorem dX0_keep_75 : decode cX0_keep 75 = .ok (.return_, 1) := by decide +kernel
theorem dX0_takeBack_0 : decode cX0_takeBack 0 = .ok (.aload_n 0, 1) := by decide +kernel
theorem dX0_takeBack_1 : decode cX0_takeBack 1 = .ok (.getfield 18, 3) := by decide +kernel
theorem dX0_takeBack_4 : decode cX0_takeBack 4 = .ok (.iconst 1, 1) := by decide +kernel
theorem dX0_takeBack_5 : decode cX0_takeBack 5 = .ok (.if_icmp .ge 4, 3) := by decide +kernel
theorem dX0_takeBack_8 : decode cX0_takeBack 8 = .ok (.return_, 1) := by decide +kernel
theorem dX0_takeBack_9 : decode cX0_takeBack 9 = .ok (.aload_n 0, 1) := by decide +kernel
theorem dX0_takeBack_10 : decode cX0_takeBack 10 = .ok (.dup, 1) := by decide +kernel
theorem dX0_takeBack_11 : decode cX0_takeBack 11 = .ok (.getfield 18, 3) := by decide +kernel
theorem dX0_takeBack_14 : decode cX0_takeBack 14 = .ok (.iconst 1, 1) := by decide +kernel
theorem dX0_takeBack_15 : decode cX0_takeBack 15 = .ok (.isub, 1) := by decide +kernel
theorem dX0_takeBack_16 : decode cX0_takeBack 16 = .ok (.putfield 18, 3) := by decide +kernel
theorem dX0_takeBack_19 : decode cX0_takeBack 19 = .ok (.aload_n 0, 1) := by decide +kernel
theorem dX0_takeBack_20 : decode cX0_takeBack 20 = .ok (.getfield 11, 3) := by decide +kernel
theorem dX0_takeBack_23 : decode cX0_takeBack 23 = .ok (.aload_n 0, 1) := by decide +kernel
theorem dX0_takeBack_24 : decode cX0_takeBack 24 = .ok (.getfield 18, 3) := by decide +kernel
theorem dX0_takeBack_27 : decode cX0_takeBack 27 = .ok (.iaload, 1) := by decide +kernel
theorem dX0_takeBack_28 : decode cX0_takeBack 28 = .ok (.istore_n 2, 1) := by decide +kernel
theorem dX0_takeBack_29 : decode cX0_takeBack 29 = .ok (.iload_n 2, 1) := by decide +kernel
theorem dX0_takeBack_30 : decode cX0_takeBack 30 = .ok (.bipush 9, 2) := by decide +kernel
theorem dX0_takeBack_32 : decode cX0_takeBack 32 = .ok (.if_icmp .ne 19, 3) := by decide +kernel
theorem dX0_takeBack_35 : decode cX0_takeBack 35 = .ok (.aload_n 1, 1) := by decide +kernel
theorem dX0_takeBack_36 : decode cX0_takeBack 36 = .ok (.aload_n 0, 1) := by decide +kernel
theorem dX0_takeBack_37 : decode cX0_takeBack 37 = .ok (.getfield 15, 3) := by decide +kernel
theorem dX0_takeBack_40 : decode cX0_takeBack 40 = .ok (.aload_n 0, 1) := by decide +kernel
theorem dX0_takeBack_41 : decode cX0_takeBack 41 = .ok (.getfield 18, 3) := by decide +kernel
theorem dX0_takeBack_44 : decode cX0_takeBack 44 = .ok (.iaload, 1) := by decide +kernel
theorem dX0_takeBack_45 : decode cX0_takeBack 45 = .ok (.invokevirtual 28, 3) := by decide +kernel
theorem dX0_takeBack_48 : decode cX0_takeBack 48 = .ok (.goto 43, 3) := by decide +kernel
theorem dX0_takeBack_51 : decode cX0_takeBack 51 = .ok (.iload_n 2, 1) := by decide +kernel
theorem dX0_takeBack_52 : decode cX0_takeBack 52 = .ok (.iconst 4, 1) := by decide +kernel
theorem dX0_takeBack_53 : decode cX0_takeBack 53 = .ok (.if_icmp .lt 23, 3) := by decide +kernel
theorem dX0_takeBack_56 : decode cX0_takeBack 56 = .ok (.aload_n 1, 1) := by decide +kernel
theorem dX0_takeBack_57 : decode cX0_takeBack 57 = .ok (.iload_n 2, 1) := by decide +kernel
theorem dX0_takeBack_58 : decode cX0_takeBack 58 = .ok (.iconst 4, 1) := by decide +kernel
theorem dX0_takeBack_59 : decode cX0_takeBack 59 = .ok (.isub, 1) := by decide +kernel
theorem dX0_takeBack_60 : decode cX0_takeBack 60 = .ok (.iconst 4, 1) := by decide +kernel
theorem dX0_takeBack_61 : decode cX0_takeBack 61 = .ok (.aload_n 0, 1) := by decide +kernel
theorem dX0_takeBack_62 : decode cX0_takeBack 62 = .ok (.getfield 15, 3) := by decide +kernel
theorem dX0_takeBack_65 : decode cX0_takeBack 65 = .ok (.aload_n 0, 1) := by decide +kernel
theorem dX0_takeBack_66 : decode cX0_takeBack 66 = .ok (.getfield 18, 3) := by decide +kernel
theorem dX0_takeBack_69 : decode cX0_takeBack 69 = .ok (.iaload, 1) := by decide +kernel
theorem dX0_takeBack_70 : decode cX0_takeBack 70 = .ok (.invokevirtual 34, 3) := by decide +kernel
theorem dX0_takeBack_73 : decode cX0_takeBack 73 = .ok (.goto 18, 3) := by decide +kernel
theorem dX0_takeBack_76 : decode cX0_takeBack 76 = .ok (.aload_n 1, 1) := by decide +kernel
theorem dX0_takeBack_77 : decode cX0_takeBack 77 = .ok (.getfield 38, 3) := by decide +kernel
theorem dX0_takeBack_80 : decode cX0_takeBack 80 = .ok (.iload_n 2, 1) := by decide +kernel
theorem dX0_takeBack_81 : decode cX0_takeBack 81 = .ok (.aload_n 0, 1) := by decide +kernel
theorem dX0_takeBack_82 : decode cX0_takeBack 82 = .ok (.getfield 15, 3) := by decide +kernel
theorem dX0_takeBack_85 : decode cX0_takeBack 85 = .ok (.aload_n 0, 1) := by decide +kernel
theorem dX0_takeBack_86 : decode cX0_takeBack 86 = .ok (.getfield 18, 3) := by decide +kernel
theorem dX0_takeBack_89 : decode cX0_takeBack 89 = .ok (.iaload, 1) := by decide +kernel
theorem dX0_takeBack_90 : decode cX0_takeBack 90 = .ok (.iastore, 1) := by decide +kernel
theorem dX0_takeBack_91 : decode cX0_takeBack 91 = .ok (.return_, 1) := by decide +kernel
theorem dX0_forgetAll_0 : decode cX0_forgetAll 0 = .ok (.aload_n 0, 1) := by decide +kernel
theorem dX0_forgetAll_1 : decode cX0_forgetAll 1 = .ok (.iconst 0, 1) := by decide +kernel
theorem dX0_forgetAll_2 : decode cX0_forgetAll 2 = .ok (.putfield 18, 3) := by decide +kernel
theorem dX0_forgetAll_5 : decode cX0_forgetAll 5 = .ok (.return_, 1) := by decide +kernel
theorem dX1_init_0 : decode cX1_init 0 = .ok (.aload_n 0, 1) := by decide +kernel
theorem dX1_init_1 : decode cX1_init 1 = .ok (.invokespecial 3, 3) := by decide +kernel
theorem dX1_init_4 : decode cX1_init 4 = .ok (.aload_n 0, 1) := by decide +kernel
theorem dX1_init_5 : decode cX1_init 5 = .ok (.bipush 16, 2) := by decide +kernel
theorem dX1_init_7 : decode cX1_init 7 = .ok (.newarray .int, 2) := by decide +kernel
theorem dX1_init_9 : decode cX1_init 9 = .ok (.putfield 9, 3) := by decide +kernel
theorem dX1_init_12 : decode cX1_init 12 = .ok (.return_, 1) := by decide +kernel
theorem dX1_answer_0 : decode cX1_answer 0 = .ok (.aload_n 0, 1) := by decide +kernel
theorem dX1_answer_1 : decode cX1_answer 1 = .ok (.aload_n 1, 1) := by decide +kernel
theorem dX1_answer_2 : decode cX1_answer 2 = .ok (.putfield 15, 3) := by decide +kernel
theorem dX1_answer_5 : decode cX1_answer 5 = .ok (.aload_n 0, 1) := by decide +kernel
theorem dX1_answer_6 : decode cX1_answer 6 = .ok (.iload_n 2, 1) := by decide +kernel
theorem dX1_answer_7 : decode cX1_answer 7 = .ok (.putfield 19, 3) := by decide +kernel
theorem dX1_answer_10 : decode cX1_answer 10 = .ok (.aload_n 0, 1) := by decide +kernel
theorem dX1_answer_11 : decode cX1_answer 11 = .ok (.iconst 0, 1) := by decide +kernel
theorem dX1_answer_12 : decode cX1_answer 12 = .ok (.putfield 23, 3) := by decide +kernel
theorem dX1_answer_15 : decode cX1_answer 15 = .ok (.aload_n 0, 1) := by decide +kernel
theorem dX1_answer_16 : decode cX1_answer 16 = .ok (.aload_n 0, 1) := by decide +kernel
theorem dX1_answer_17 : decode cX1_answer 17 = .ok (.iload_n 3, 1) := by decide +kernel
theorem dX1_answer_18 : decode cX1_answer 18 = .ok (.invokevirtual 26, 3) := by decide +kernel
theorem dX1_answer_21 : decode cX1_answer 21 = .ok (.iconst 0, 1) := by decide +kernel
theorem dX1_answer_22 : decode cX1_answer 22 = .ok (.invokevirtual 30, 3) := by decide +kernel
theorem dX1_answer_25 : decode cX1_answer 25 = .ok (.ireturn, 1) := by decide +kernel
theorem dX1_bodyFor_0 : decode cX1_bodyFor 0 = .ok (.aload_n 0, 1) := by decide +kernel
theorem dX1_bodyFor_1 : decode cX1_bodyFor 1 = .ok (.getfield 15, 3) := by decide +kernel
theorem dX1_bodyFor_4 : decode cX1_bodyFor 4 = .ok (.getfield 34, 3) := by decide +kernel
theorem dX1_bodyFor_7 : decode cX1_bodyFor 7 = .ok (.aload_n 0, 1) := by decide +kernel
theorem dX1_bodyFor_8 : decode cX1_bodyFor 8 = .ok (.getfield 19, 3) := by decide +kernel
theorem dX1_bodyFor_11 : decode cX1_bodyFor 11 = .ok (.iaload, 1) := by decide +kernel
theorem dX1_bodyFor_12 : decode cX1_bodyFor 12 = .ok (.istore_n 2, 1) := by decide +kernel
theorem dX1_bodyFor_13 : decode cX1_bodyFor 13 = .ok (.iload_n 1, 1) := by decide +kernel
theorem dX1_bodyFor_14 : decode cX1_bodyFor 14 = .ok (.ifCond .ne 11, 3) := by decide +kernel
theorem dX1_bodyFor_17 : decode cX1_bodyFor 17 = .ok (.getstatic 39, 3) := by decide +kernel
theorem dX1_bodyFor_20 : decode cX1_bodyFor 20 = .ok (.iload_n 2, 1) := by decide +kernel
theorem dX1_bodyFor_21 : decode cX1_bodyFor 21 = .ok (.iaload, 1) := by decide +kernel
theorem dX1_bodyFor_22 : decode cX1_bodyFor 22 = .ok (.goto 8, 3) := by decide +kernel
theorem dX1_bodyFor_25 : decode cX1_bodyFor 25 = .ok (.getstatic 42, 3) := by decide +kernel
theorem dX1_bodyFor_28 : decode cX1_bodyFor 28 = .ok (.iload_n 2, 1) := by decide +kernel
theorem dX1_bodyFor_29 : decode cX1_bodyFor 29 = .ok (.iaload, 1) := by decide +kernel
theorem dX1_bodyFor_30 : decode cX1_bodyFor 30 = .ok (.ireturn, 1) := by decide +kernel
theorem dX1_begin_0 : decode cX1_begin 0 = .ok (.iload_n 2, 1) := by decide +kernel
theorem dX1_begin_1 : decode cX1_begin 1 = .ok (.bipush 16, 2) := by decide +kernel
theorem dX1_begin_3 : decode cX1_begin 3 = .ok (.if_icmp .le 5, 3) := by decide +kernel
theorem dX1_begin_6 : decode cX1_begin 6 = .ok (.iconst 0, 1) := by decide +kernel
theorem dX1_begin_7 : decode cX1_begin 7 = .ok (.ireturn, 1) := by decide +kernel
theorem dX1_begin_8 : decode cX1_begin 8 = .ok (.aload_n 0, 1) := by decide +kernel
theorem dX1_begin_9 : decode cX1_begin 9 = .ok (.getfield 23, 3) := by decide +kernel
theorem dX1_begin_12 : decode cX1_begin 12 = .ok (.bipush 16, 2) := by decide +kernel
theorem dX1_begin_14 : decode cX1_begin 14 = .ok (.if_icmp .ge 23, 3) := by decide +kernel
theorem dX1_begin_17 : decode cX1_begin 17 = .ok (.aload_n 0, 1) := by decide +kernel
theorem dX1_begin_18 : decode cX1_begin 18 = .ok (.getfield 9, 3) := by decide +kernel
theorem dX1_begin_21 : decode cX1_begin 21 = .ok (.aload_n 0, 1) := by decide +kernel
theorem dX1_begin_22 : decode cX1_begin 22 = .ok (.getfield 23, 3) := by decide +kernel
theorem dX1_begin_25 : decode cX1_begin 25 = .ok (.iload_n 1, 1) := by decide +kernel
theorem dX1_begin_26 : decode cX1_begin 26 = .ok (.iastore, 1) := by decide +kernel
theorem dX1_begin_27 : decode cX1_begin 27 = .ok (.aload_n 0, 1) := by decide +kernel
theorem dX1_begin_28 : decode cX1_begin 28 = .ok (.dup, 1) := by decide +kernel
theorem dX1_begin_29 : decode cX1_begin 29 = .ok (.getfield 23, 3) := by decide +kernel
theorem dX1_begin_32 : decode cX1_begin 32 = .ok (.iconst 1, 1) := by decide +kernel
theorem dX1_begin_33 : decode cX1_begin 33 = .ok (.iadd, 1) := by decide +kernel
theorem dX1_begin_34 : decode cX1_begin 34 = .ok (.putfield 23, 3) := by decide +kernel
theorem dX1_begin_37 : decode cX1_begin 37 = .ok (.iload_n 2, 1) := by decide +kernel
theorem dX1_begin_38 : decode cX1_begin 38 = .ok (.iconst 1, 1) := by decide +kernel
theorem dX1_begin_39 : decode cX1_begin 39 = .ok (.iadd, 1) := by decide +kernel
theorem dX1_begin_40 : decode cX1_begin 40 = .ok (.istore_n 3, 1) := by decide +kernel
theorem dX1_begin_41 : decode cX1_begin 41 = .ok (.iload_n 1, 1) := by decide +kernel
theorem dX1_begin_42 : decode cX1_begin 42 = .ok (.tableswitch 203 10 24 #[74, 87, 106, 115, 126, 203, 203, 203, 203, 203, 136, 141, 162, 174, 193], 74) := by decide +kernel
theorem dX1_begin_116 : decode cX1_begin 116 = .ok (.aload_n 0, 1) := by decide +kernel
theorem dX1_begin_117 : decode cX1_begin 117 = .ok (.getfield 15, 3) := by decide +kernel
theorem dX1_begin_120 : decode cX1_begin 120 = .ok (.aload_n 0, 1) := by decide +kernel
theorem dX1_begin_121 : decode cX1_begin 121 = .ok (.getfield 19, 3) := by decide +kernel
theorem dX1_begin_124 : decode cX1_begin 124 = .ok (.iconst 4, 1) := by decide +kernel
theorem dX1_begin_125 : decode cX1_begin 125 = .ok (.invokevirtual 45, 3) := by decide +kernel
theorem dX1_begin_128 : decode cX1_begin 128 = .ok (.ireturn, 1) := by decide +kernel
theorem dX1_begin_129 : decode cX1_begin 129 = .ok (.aload_n 0, 1) := by decide +kernel
theorem dX1_begin_130 : decode cX1_begin 130 = .ok (.bipush 10, 2) := by decide +kernel
theorem dX1_begin_132 : decode cX1_begin 132 = .ok (.iload_n 3, 1) := by decide +kernel
theorem dX1_begin_133 : decode cX1_begin 133 = .ok (.invokevirtual 30, 3) := by decide +kernel
theorem dX1_begin_136 : decode cX1_begin 136 = .ok (.aload_n 0, 1) := by decide +kernel
theorem dX1_begin_137 : decode cX1_begin 137 = .ok (.aload_n 0, 1) := by decide +kernel
theorem dX1_begin_138 : decode cX1_begin 138 = .ok (.iconst 1, 1) := by decide +kernel
theorem dX1_begin_139 : decode cX1_begin 139 = .ok (.invokevirtual 26, 3) := by decide +kernel
theorem dX1_begin_142 : decode cX1_begin 142 = .ok (.iload_n 3, 1) := by decide +kernel
theorem dX1_begin_143 : decode cX1_begin 143 = .ok (.invokevirtual 30, 3) := by decide +kernel
theorem dX1_begin_146 : decode cX1_begin 146 = .ok (.iadd, 1) := by decide +kernel
theorem dX1_begin_147 : decode cX1_begin 147 = .ok (.ireturn, 1) := by decide +kernel
theorem dX1_begin_148 : decode cX1_begin 148 = .ok (.aload_n 0, 1) := by decide +kernel
theorem dX1_begin_149 : decode cX1_begin 149 = .ok (.bipush 11, 2) := by decide +kernel
theorem dX1_begin_151 : decode cX1_begin 151 = .ok (.iload_n 3, 1) := by decide +kernel
theorem dX1_begin_152 : decode cX1_begin 152 = .ok (.invokevirtual 30, 3) := by decide +kernel
theorem dX1_begin_155 : decode cX1_begin 155 = .ok (.ineg, 1) := by decide +kernel
theorem dX1_begin_156 : decode cX1_begin 156 = .ok (.ireturn, 1) := by decide +kernel
theorem dX1_begin_157 : decode cX1_begin 157 = .ok (.aload_n 0, 1) := by decide +kernel
theorem dX1_begin_158 : decode cX1_begin 158 = .ok (.bipush 10, 2) := by decide +kernel
theorem dX1_begin_160 : decode cX1_begin 160 = .ok (.iload_n 3, 1) := by decide +kernel
theorem dX1_begin_161 : decode cX1_begin 161 = .ok (.invokevirtual 30, 3) := by decide +kernel
theorem dX1_begin_164 : decode cX1_begin 164 = .ok (.bipush 100, 2) := by decide +kernel
theorem dX1_begin_166 : decode cX1_begin 166 = .ok (.isub, 1) := by decide +kernel
theorem dX1_begin_167 : decode cX1_begin 167 = .ok (.ireturn, 1) := by decide +kernel
theorem dX1_begin_168 : decode cX1_begin 168 = .ok (.aload_n 0, 1) := by decide +kernel
theorem dX1_begin_169 : decode cX1_begin 169 = .ok (.bipush 13, 2) := by decide +kernel
theorem dX1_begin_171 : decode cX1_begin 171 = .ok (.iload_n 3, 1) := by decide +kernel
theorem dX1_begin_172 : decode cX1_begin 172 = .ok (.invokevirtual 30, 3) := by decide +kernel
theorem dX1_begin_175 : decode cX1_begin 175 = .ok (.iconst 2, 1) := by decide +kernel
theorem dX1_begin_176 : decode cX1_begin 176 = .ok (.imul, 1) := by decide +kernel
theorem dX1_begin_177 : decode cX1_begin 177 = .ok (.ireturn, 1) := by decide +kernel
theorem dX1_begin_178 : decode cX1_begin 178 = .ok (.aload_n 0, 1) := by decide +kernel
theorem dX1_begin_179 : decode cX1_begin 179 = .ok (.getfield 19, 3) := by decide +kernel
theorem dX1_begin_182 : decode cX1_begin 182 = .ok (.ireturn, 1) := by decide +kernel
theorem dX1_begin_183 : decode cX1_begin 183 = .ok (.aload_n 0, 1) := by decide +kernel
theorem dX1_begin_184 : decode cX1_begin 184 = .ok (.bipush 20, 2) := by decide +kernel
theorem dX1_begin_186 : decode cX1_begin 186 = .ok (.iload_n 3, 1) := by decide +kernel
theorem dX1_begin_187 : decode cX1_begin 187 = .ok (.invokevirtual 30, 3) := by decide +kernel
theorem dX1_begin_190 : decode cX1_begin 190 = .ok (.aload_n 0, 1) := by decide +kernel
theorem dX1_begin_191 : decode cX1_begin 191 = .ok (.getfield 15, 3) := by decide +kernel
theorem dX1_begin_194 : decode cX1_begin 194 = .ok (.aload_n 0, 1) := by decide +kernel
theorem dX1_begin_195 : decode cX1_begin 195 = .ok (.getfield 19, 3) := by decide +kernel
theorem dX1_begin_198 : decode cX1_begin 198 = .ok (.iconst 3, 1) := by decide +kernel
theorem dX1_begin_199 : decode cX1_begin 199 = .ok (.invokevirtual 45, 3) := by decide +kernel
theorem dX1_begin_202 : decode cX1_begin 202 = .ok (.iadd, 1) := by decide +kernel
theorem dX1_begin_203 : decode cX1_begin 203 = .ok (.ireturn, 1) := by decide +kernel
theorem dX1_begin_204 : decode cX1_begin 204 = .ok (.aload_n 0, 1) := by decide +kernel
theorem dX1_begin_205 : decode cX1_begin 205 = .ok (.bipush 21, 2) := by decide +kernel
theorem dX1_begin_207 : decode cX1_begin 207 = .ok (.iload_n 3, 1) := by decide +kernel
theorem dX1_begin_208 : decode cX1_begin 208 = .ok (.invokevirtual 30, 3) := by decide +kernel
theorem dX1_begin_211 : decode cX1_begin 211 = .ok (.sipush 1000, 3) := by decide +kernel
theorem dX1_begin_214 : decode cX1_begin 214 = .ok (.isub, 1) := by decide +kernel
theorem dX1_begin_215 : decode cX1_begin 215 = .ok (.ireturn, 1) := by decide +kernel
theorem dX1_begin_216 : decode cX1_begin 216 = .ok (.aload_n 0, 1) := by decide +kernel
theorem dX1_begin_217 : decode cX1_begin 217 = .ok (.bipush 20, 2) := by decide +kernel
theorem dX1_begin_219 : decode cX1_begin 219 = .ok (.iload_n 3, 1) := by decide +kernel
theorem dX1_begin_220 : decode cX1_begin 220 = .ok (.invokevirtual 30, 3) := by decide +kernel
theorem dX1_begin_223 : decode cX1_begin 223 = .ok (.aload_n 0, 1) := by decide +kernel
theorem dX1_begin_224 : decode cX1_begin 224 = .ok (.aload_n 0, 1) := by decide +kernel
theorem dX1_begin_225 : decode cX1_begin 225 = .ok (.iconst 0, 1) := by decide +kernel
theorem dX1_begin_226 : decode cX1_begin 226 = .ok (.invokevirtual 26, 3) := by decide +kernel
theorem dX1_begin_229 : decode cX1_begin 229 = .ok (.iload_n 3, 1) := by decide +kernel
theorem dX1_begin_230 : decode cX1_begin 230 = .ok (.invokevirtual 30, 3) := by decide +kernel
theorem dX1_begin_233 : decode cX1_begin 233 = .ok (.isub, 1) := by decide +kernel
theorem dX1_begin_234 : decode cX1_begin 234 = .ok (.ireturn, 1) := by decide +kernel
theorem dX1_begin_235 : decode cX1_begin 235 = .ok (.aload_n 0, 1) := by decide +kernel
theorem dX1_begin_236 : decode cX1_begin 236 = .ok (.bipush 21, 2) := by decide +kernel
theorem dX1_begin_238 : decode cX1_begin 238 = .ok (.iload_n 3, 1) := by decide +kernel
theorem dX1_begin_239 : decode cX1_begin 239 = .ok (.invokevirtual 30, 3) := by decide +kernel
theorem dX1_begin_242 : decode cX1_begin 242 = .ok (.iconst 2, 1) := by decide +kernel
theorem dX1_begin_243 : decode cX1_begin 243 = .ok (.imul, 1) := by decide +kernel
theorem dX1_begin_244 : decode cX1_begin 244 = .ok (.ireturn, 1) := by decide +kernel
theorem dX1_begin_245 : decode cX1_begin 245 = .ok (.iconst 0, 1) := by decide +kernel
theorem dX1_begin_246 : decode cX1_begin 246 = .ok (.ireturn, 1) := by decide +kernel
theorem dX2_init_0 : decode cX2_init 0 = .ok (.aload_n 0, 1) := by decide +kernel
theorem dX2_init_1 : decode cX2_init 1 = .ok (.invokespecial 3, 3) := by decide +kernel
theorem dX2_init_4 : decode cX2_init 4 = .ok (.aload_n 0, 1) := by decide +kernel
theorem dX2_init_5 : decode cX2_init 5 = .ok (.sipush 130, 3) := by decide +kernel
theorem dX2_init_8 : decode cX2_init 8 = .ok (.newarray .int, 2) := by decide +kernel
theorem dX2_init_10 : decode cX2_init 10 = .ok (.putfield 9, 3) := by decide +kernel
theorem dX2_init_13 : decode cX2_init 13 = .ok (.return_, 1) := by decide +kernel
theorem dX2_take_0 : decode cX2_take 0 = .ok (.aload_n 0, 1) := by decide +kernel
theorem dX2_take_1 : decode cX2_take 1 = .ok (.getfield 15, 3) := by decide +kernel
theorem dX2_take_4 : decode cX2_take 4 = .ok (.sipush 130, 3) := by decide +kernel
theorem dX2_take_7 : decode cX2_take 7 = .ok (.if_icmp .lt 5, 3) := by decide +kernel
theorem dX2_take_10 : decode cX2_take 10 = .ok (.iconst 0, 1) := by decide +kernel
theorem dX2_take_11 : decode cX2_take 11 = .ok (.ireturn, 1) := by decide +kernel
theorem dX2_take_12 : decode cX2_take 12 = .ok (.aload_n 0, 1) := by decide +kernel
theorem dX2_take_13 : decode cX2_take 13 = .ok (.getfield 9, 3) := by decide +kernel
theorem dX2_take_16 : decode cX2_take 16 = .ok (.aload_n 0, 1) := by decide +kernel
theorem dX2_take_17 : decode cX2_take 17 = .ok (.getfield 15, 3) := by decide +kernel
theorem dX2_take_20 : decode cX2_take 20 = .ok (.iload_n 1, 1) := by decide +kernel
theorem dX2_take_21 : decode cX2_take 21 = .ok (.iastore, 1) := by decide +kernel
theorem dX2_take_22 : decode cX2_take 22 = .ok (.aload_n 0, 1) := by decide +kernel
theorem dX2_take_23 : decode cX2_take 23 = .ok (.dup, 1) := by decide +kernel
theorem dX2_take_24 : decode cX2_take 24 = .ok (.getfield 15, 3) := by decide +kernel
theorem dX2_take_27 : decode cX2_take 27 = .ok (.iconst 1, 1) := by decide +kernel
theorem dX2_take_28 : decode cX2_take 28 = .ok (.iadd, 1) := by decide +kernel
theorem dX2_take_29 : decode cX2_take 29 = .ok (.putfield 15, 3) := by decide +kernel
theorem dX2_take_32 : decode cX2_take 32 = .ok (.iconst 1, 1) := by decide +kernel
theorem dX2_take_33 : decode cX2_take 33 = .ok (.ireturn, 1) := by decide +kernel
theorem dX2_read_0 : decode cX2_read 0 = .ok (.aload_n 0, 1) := by decide +kernel
theorem dX2_read_1 : decode cX2_read 1 = .ok (.iconst 0, 1) := by decide +kernel
theorem dX2_read_2 : decode cX2_read 2 = .ok (.putfield 19, 3) := by decide +kernel
theorem dX2_read_5 : decode cX2_read 5 = .ok (.aload_n 0, 1) := by decide +kernel
theorem dX2_read_6 : decode cX2_read 6 = .ok (.iconst 0, 1) := by decide +kernel
theorem dX2_read_7 : decode cX2_read 7 = .ok (.putfield 22, 3) := by decide +kernel
theorem dX2_read_10 : decode cX2_read 10 = .ok (.aload_n 0, 1) := by decide +kernel
theorem dX2_read_11 : decode cX2_read 11 = .ok (.aload_n 1, 1) := by decide +kernel
theorem dX2_read_12 : decode cX2_read 12 = .ok (.invokevirtual 26, 3) := by decide +kernel
theorem dX2_read_15 : decode cX2_read 15 = .ok (.aload_n 0, 1) := by decide +kernel
theorem dX2_read_16 : decode cX2_read 16 = .ok (.aload_n 1, 1) := by decide +kernel
theorem dX2_read_17 : decode cX2_read 17 = .ok (.invokevirtual 30, 3) := by decide +kernel
theorem dX2_read_20 : decode cX2_read 20 = .ok (.aload_n 1, 1) := by decide +kernel
theorem dX2_read_21 : decode cX2_read 21 = .ok (.iconst 0, 1) := by decide +kernel
theorem dX2_read_22 : decode cX2_read 22 = .ok (.putfield 33, 3) := by decide +kernel
theorem dX2_read_25 : decode cX2_read 25 = .ok (.iconst 0, 1) := by decide +kernel
theorem dX2_read_26 : decode cX2_read 26 = .ok (.istore_n 2, 1) := by decide +kernel
theorem dX2_read_27 : decode cX2_read 27 = .ok (.iload_n 2, 1) := by decide +kernel
theorem dX2_read_28 : decode cX2_read 28 = .ok (.iconst 5, 1) := by decide +kernel
theorem dX2_read_29 : decode cX2_read 29 = .ok (.if_icmp .gt 37, 3) := by decide +kernel
theorem dX2_read_32 : decode cX2_read 32 = .ok (.aload_n 0, 1) := by decide +kernel
theorem dX2_read_33 : decode cX2_read 33 = .ok (.getfield 22, 3) := by decide +kernel
theorem dX2_read_36 : decode cX2_read 36 = .ok (.ifCond .ne 30, 3) := by decide +kernel
theorem dX2_read_39 : decode cX2_read 39 = .ok (.iload_n 2, 1) := by decide +kernel
theorem dX2_read_40 : decode cX2_read 40 = .ok (.ifCond .eq 14, 3) := by decide +kernel
theorem dX2_read_43 : decode cX2_read 43 = .ok (.aload_n 0, 1) := by decide +kernel
theorem dX2_read_44 : decode cX2_read 44 = .ok (.getfield 19, 3) := by decide +kernel
theorem dX2_read_47 : decode cX2_read 47 = .ok (.aload_n 0, 1) := by decide +kernel
theorem dX2_read_48 : decode cX2_read 48 = .ok (.getfield 15, 3) := by decide +kernel
theorem dX2_read_51 : decode cX2_read 51 = .ok (.if_icmp .ge 15, 3) := by decide +kernel
theorem dX2_read_54 : decode cX2_read 54 = .ok (.aload_n 0, 1) := by decide +kernel
theorem dX2_read_55 : decode cX2_read 55 = .ok (.aload_n 1, 1) := by decide +kernel
theorem dX2_read_56 : decode cX2_read 56 = .ok (.iload_n 2, 1) := by decide +kernel
theorem dX2_read_57 : decode cX2_read 57 = .ok (.invokevirtual 38, 3) := by decide +kernel
theorem dX2_read_60 : decode cX2_read 60 = .ok (.iinc 2 1, 3) := by decide +kernel
theorem dX2_read_63 : decode cX2_read 63 = .ok (.goto (-36), 3) := by decide +kernel
theorem dX2_read_66 : decode cX2_read 66 = .ok (.aload_n 1, 1) := by decide +kernel
theorem dX2_read_67 : decode cX2_read 67 = .ok (.getfield 42, 3) := by decide +kernel
theorem dX2_read_70 : decode cX2_read 70 = .ok (.iconst (-1), 1) := by decide +kernel
theorem dX2_read_71 : decode cX2_read 71 = .ok (.invokestatic 45, 3) := by decide +kernel
theorem dX2_read_74 : decode cX2_read 74 = .ok (.aload_n 0, 1) := by decide +kernel
theorem dX2_read_75 : decode cX2_read 75 = .ok (.iconst 0, 1) := by decide +kernel
theorem dX2_read_76 : decode cX2_read 76 = .ok (.putfield 15, 3) := by decide +kernel
theorem dX2_read_79 : decode cX2_read 79 = .ok (.aload_n 0, 1) := by decide +kernel
theorem dX2_read_80 : decode cX2_read 80 = .ok (.getfield 22, 3) := by decide +kernel
theorem dX2_read_83 : decode cX2_read 83 = .ok (.ifCond .ne 7, 3) := by decide +kernel
theorem dX2_read_86 : decode cX2_read 86 = .ok (.iconst 1, 1) := by decide +kernel
theorem dX2_read_87 : decode cX2_read 87 = .ok (.goto 4, 3) := by decide +kernel
theorem dX2_read_90 : decode cX2_read 90 = .ok (.iconst 0, 1) := by decide +kernel
theorem dX2_read_91 : decode cX2_read 91 = .ok (.ireturn, 1) := by decide +kernel
theorem dX2_readLaw_0 : decode cX2_readLaw 0 = .ok (.aload_n 0, 1) := by decide +kernel
theorem dX2_readLaw_1 : decode cX2_readLaw 1 = .ok (.bipush 119, 2) := by decide +kernel
theorem dX2_readLaw_3 : decode cX2_readLaw 3 = .ok (.invokevirtual 51, 3) := by decide +kernel
theorem dX2_readLaw_6 : decode cX2_readLaw 6 = .ok (.aload_n 1, 1) := by decide +kernel
theorem dX2_readLaw_7 : decode cX2_readLaw 7 = .ok (.aload_n 0, 1) := by decide +kernel
theorem dX2_readLaw_8 : decode cX2_readLaw 8 = .ok (.iconst 2, 1) := by decide +kernel
theorem dX2_readLaw_9 : decode cX2_readLaw 9 = .ok (.bipush 8, 2) := by decide +kernel
theorem dX2_readLaw_11 : decode cX2_readLaw 11 = .ok (.invokevirtual 55, 3) := by decide +kernel
theorem dX2_readLaw_14 : decode cX2_readLaw 14 = .ok (.putfield 59, 3) := by decide +kernel
theorem dX2_readLaw_17 : decode cX2_readLaw 17 = .ok (.aload_n 0, 1) := by decide +kernel
theorem dX2_readLaw_18 : decode cX2_readLaw 18 = .ok (.bipush 44, 2) := by decide +kernel
theorem dX2_readLaw_20 : decode cX2_readLaw 20 = .ok (.invokevirtual 51, 3) := by decide +kernel
theorem dX2_readLaw_23 : decode cX2_readLaw 23 = .ok (.aload_n 1, 1) := by decide +kernel
theorem dX2_readLaw_24 : decode cX2_readLaw 24 = .ok (.getfield 62, 3) := by decide +kernel
theorem dX2_readLaw_27 : decode cX2_readLaw 27 = .ok (.iconst 3, 1) := by decide +kernel
theorem dX2_readLaw_28 : decode cX2_readLaw 28 = .ok (.aload_n 0, 1) := by decide +kernel
theorem dX2_readLaw_29 : decode cX2_readLaw 29 = .ok (.iconst 3, 1) := by decide +kernel
theorem dX2_readLaw_30 : decode cX2_readLaw 30 = .ok (.invokevirtual 65, 3) := by decide +kernel
theorem dX2_readLaw_33 : decode cX2_readLaw 33 = .ok (.iastore, 1) := by decide +kernel
theorem dX2_readLaw_34 : decode cX2_readLaw 34 = .ok (.aload_n 0, 1) := by decide +kernel
theorem dX2_readLaw_35 : decode cX2_readLaw 35 = .ok (.bipush 44, 2) := by decide +kernel
theorem dX2_readLaw_37 : decode cX2_readLaw 37 = .ok (.invokevirtual 51, 3) := by decide +kernel
theorem dX2_readLaw_40 : decode cX2_readLaw 40 = .ok (.aload_n 1, 1) := by decide +kernel
theorem dX2_readLaw_41 : decode cX2_readLaw 41 = .ok (.getfield 62, 3) := by decide +kernel
theorem dX2_readLaw_44 : decode cX2_readLaw 44 = .ok (.iconst 0, 1) := by decide +kernel
theorem dX2_readLaw_45 : decode cX2_readLaw 45 = .ok (.aload_n 0, 1) := by decide +kernel
theorem dX2_readLaw_46 : decode cX2_readLaw 46 = .ok (.iconst 0, 1) := by decide +kernel
theorem dX2_readLaw_47 : decode cX2_readLaw 47 = .ok (.invokevirtual 65, 3) := by decide +kernel
theorem dX2_readLaw_50 : decode cX2_readLaw 50 = .ok (.iastore, 1) := by decide +kernel
theorem dX2_readLaw_51 : decode cX2_readLaw 51 = .ok (.aload_n 0, 1) := by decide +kernel
theorem dX2_readLaw_52 : decode cX2_readLaw 52 = .ok (.bipush 59, 2) := by decide +kernel
theorem dX2_readLaw_54 : decode cX2_readLaw 54 = .ok (.invokevirtual 51, 3) := by decide +kernel
theorem dX2_readLaw_57 : decode cX2_readLaw 57 = .ok (.return_, 1) := by decide +kernel
theorem dX2_readGas_0 : decode cX2_readGas 0 = .ok (.aload_n 0, 1) := by decide +kernel
theorem dX2_readGas_1 : decode cX2_readGas 1 = .ok (.bipush 103, 2) := by decide +kernel
theorem dX2_readGas_3 : decode cX2_readGas 3 = .ok (.invokevirtual 51, 3) := by decide +kernel
theorem dX2_readGas_6 : decode cX2_readGas 6 = .ok (.aload_n 1, 1) := by decide +kernel
theorem dX2_readGas_7 : decode cX2_readGas 7 = .ok (.getfield 62, 3) := by decide +kernel
theorem dX2_readGas_10 : decode cX2_readGas 10 = .ok (.iconst 1, 1) := by decide +kernel
theorem dX2_readGas_11 : decode cX2_readGas 11 = .ok (.aload_n 0, 1) := by decide +kernel
theorem dX2_readGas_12 : decode cX2_readGas 12 = .ok (.iconst 1, 1) := by decide +kernel
theorem dX2_readGas_13 : decode cX2_readGas 13 = .ok (.invokevirtual 65, 3) := by decide +kernel
theorem dX2_readGas_16 : decode cX2_readGas 16 = .ok (.iastore, 1) := by decide +kernel
theorem dX2_readGas_17 : decode cX2_readGas 17 = .ok (.aload_n 0, 1) := by decide +kernel
theorem dX2_readGas_18 : decode cX2_readGas 18 = .ok (.bipush 44, 2) := by decide +kernel
theorem dX2_readGas_20 : decode cX2_readGas 20 = .ok (.invokevirtual 51, 3) := by decide +kernel
theorem dX2_readGas_23 : decode cX2_readGas 23 = .ok (.aload_n 1, 1) := by decide +kernel
theorem dX2_readGas_24 : decode cX2_readGas 24 = .ok (.getfield 62, 3) := by decide +kernel
theorem dX2_readGas_27 : decode cX2_readGas 27 = .ok (.iconst 2, 1) := by decide +kernel
theorem dX2_readGas_28 : decode cX2_readGas 28 = .ok (.aload_n 0, 1) := by decide +kernel
theorem dX2_readGas_29 : decode cX2_readGas 29 = .ok (.iconst 2, 1) := by decide +kernel
theorem dX2_readGas_30 : decode cX2_readGas 30 = .ok (.invokevirtual 65, 3) := by decide +kernel
theorem dX2_readGas_33 : decode cX2_readGas 33 = .ok (.iastore, 1) := by decide +kernel
theorem dX2_readGas_34 : decode cX2_readGas 34 = .ok (.aload_n 0, 1) := by decide +kernel
theorem dX2_readGas_35 : decode cX2_readGas 35 = .ok (.bipush 59, 2) := by decide +kernel
theorem dX2_readGas_37 : decode cX2_readGas 37 = .ok (.invokevirtual 51, 3) := by decide +kernel
theorem dX2_readGas_40 : decode cX2_readGas 40 = .ok (.return_, 1) := by decide +kernel
theorem dX2_readGrade_0 : decode cX2_readGrade 0 = .ok (.aload_n 0, 1) := by decide +kernel
theorem dX2_readGrade_1 : decode cX2_readGrade 1 = .ok (.invokevirtual 69, 3) := by decide +kernel
theorem dX2_readGrade_4 : decode cX2_readGrade 4 = .ok (.istore_n 3, 1) := by decide +kernel
theorem dX2_readGrade_5 : decode cX2_readGrade 5 = .ok (.iload_n 3, 1) := by decide +kernel
theorem dX2_readGrade_6 : decode cX2_readGrade 6 = .ok (.ifCond .ne 11, 3) := by decide +kernel
theorem dX2_readGrade_9 : decode cX2_readGrade 9 = .ok (.aload_n 0, 1) := by decide +kernel
theorem dX2_readGrade_10 : decode cX2_readGrade 10 = .ok (.iconst 1, 1) := by decide +kernel
theorem dX2_readGrade_11 : decode cX2_readGrade 11 = .ok (.invokevirtual 73, 3) := by decide +kernel
theorem dX2_readGrade_14 : decode cX2_readGrade 14 = .ok (.goto 13, 3) := by decide +kernel
theorem dX2_readGrade_17 : decode cX2_readGrade 17 = .ok (.iload_n 2, 1) := by decide +kernel
theorem dX2_readGrade_18 : decode cX2_readGrade 18 = .ok (.iconst 5, 1) := by decide +kernel
theorem dX2_readGrade_19 : decode cX2_readGrade 19 = .ok (.if_icmp .lt 8, 3) := by decide +kernel
theorem dX2_readGrade_22 : decode cX2_readGrade 22 = .ok (.aload_n 0, 1) := by decide +kernel
theorem dX2_readGrade_23 : decode cX2_readGrade 23 = .ok (.iconst 3, 1) := by decide +kernel
theorem dX2_readGrade_24 : decode cX2_readGrade 24 = .ok (.invokevirtual 73, 3) := by decide +kernel
theorem dX2_readGrade_27 : decode cX2_readGrade 27 = .ok (.aload_n 0, 1) := by decide +kernel
theorem dX2_readGrade_28 : decode cX2_readGrade 28 = .ok (.getfield 22, 3) := by decide +kernel
theorem dX2_readGrade_31 : decode cX2_readGrade 31 = .ok (.ifCond .eq 4, 3) := by decide +kernel
theorem dX2_readGrade_34 : decode cX2_readGrade 34 = .ok (.return_, 1) := by decide +kernel
theorem dX2_readGrade_35 : decode cX2_readGrade 35 = .ok (.aload_n 1, 1) := by decide +kernel
theorem dX2_readGrade_36 : decode cX2_readGrade 36 = .ok (.getfield 77, 3) := by decide +kernel
theorem dX2_readGrade_39 : decode cX2_readGrade 39 = .ok (.iload_n 2, 1) := by decide +kernel
theorem dX2_readGrade_40 : decode cX2_readGrade 40 = .ok (.iload_n 3, 1) := by decide +kernel
theorem dX2_readGrade_41 : decode cX2_readGrade 41 = .ok (.iastore, 1) := by decide +kernel
theorem dX2_readGrade_42 : decode cX2_readGrade 42 = .ok (.aload_n 1, 1) := by decide +kernel
theorem dX2_readGrade_43 : decode cX2_readGrade 43 = .ok (.iload_n 2, 1) := by decide +kernel
theorem dX2_readGrade_44 : decode cX2_readGrade 44 = .ok (.iconst 1, 1) := by decide +kernel
theorem dX2_readGrade_45 : decode cX2_readGrade 45 = .ok (.iadd, 1) := by decide +kernel
theorem dX2_readGrade_46 : decode cX2_readGrade 46 = .ok (.putfield 33, 3) := by decide +kernel
theorem dX2_readGrade_49 : decode cX2_readGrade 49 = .ok (.aload_n 0, 1) := by decide +kernel
theorem dX2_readGrade_50 : decode cX2_readGrade 50 = .ok (.dup, 1) := by decide +kernel
theorem dX2_readGrade_51 : decode cX2_readGrade 51 = .ok (.getfield 19, 3) := by decide +kernel
theorem dX2_readGrade_54 : decode cX2_readGrade 54 = .ok (.iconst 1, 1) := by decide +kernel
theorem dX2_readGrade_55 : decode cX2_readGrade 55 = .ok (.iadd, 1) := by decide +kernel
theorem dX2_readGrade_56 : decode cX2_readGrade 56 = .ok (.putfield 19, 3) := by decide +kernel
theorem dX2_readGrade_59 : decode cX2_readGrade 59 = .ok (.iconst 0, 1) := by decide +kernel
theorem dX2_readGrade_60 : decode cX2_readGrade 60 = .ok (.istore 4, 2) := by decide +kernel
theorem dX2_readGrade_62 : decode cX2_readGrade 62 = .ok (.iload 4, 2) := by decide +kernel
theorem dX2_readGrade_64 : decode cX2_readGrade 64 = .ok (.iconst 5, 1) := by decide +kernel
theorem dX2_readGrade_65 : decode cX2_readGrade 65 = .ok (.if_icmp .ge 44, 3) := by decide +kernel
theorem dX2_readGrade_68 : decode cX2_readGrade 68 = .ok (.aload_n 1, 1) := by decide +kernel
theorem dX2_readGrade_69 : decode cX2_readGrade 69 = .ok (.iload_n 2, 1) := by decide +kernel
theorem dX2_readGrade_70 : decode cX2_readGrade 70 = .ok (.iload 4, 2) := by decide +kernel
theorem dX2_readGrade_72 : decode cX2_readGrade 72 = .ok (.aload_n 0, 1) := by decide +kernel
theorem dX2_readGrade_73 : decode cX2_readGrade 73 = .ok (.iconst 1, 1) := by decide +kernel
theorem dX2_readGrade_74 : decode cX2_readGrade 74 = .ok (.getstatic 80, 3) := by decide +kernel
theorem dX2_readGrade_77 : decode cX2_readGrade 77 = .ok (.iload 4, 2) := by decide +kernel
theorem dX2_readGrade_79 : decode cX2_readGrade 79 = .ok (.iaload, 1) := by decide +kernel
theorem dX2_readGrade_80 : decode cX2_readGrade 80 = .ok (.invokevirtual 55, 3) := by decide +kernel
theorem dX2_readGrade_83 : decode cX2_readGrade 83 = .ok (.invokevirtual 83, 3) := by decide +kernel
theorem dX2_readGrade_86 : decode cX2_readGrade 86 = .ok (.aload_n 0, 1) := by decide +kernel
theorem dX2_readGrade_87 : decode cX2_readGrade 87 = .ok (.iload 4, 2) := by decide +kernel
theorem dX2_readGrade_89 : decode cX2_readGrade 89 = .ok (.iconst 4, 1) := by decide +kernel
theorem dX2_readGrade_90 : decode cX2_readGrade 90 = .ok (.if_icmp .ne 8, 3) := by decide +kernel
theorem dX2_readGrade_93 : decode cX2_readGrade 93 = .ok (.bipush 59, 2) := by decide +kernel
theorem dX2_readGrade_95 : decode cX2_readGrade 95 = .ok (.goto 5, 3) := by decide +kernel
theorem dX2_readGrade_98 : decode cX2_readGrade 98 = .ok (.bipush 44, 2) := by decide +kernel
theorem dX2_readGrade_100 : decode cX2_readGrade 100 = .ok (.invokevirtual 51, 3) := by decide +kernel
theorem dX2_readGrade_103 : decode cX2_readGrade 103 = .ok (.iinc 4 1, 3) := by decide +kernel
theorem dX2_readGrade_106 : decode cX2_readGrade 106 = .ok (.goto (-44), 3) := by decide +kernel
theorem dX2_readGrade_109 : decode cX2_readGrade 109 = .ok (.return_, 1) := by decide +kernel
theorem dX2_kindAtHand_0 : decode cX2_kindAtHand 0 = .ok (.aload_n 0, 1) := by decide +kernel
theorem dX2_kindAtHand_1 : decode cX2_kindAtHand 1 = .ok (.getfield 19, 3) := by decide +kernel
theorem dX2_kindAtHand_4 : decode cX2_kindAtHand 4 = .ok (.aload_n 0, 1) := by decide +kernel
theorem dX2_kindAtHand_5 : decode cX2_kindAtHand 5 = .ok (.getfield 15, 3) := by decide +kernel
theorem dX2_kindAtHand_8 : decode cX2_kindAtHand 8 = .ok (.if_icmp .ge 15, 3) := by decide +kernel
theorem dX2_kindAtHand_11 : decode cX2_kindAtHand 11 = .ok (.aload_n 0, 1) := by decide +kernel
theorem dX2_kindAtHand_12 : decode cX2_kindAtHand 12 = .ok (.getfield 9, 3) := by decide +kernel
theorem dX2_kindAtHand_15 : decode cX2_kindAtHand 15 = .ok (.aload_n 0, 1) := by decide +kernel
theorem dX2_kindAtHand_16 : decode cX2_kindAtHand 16 = .ok (.getfield 19, 3) := by decide +kernel
theorem dX2_kindAtHand_19 : decode cX2_kindAtHand 19 = .ok (.iaload, 1) := by decide +kernel
theorem dX2_kindAtHand_20 : decode cX2_kindAtHand 20 = .ok (.goto 4, 3) := by decide +kernel
theorem dX2_kindAtHand_23 : decode cX2_kindAtHand 23 = .ok (.iconst 0, 1) := by decide +kernel
theorem dX2_kindAtHand_24 : decode cX2_kindAtHand 24 = .ok (.lookupswitch 62 #[(98, 56), (104, 54), (108, 60), (112, 52), (116, 58)], 52) := by decide +kernel
theorem dX2_kindAtHand_76 : decode cX2_kindAtHand 76 = .ok (.iconst 1, 1) := by decide +kernel
theorem dX2_kindAtHand_77 : decode cX2_kindAtHand 77 = .ok (.ireturn, 1) := by decide +kernel
theorem dX2_kindAtHand_78 : decode cX2_kindAtHand 78 = .ok (.iconst 2, 1) := by decide +kernel
theorem dX2_kindAtHand_79 : decode cX2_kindAtHand 79 = .ok (.ireturn, 1) := by decide +kernel
theorem dX2_kindAtHand_80 : decode cX2_kindAtHand 80 = .ok (.iconst 3, 1) := by decide +kernel
theorem dX2_kindAtHand_81 : decode cX2_kindAtHand 81 = .ok (.ireturn, 1) := by decide +kernel
theorem dX2_kindAtHand_82 : decode cX2_kindAtHand 82 = .ok (.iconst 4, 1) := by decide +kernel
theorem dX2_kindAtHand_83 : decode cX2_kindAtHand 83 = .ok (.ireturn, 1) := by decide +kernel
theorem dX2_kindAtHand_84 : decode cX2_kindAtHand 84 = .ok (.iconst 5, 1) := by decide +kernel
theorem dX2_kindAtHand_85 : decode cX2_kindAtHand 85 = .ok (.ireturn, 1) := by decide +kernel
theorem dX2_kindAtHand_86 : decode cX2_kindAtHand 86 = .ok (.iconst 0, 1) := by decide +kernel
theorem dX2_kindAtHand_87 : decode cX2_kindAtHand 87 = .ok (.ireturn, 1) := by decide +kernel
theorem dX2_readSign_0 : decode cX2_readSign 0 = .ok (.aload_n 0, 1) := by decide +kernel
theorem dX2_readSign_1 : decode cX2_readSign 1 = .ok (.getfield 19, 3) := by decide +kernel
theorem dX2_readSign_4 : decode cX2_readSign 4 = .ok (.aload_n 0, 1) := by decide +kernel
theorem dX2_readSign_5 : decode cX2_readSign 5 = .ok (.getfield 15, 3) := by decide +kernel
theorem dX2_readSign_8 : decode cX2_readSign 8 = .ok (.if_icmp .ge 16, 3) := by decide +kernel
theorem dX2_readSign_11 : decode cX2_readSign 11 = .ok (.aload_n 0, 1) := by decide +kernel
theorem dX2_readSign_12 : decode cX2_readSign 12 = .ok (.getfield 9, 3) := by decide +kernel
theorem dX2_readSign_15 : decode cX2_readSign 15 = .ok (.aload_n 0, 1) := by decide +kernel
theorem dX2_readSign_16 : decode cX2_readSign 16 = .ok (.getfield 19, 3) := by decide +kernel
theorem dX2_readSign_19 : decode cX2_readSign 19 = .ok (.iaload, 1) := by decide +kernel
theorem dX2_readSign_20 : decode cX2_readSign 20 = .ok (.iload_n 1, 1) := by decide +kernel
theorem dX2_readSign_21 : decode cX2_readSign 21 = .ok (.if_icmp .eq 11, 3) := by decide +kernel
theorem dX2_readSign_24 : decode cX2_readSign 24 = .ok (.aload_n 0, 1) := by decide +kernel
theorem dX2_readSign_25 : decode cX2_readSign 25 = .ok (.iconst 1, 1) := by decide +kernel
theorem dX2_readSign_26 : decode cX2_readSign 26 = .ok (.invokevirtual 73, 3) := by decide +kernel
theorem dX2_readSign_29 : decode cX2_readSign 29 = .ok (.goto 13, 3) := by decide +kernel
theorem dX2_readSign_32 : decode cX2_readSign 32 = .ok (.aload_n 0, 1) := by decide +kernel
theorem dX2_readSign_33 : decode cX2_readSign 33 = .ok (.dup, 1) := by decide +kernel
theorem dX2_readSign_34 : decode cX2_readSign 34 = .ok (.getfield 19, 3) := by decide +kernel
theorem dX2_readSign_37 : decode cX2_readSign 37 = .ok (.iconst 1, 1) := by decide +kernel
theorem dX2_readSign_38 : decode cX2_readSign 38 = .ok (.iadd, 1) := by decide +kernel
theorem dX2_readSign_39 : decode cX2_readSign 39 = .ok (.putfield 19, 3) := by decide +kernel
theorem dX2_readSign_42 : decode cX2_readSign 42 = .ok (.return_, 1) := by decide +kernel
theorem dX2_readRule_0 : decode cX2_readRule 0 = .ok (.aload_n 0, 1) := by decide +kernel
theorem dX2_readRule_1 : decode cX2_readRule 1 = .ok (.getstatic 87, 3) := by decide +kernel
theorem dX2_readRule_4 : decode cX2_readRule 4 = .ok (.iload_n 1, 1) := by decide +kernel
theorem dX2_readRule_5 : decode cX2_readRule 5 = .ok (.iaload, 1) := by decide +kernel
theorem dX2_readRule_6 : decode cX2_readRule 6 = .ok (.getstatic 90, 3) := by decide +kernel
theorem dX2_readRule_9 : decode cX2_readRule 9 = .ok (.iload_n 1, 1) := by decide +kernel
theorem dX2_readRule_10 : decode cX2_readRule 10 = .ok (.iaload, 1) := by decide +kernel
theorem dX2_readRule_11 : decode cX2_readRule 11 = .ok (.invokevirtual 55, 3) := by decide +kernel
theorem dX2_readRule_14 : decode cX2_readRule 14 = .ok (.ireturn, 1) := by decide +kernel
theorem dX2_readNumber_0 : decode cX2_readNumber 0 = .ok (.aload_n 0, 1) := by decide +kernel
theorem dX2_readNumber_1 : decode cX2_readNumber 1 = .ok (.getfield 19, 3) := by decide +kernel
theorem dX2_readNumber_4 : decode cX2_readNumber 4 = .ok (.istore_n 3, 1) := by decide +kernel
theorem dX2_readNumber_5 : decode cX2_readNumber 5 = .ok (.iconst 0, 1) := by decide +kernel
theorem dX2_readNumber_6 : decode cX2_readNumber 6 = .ok (.istore 4, 2) := by decide +kernel
theorem dX2_readNumber_8 : decode cX2_readNumber 8 = .ok (.iload_n 3, 1) := by decide +kernel
theorem dX2_readNumber_9 : decode cX2_readNumber 9 = .ok (.aload_n 0, 1) := by decide +kernel
theorem dX2_readNumber_10 : decode cX2_readNumber 10 = .ok (.getfield 15, 3) := by decide +kernel
theorem dX2_readNumber_13 : decode cX2_readNumber 13 = .ok (.if_icmp .ge 58, 3) := by decide +kernel
theorem dX2_readNumber_16 : decode cX2_readNumber 16 = .ok (.aload_n 0, 1) := by decide +kernel
theorem dX2_readNumber_17 : decode cX2_readNumber 17 = .ok (.getfield 9, 3) := by decide +kernel
theorem dX2_readNumber_20 : decode cX2_readNumber 20 = .ok (.iload_n 3, 1) := by decide +kernel
theorem dX2_readNumber_21 : decode cX2_readNumber 21 = .ok (.iaload, 1) := by decide +kernel
theorem dX2_readNumber_22 : decode cX2_readNumber 22 = .ok (.bipush 48, 2) := by decide +kernel
theorem dX2_readNumber_24 : decode cX2_readNumber 24 = .ok (.if_icmp .lt 47, 3) := by decide +kernel
theorem dX2_readNumber_27 : decode cX2_readNumber 27 = .ok (.aload_n 0, 1) := by decide +kernel
theorem dX2_readNumber_28 : decode cX2_readNumber 28 = .ok (.getfield 9, 3) := by decide +kernel
theorem dX2_readNumber_31 : decode cX2_readNumber 31 = .ok (.iload_n 3, 1) := by decide +kernel
theorem dX2_readNumber_32 : decode cX2_readNumber 32 = .ok (.iaload, 1) := by decide +kernel
theorem dX2_readNumber_33 : decode cX2_readNumber 33 = .ok (.bipush 57, 2) := by decide +kernel
theorem dX2_readNumber_35 : decode cX2_readNumber 35 = .ok (.if_icmp .gt 36, 3) := by decide +kernel
theorem dX2_readNumber_38 : decode cX2_readNumber 38 = .ok (.iload_n 3, 1) := by decide +kernel
theorem dX2_readNumber_39 : decode cX2_readNumber 39 = .ok (.aload_n 0, 1) := by decide +kernel
theorem dX2_readNumber_40 : decode cX2_readNumber 40 = .ok (.getfield 19, 3) := by decide +kernel
theorem dX2_readNumber_43 : decode cX2_readNumber 43 = .ok (.iconst 3, 1) := by decide +kernel
theorem dX2_readNumber_44 : decode cX2_readNumber 44 = .ok (.iadd, 1) := by decide +kernel
theorem dX2_readNumber_45 : decode cX2_readNumber 45 = .ok (.if_icmp .ge 26, 3) := by decide +kernel
theorem dX2_readNumber_48 : decode cX2_readNumber 48 = .ok (.iload 4, 2) := by decide +kernel
theorem dX2_readNumber_50 : decode cX2_readNumber 50 = .ok (.bipush 10, 2) := by decide +kernel
theorem dX2_readNumber_52 : decode cX2_readNumber 52 = .ok (.imul, 1) := by decide +kernel
theorem dX2_readNumber_53 : decode cX2_readNumber 53 = .ok (.aload_n 0, 1) := by decide +kernel
theorem dX2_readNumber_54 : decode cX2_readNumber 54 = .ok (.getfield 9, 3) := by decide +kernel
theorem dX2_readNumber_57 : decode cX2_readNumber 57 = .ok (.iload_n 3, 1) := by decide +kernel
theorem dX2_readNumber_58 : decode cX2_readNumber 58 = .ok (.iaload, 1) := by decide +kernel
theorem dX2_readNumber_59 : decode cX2_readNumber 59 = .ok (.iadd, 1) := by decide +kernel
theorem dX2_readNumber_60 : decode cX2_readNumber 60 = .ok (.bipush 48, 2) := by decide +kernel
theorem dX2_readNumber_62 : decode cX2_readNumber 62 = .ok (.isub, 1) := by decide +kernel
theorem dX2_readNumber_63 : decode cX2_readNumber 63 = .ok (.istore 4, 2) := by decide +kernel
theorem dX2_readNumber_65 : decode cX2_readNumber 65 = .ok (.iinc 3 1, 3) := by decide +kernel
theorem dX2_readNumber_68 : decode cX2_readNumber 68 = .ok (.goto (-60), 3) := by decide +kernel
theorem dX2_readNumber_71 : decode cX2_readNumber 71 = .ok (.iload_n 3, 1) := by decide +kernel
theorem dX2_readNumber_72 : decode cX2_readNumber 72 = .ok (.aload_n 0, 1) := by decide +kernel
theorem dX2_readNumber_73 : decode cX2_readNumber 73 = .ok (.getfield 19, 3) := by decide +kernel
theorem dX2_readNumber_76 : decode cX2_readNumber 76 = .ok (.if_icmp .eq 13, 3) := by decide +kernel
theorem dX2_readNumber_79 : decode cX2_readNumber 79 = .ok (.iload_n 3, 1) := by decide +kernel
theorem dX2_readNumber_80 : decode cX2_readNumber 80 = .ok (.aload_n 0, 1) := by decide +kernel
theorem dX2_readNumber_81 : decode cX2_readNumber 81 = .ok (.getfield 19, 3) := by decide +kernel
theorem dX2_readNumber_84 : decode cX2_readNumber 84 = .ok (.iconst 3, 1) := by decide +kernel
theorem dX2_readNumber_85 : decode cX2_readNumber 85 = .ok (.iadd, 1) := by decide +kernel
theorem dX2_readNumber_86 : decode cX2_readNumber 86 = .ok (.if_icmp .ne 11, 3) := by decide +kernel
theorem dX2_readNumber_89 : decode cX2_readNumber 89 = .ok (.aload_n 0, 1) := by decide +kernel
theorem dX2_readNumber_90 : decode cX2_readNumber 90 = .ok (.iconst 1, 1) := by decide +kernel
theorem dX2_readNumber_91 : decode cX2_readNumber 91 = .ok (.invokevirtual 73, 3) := by decide +kernel
theorem dX2_readNumber_94 : decode cX2_readNumber 94 = .ok (.goto 35, 3) := by decide +kernel
theorem dX2_readNumber_97 : decode cX2_readNumber 97 = .ok (.iload 4, 2) := by decide +kernel
theorem dX2_readNumber_99 : decode cX2_readNumber 99 = .ok (.iload_n 1, 1) := by decide +kernel
theorem dX2_readNumber_100 : decode cX2_readNumber 100 = .ok (.if_icmp .lt 9, 3) := by decide +kernel
theorem dX2_readNumber_103 : decode cX2_readNumber 103 = .ok (.iload 4, 2) := by decide +kernel
theorem dX2_readNumber_105 : decode cX2_readNumber 105 = .ok (.iload_n 2, 1) := by decide +kernel
theorem dX2_readNumber_106 : decode cX2_readNumber 106 = .ok (.if_icmp .le 11, 3) := by decide +kernel
theorem dX2_readNumber_109 : decode cX2_readNumber 109 = .ok (.aload_n 0, 1) := by decide +kernel
theorem dX2_readNumber_110 : decode cX2_readNumber 110 = .ok (.iconst 2, 1) := by decide +kernel
theorem dX2_readNumber_111 : decode cX2_readNumber 111 = .ok (.invokevirtual 73, 3) := by decide +kernel
theorem dX2_readNumber_114 : decode cX2_readNumber 114 = .ok (.goto 15, 3) := by decide +kernel
theorem dX2_readNumber_117 : decode cX2_readNumber 117 = .ok (.aload_n 0, 1) := by decide +kernel
theorem dX2_readNumber_118 : decode cX2_readNumber 118 = .ok (.getfield 22, 3) := by decide +kernel
theorem dX2_readNumber_121 : decode cX2_readNumber 121 = .ok (.ifCond .ne 8, 3) := by decide +kernel
theorem dX2_readNumber_124 : decode cX2_readNumber 124 = .ok (.aload_n 0, 1) := by decide +kernel
theorem dX2_readNumber_125 : decode cX2_readNumber 125 = .ok (.iload_n 3, 1) := by decide +kernel
theorem dX2_readNumber_126 : decode cX2_readNumber 126 = .ok (.putfield 19, 3) := by decide +kernel
theorem dX2_readNumber_129 : decode cX2_readNumber 129 = .ok (.iload 4, 2) := by decide +kernel
theorem dX2_readNumber_131 : decode cX2_readNumber 131 = .ok (.ireturn, 1) := by decide +kernel
theorem dX2_fail_0 : decode cX2_fail 0 = .ok (.aload_n 0, 1) := by decide +kernel
theorem dX2_fail_1 : decode cX2_fail 1 = .ok (.getfield 22, 3) := by decide +kernel
theorem dX2_fail_4 : decode cX2_fail 4 = .ok (.ifCond .ne 21, 3) := by decide +kernel
theorem dX2_fail_7 : decode cX2_fail 7 = .ok (.aload_n 0, 1) := by decide +kernel
theorem dX2_fail_8 : decode cX2_fail 8 = .ok (.iconst 1, 1) := by decide +kernel
theorem dX2_fail_9 : decode cX2_fail 9 = .ok (.putfield 22, 3) := by decide +kernel
theorem dX2_fail_12 : decode cX2_fail 12 = .ok (.aload_n 0, 1) := by decide +kernel
theorem dX2_fail_13 : decode cX2_fail 13 = .ok (.aload_n 0, 1) := by decide +kernel
theorem dX2_fail_14 : decode cX2_fail 14 = .ok (.getfield 19, 3) := by decide +kernel
theorem dX2_fail_17 : decode cX2_fail 17 = .ok (.putfield 93, 3) := by decide +kernel
theorem dX2_fail_20 : decode cX2_fail 20 = .ok (.aload_n 0, 1) := by decide +kernel
theorem dX2_fail_21 : decode cX2_fail 21 = .ok (.iload_n 1, 1) := by decide +kernel
theorem dX2_fail_22 : decode cX2_fail 22 = .ok (.putfield 96, 3) := by decide +kernel
theorem dX2_fail_25 : decode cX2_fail 25 = .ok (.return_, 1) := by decide +kernel
theorem dX3_init_0 : decode cX3_init 0 = .ok (.aload_n 0, 1) := by decide +kernel
theorem dX3_init_1 : decode cX3_init 1 = .ok (.invokespecial 3, 3) := by decide +kernel
theorem dX3_init_4 : decode cX3_init 4 = .ok (.aload_n 0, 1) := by decide +kernel
theorem dX3_init_5 : decode cX3_init 5 = .ok (.bipush 40, 2) := by decide +kernel
theorem dX3_init_7 : decode cX3_init 7 = .ok (.newarray .int, 2) := by decide +kernel
theorem dX3_init_9 : decode cX3_init 9 = .ok (.putfield 9, 3) := by decide +kernel
theorem dX3_init_12 : decode cX3_init 12 = .ok (.aload_n 0, 1) := by decide +kernel
theorem dX3_init_13 : decode cX3_init 13 = .ok (.iconst (-1), 1) := by decide +kernel
theorem dX3_init_14 : decode cX3_init 14 = .ok (.putfield 15, 3) := by decide +kernel
theorem dX3_init_17 : decode cX3_init 17 = .ok (.return_, 1) := by decide +kernel
theorem dX3_isMissing_0 : decode cX3_isMissing 0 = .ok (.aload_n 0, 1) := by decide +kernel
theorem dX3_isMissing_1 : decode cX3_isMissing 1 = .ok (.getfield 15, 3) := by decide +kernel
theorem dX3_isMissing_4 : decode cX3_isMissing 4 = .ok (.iconst (-1), 1) := by decide +kernel
theorem dX3_isMissing_5 : decode cX3_isMissing 5 = .ok (.if_icmp .ne 7, 3) := by decide +kernel
theorem dX3_isMissing_8 : decode cX3_isMissing 8 = .ok (.iconst 1, 1) := by decide +kernel
theorem dX3_isMissing_9 : decode cX3_isMissing 9 = .ok (.goto 4, 3) := by decide +kernel
theorem dX3_isMissing_12 : decode cX3_isMissing 12 = .ok (.iconst 0, 1) := by decide +kernel
theorem dX3_isMissing_13 : decode cX3_isMissing 13 = .ok (.ireturn, 1) := by decide +kernel
theorem dX3_begin_0 : decode cX3_begin 0 = .ok (.aload_n 0, 1) := by decide +kernel
theorem dX3_begin_1 : decode cX3_begin 1 = .ok (.iload_n 1, 1) := by decide +kernel
theorem dX3_begin_2 : decode cX3_begin 2 = .ok (.putfield 19, 3) := by decide +kernel
theorem dX3_begin_5 : decode cX3_begin 5 = .ok (.aload_n 0, 1) := by decide +kernel
theorem dX3_begin_6 : decode cX3_begin 6 = .ok (.iload_n 2, 1) := by decide +kernel
theorem dX3_begin_7 : decode cX3_begin 7 = .ok (.putfield 15, 3) := by decide +kernel
theorem dX3_begin_10 : decode cX3_begin 10 = .ok (.aload_n 0, 1) := by decide +kernel
theorem dX3_begin_11 : decode cX3_begin 11 = .ok (.getfield 9, 3) := by decide +kernel
theorem dX3_begin_14 : decode cX3_begin 14 = .ok (.iconst 0, 1) := by decide +kernel
theorem dX3_begin_15 : decode cX3_begin 15 = .ok (.invokestatic 22, 3) := by decide +kernel
theorem dX3_begin_18 : decode cX3_begin 18 = .ok (.return_, 1) := by decide +kernel
theorem dX3_hasPlaces_0 : decode cX3_hasPlaces 0 = .ok (.iload_n 1, 1) := by decide +kernel
theorem dX3_hasPlaces_1 : decode cX3_hasPlaces 1 = .ok (.ifCond .lt 21, 3) := by decide +kernel
theorem dX3_hasPlaces_4 : decode cX3_hasPlaces 4 = .ok (.iload_n 2, 1) := by decide +kernel
theorem dX3_hasPlaces_5 : decode cX3_hasPlaces 5 = .ok (.ifCond .lt 17, 3) := by decide +kernel
theorem dX3_hasPlaces_8 : decode cX3_hasPlaces 8 = .ok (.iload_n 1, 1) := by decide +kernel
theorem dX3_hasPlaces_9 : decode cX3_hasPlaces 9 = .ok (.aload_n 0, 1) := by decide +kernel
theorem dX3_hasPlaces_10 : decode cX3_hasPlaces 10 = .ok (.getfield 15, 3) := by decide +kernel
theorem dX3_hasPlaces_13 : decode cX3_hasPlaces 13 = .ok (.iload_n 2, 1) := by decide +kernel
theorem dX3_hasPlaces_14 : decode cX3_hasPlaces 14 = .ok (.isub, 1) := by decide +kernel
theorem dX3_hasPlaces_15 : decode cX3_hasPlaces 15 = .ok (.if_icmp .gt 7, 3) := by decide +kernel
theorem dX3_hasPlaces_18 : decode cX3_hasPlaces 18 = .ok (.iconst 1, 1) := by decide +kernel
theorem dX3_hasPlaces_19 : decode cX3_hasPlaces 19 = .ok (.goto 4, 3) := by decide +kernel
theorem dX3_hasPlaces_22 : decode cX3_hasPlaces 22 = .ok (.iconst 0, 1) := by decide +kernel
theorem dX3_hasPlaces_23 : decode cX3_hasPlaces 23 = .ok (.ireturn, 1) := by decide +kernel
theorem dX3_put_0 : decode cX3_put 0 = .ok (.aload_n 0, 1) := by decide +kernel
theorem dX3_put_1 : decode cX3_put 1 = .ok (.getfield 19, 3) := by decide +kernel
theorem dX3_put_4 : decode cX3_put 4 = .ok (.lookupswitch 50 #[(0, 28), (1, 39)], 28) := by decide +kernel
theorem dX3_put_32 : decode cX3_put 32 = .ok (.aload_n 0, 1) := by decide +kernel
theorem dX3_put_33 : decode cX3_put 33 = .ok (.getfield 9, 3) := by decide +kernel
theorem dX3_put_36 : decode cX3_put 36 = .ok (.iload_n 1, 1) := by decide +kernel
theorem dX3_put_37 : decode cX3_put 37 = .ok (.iload_n 2, 1) := by decide +kernel
theorem dX3_put_38 : decode cX3_put 38 = .ok (.i2b, 1) := by decide +kernel
theorem dX3_put_39 : decode cX3_put 39 = .ok (.iastore, 1) := by decide +kernel
theorem dX3_put_40 : decode cX3_put 40 = .ok (.goto 21, 3) := by decide +kernel
theorem dX3_put_43 : decode cX3_put 43 = .ok (.aload_n 0, 1) := by decide +kernel
theorem dX3_put_44 : decode cX3_put 44 = .ok (.getfield 9, 3) := by decide +kernel
theorem dX3_put_47 : decode cX3_put 47 = .ok (.iload_n 1, 1) := by decide +kernel
theorem dX3_put_48 : decode cX3_put 48 = .ok (.iload_n 2, 1) := by decide +kernel
theorem dX3_put_49 : decode cX3_put 49 = .ok (.i2s, 1) := by decide +kernel
theorem dX3_put_50 : decode cX3_put 50 = .ok (.iastore, 1) := by decide +kernel
theorem dX3_put_51 : decode cX3_put 51 = .ok (.goto 10, 3) := by decide +kernel
theorem dX3_put_54 : decode cX3_put 54 = .ok (.aload_n 0, 1) := by decide +kernel
theorem dX3_put_55 : decode cX3_put 55 = .ok (.getfield 9, 3) := by decide +kernel
theorem dX3_put_58 : decode cX3_put 58 = .ok (.iload_n 1, 1) := by decide +kernel
theorem dX3_put_59 : decode cX3_put 59 = .ok (.iload_n 2, 1) := by decide +kernel
theorem dX3_put_60 : decode cX3_put 60 = .ok (.iastore, 1) := by decide +kernel
theorem dX3_put_61 : decode cX3_put 61 = .ok (.aload_n 0, 1) := by decide +kernel
theorem dX3_put_62 : decode cX3_put 62 = .ok (.getfield 9, 3) := by decide +kernel
theorem dX3_put_65 : decode cX3_put 65 = .ok (.iload_n 1, 1) := by decide +kernel
theorem dX3_put_66 : decode cX3_put 66 = .ok (.iaload, 1) := by decide +kernel
theorem dX3_put_67 : decode cX3_put 67 = .ok (.ireturn, 1) := by decide +kernel
theorem dX4_init_0 : decode cX4_init 0 = .ok (.aload_n 0, 1) := by decide +kernel
theorem dX4_init_1 : decode cX4_init 1 = .ok (.invokespecial 5, 3) := by decide +kernel
theorem dX4_init_4 : decode cX4_init 4 = .ok (.aload_n 0, 1) := by decide +kernel
theorem dX4_init_5 : decode cX4_init 5 = .ok (.bipush 8, 2) := by decide +kernel
theorem dX4_init_7 : decode cX4_init 7 = .ok (.newarray .int, 2) := by decide +kernel
theorem dX4_init_9 : decode cX4_init 9 = .ok (.putfield 11, 3) := by decide +kernel
theorem dX4_init_12 : decode cX4_init 12 = .ok (.aload_n 0, 1) := by decide +kernel
theorem dX4_init_13 : decode cX4_init 13 = .ok (.sipush 1095, 3) := by decide +kernel
theorem dX4_init_16 : decode cX4_init 16 = .ok (.newarray .int, 2) := by decide +kernel
theorem dX4_init_18 : decode cX4_init 18 = .ok (.putfield 15, 3) := by decide +kernel
theorem dX4_init_21 : decode cX4_init 21 = .ok (.aload_n 0, 1) := by decide +kernel
theorem dX4_init_22 : decode cX4_init 22 = .ok (.sipush 1095, 3) := by decide +kernel
theorem dX4_init_25 : decode cX4_init 25 = .ok (.newarray .int, 2) := by decide +kernel
theorem dX4_init_27 : decode cX4_init 27 = .ok (.putfield 18, 3) := by decide +kernel
theorem dX4_init_30 : decode cX4_init 30 = .ok (.aload_n 0, 1) := by decide +kernel
theorem dX4_init_31 : decode cX4_init 31 = .ok (.bipush 73, 2) := by decide +kernel
theorem dX4_init_33 : decode cX4_init 33 = .ok (.newarray .int, 2) := by decide +kernel
theorem dX4_init_35 : decode cX4_init 35 = .ok (.putfield 21, 3) := by decide +kernel
theorem dX4_init_38 : decode cX4_init 38 = .ok (.aload_n 0, 1) := by decide +kernel
theorem dX4_init_39 : decode cX4_init 39 = .ok (.bipush 73, 2) := by decide +kernel
theorem dX4_init_41 : decode cX4_init 41 = .ok (.newarray .int, 2) := by decide +kernel
theorem dX4_init_43 : decode cX4_init 43 = .ok (.putfield 24, 3) := by decide +kernel
theorem dX4_init_46 : decode cX4_init 46 = .ok (.return_, 1) := by decide +kernel
theorem dX4_find_0 : decode cX4_find 0 = .ok (.aload_n 0, 1) := by decide +kernel
theorem dX4_find_1 : decode cX4_find 1 = .ok (.aload_n 1, 1) := by decide +kernel
theorem dX4_find_2 : decode cX4_find 2 = .ok (.putfield 27, 3) := by decide +kernel
theorem dX4_find_5 : decode cX4_find 5 = .ok (.aload_n 0, 1) := by decide +kernel
theorem dX4_find_6 : decode cX4_find 6 = .ok (.iconst 1, 1) := by decide +kernel
theorem dX4_find_7 : decode cX4_find 7 = .ok (.iconst 3, 1) := by decide +kernel
theorem dX4_find_8 : decode cX4_find 8 = .ok (.aload_n 1, 1) := by decide +kernel
theorem dX4_find_9 : decode cX4_find 9 = .ok (.getfield 31, 3) := by decide +kernel
theorem dX4_find_12 : decode cX4_find 12 = .ok (.iconst 3, 1) := by decide +kernel
theorem dX4_find_13 : decode cX4_find 13 = .ok (.iaload, 1) := by decide +kernel
theorem dX4_find_14 : decode cX4_find 14 = .ok (.invokestatic 36, 3) := by decide +kernel
theorem dX4_find_17 : decode cX4_find 17 = .ok (.invokestatic 42, 3) := by decide +kernel
theorem dX4_find_20 : decode cX4_find 20 = .ok (.putfield 45, 3) := by decide +kernel
theorem dX4_find_23 : decode cX4_find 23 = .ok (.aload_n 0, 1) := by decide +kernel
theorem dX4_find_24 : decode cX4_find 24 = .ok (.getfield 18, 3) := by decide +kernel
theorem dX4_find_27 : decode cX4_find 27 = .ok (.iconst (-1), 1) := by decide +kernel
theorem dX4_find_28 : decode cX4_find 28 = .ok (.invokestatic 49, 3) := by decide +kernel
theorem dX4_find_31 : decode cX4_find 31 = .ok (.aload_n 0, 1) := by decide +kernel
theorem dX4_find_32 : decode cX4_find 32 = .ok (.getfield 24, 3) := by decide +kernel
theorem dX4_find_35 : decode cX4_find 35 = .ok (.iconst (-1), 1) := by decide +kernel
theorem dX4_find_36 : decode cX4_find 36 = .ok (.invokestatic 49, 3) := by decide +kernel
theorem dX4_find_39 : decode cX4_find 39 = .ok (.aload_n 0, 1) := by decide +kernel
theorem dX4_find_40 : decode cX4_find 40 = .ok (.getfield 24, 3) := by decide +kernel
theorem dX4_find_43 : decode cX4_find 43 = .ok (.iconst 0, 1) := by decide +kernel
theorem dX4_find_44 : decode cX4_find 44 = .ok (.iconst 0, 1) := by decide +kernel
theorem dX4_find_45 : decode cX4_find 45 = .ok (.iastore, 1) := by decide +kernel
theorem dX4_find_46 : decode cX4_find 46 = .ok (.aload_n 1, 1) := by decide +kernel
theorem dX4_find_47 : decode cX4_find 47 = .ok (.getfield 55, 3) := by decide +kernel
theorem dX4_find_50 : decode cX4_find 50 = .ok (.iconst 1, 1) := by decide +kernel
theorem dX4_find_51 : decode cX4_find 51 = .ok (.isub, 1) := by decide +kernel
theorem dX4_find_52 : decode cX4_find 52 = .ok (.istore_n 3, 1) := by decide +kernel
theorem dX4_find_53 : decode cX4_find 53 = .ok (.iload_n 3, 1) := by decide +kernel
theorem dX4_find_54 : decode cX4_find 54 = .ok (.ifCond .lt 44, 3) := by decide +kernel
theorem dX4_find_57 : decode cX4_find 57 = .ok (.aload_n 0, 1) := by decide +kernel
theorem dX4_find_58 : decode cX4_find 58 = .ok (.invokevirtual 58, 3) := by decide +kernel
theorem dX4_find_61 : decode cX4_find 61 = .ok (.iconst 0, 1) := by decide +kernel
theorem dX4_find_62 : decode cX4_find 62 = .ok (.istore 4, 2) := by decide +kernel
theorem dX4_find_64 : decode cX4_find 64 = .ok (.iload 4, 2) := by decide +kernel
theorem dX4_find_66 : decode cX4_find 66 = .ok (.aload_n 1, 1) := by decide +kernel
theorem dX4_find_67 : decode cX4_find 67 = .ok (.getfield 61, 3) := by decide +kernel
theorem dX4_find_70 : decode cX4_find 70 = .ok (.if_icmp .ge 22, 3) := by decide +kernel
theorem dX4_find_73 : decode cX4_find 73 = .ok (.iload 4, 2) := by decide +kernel
theorem dX4_find_75 : decode cX4_find 75 = .ok (.iload_n 2, 1) := by decide +kernel
theorem dX4_find_76 : decode cX4_find 76 = .ok (.if_icmp .eq 10, 3) := by decide +kernel
theorem dX4_find_79 : decode cX4_find 79 = .ok (.aload_n 0, 1) := by decide +kernel
theorem dX4_find_80 : decode cX4_find 80 = .ok (.iload_n 3, 1) := by decide +kernel
theorem dX4_find_81 : decode cX4_find 81 = .ok (.iload 4, 2) := by decide +kernel
theorem dX4_find_83 : decode cX4_find 83 = .ok (.invokevirtual 64, 3) := by decide +kernel
theorem dX4_find_86 : decode cX4_find 86 = .ok (.iinc 4 1, 3) := by decide +kernel
theorem dX4_find_89 : decode cX4_find 89 = .ok (.goto (-25), 3) := by decide +kernel
theorem dX4_find_92 : decode cX4_find 92 = .ok (.iinc 3 (-1), 3) := by decide +kernel
theorem dX4_find_95 : decode cX4_find 95 = .ok (.goto (-42), 3) := by decide +kernel
theorem dX4_find_98 : decode cX4_find 98 = .ok (.aload_n 0, 1) := by decide +kernel
theorem dX4_find_99 : decode cX4_find 99 = .ok (.invokevirtual 68, 3) := by decide +kernel
theorem dX4_find_102 : decode cX4_find 102 = .ok (.ireturn, 1) := by decide +kernel
theorem dX4_swap_0 : decode cX4_swap 0 = .ok (.aload_n 0, 1) := by decide +kernel
theorem dX4_swap_1 : decode cX4_swap 1 = .ok (.getfield 15, 3) := by decide +kernel
theorem dX4_swap_4 : decode cX4_swap 4 = .ok (.astore_n 1, 1) := by decide +kernel
theorem dX4_swap_5 : decode cX4_swap 5 = .ok (.aload_n 0, 1) := by decide +kernel
theorem dX4_swap_6 : decode cX4_swap 6 = .ok (.aload_n 0, 1) := by decide +kernel
theorem dX4_swap_7 : decode cX4_swap 7 = .ok (.getfield 18, 3) := by decide +kernel
theorem dX4_swap_10 : decode cX4_swap 10 = .ok (.putfield 15, 3) := by decide +kernel
theorem dX4_swap_13 : decode cX4_swap 13 = .ok (.aload_n 0, 1) := by decide +kernel
theorem dX4_swap_14 : decode cX4_swap 14 = .ok (.aload_n 1, 1) := by decide +kernel
theorem dX4_swap_15 : decode cX4_swap 15 = .ok (.putfield 18, 3) := by decide +kernel
theorem dX4_swap_18 : decode cX4_swap 18 = .ok (.aload_n 0, 1) := by decide +kernel
theorem dX4_swap_19 : decode cX4_swap 19 = .ok (.getfield 18, 3) := by decide +kernel
theorem dX4_swap_22 : decode cX4_swap 22 = .ok (.iconst (-1), 1) := by decide +kernel
theorem dX4_swap_23 : decode cX4_swap 23 = .ok (.invokestatic 49, 3) := by decide +kernel
theorem dX4_swap_26 : decode cX4_swap 26 = .ok (.aload_n 0, 1) := by decide +kernel
theorem dX4_swap_27 : decode cX4_swap 27 = .ok (.getfield 21, 3) := by decide +kernel
theorem dX4_swap_30 : decode cX4_swap 30 = .ok (.astore_n 1, 1) := by decide +kernel
theorem dX4_swap_31 : decode cX4_swap 31 = .ok (.aload_n 0, 1) := by decide +kernel
theorem dX4_swap_32 : decode cX4_swap 32 = .ok (.aload_n 0, 1) := by decide +kernel
theorem dX4_swap_33 : decode cX4_swap 33 = .ok (.getfield 24, 3) := by decide +kernel
theorem dX4_swap_36 : decode cX4_swap 36 = .ok (.putfield 21, 3) := by decide +kernel
theorem dX4_swap_39 : decode cX4_swap 39 = .ok (.aload_n 0, 1) := by decide +kernel
theorem dX4_swap_40 : decode cX4_swap 40 = .ok (.aload_n 1, 1) := by decide +kernel
theorem dX4_swap_41 : decode cX4_swap 41 = .ok (.putfield 24, 3) := by decide +kernel
theorem dX4_swap_44 : decode cX4_swap 44 = .ok (.aload_n 0, 1) := by decide +kernel
theorem dX4_swap_45 : decode cX4_swap 45 = .ok (.getfield 24, 3) := by decide +kernel
theorem dX4_swap_48 : decode cX4_swap 48 = .ok (.iconst (-1), 1) := by decide +kernel
theorem dX4_swap_49 : decode cX4_swap 49 = .ok (.invokestatic 49, 3) := by decide +kernel
theorem dX4_swap_52 : decode cX4_swap 52 = .ok (.return_, 1) := by decide +kernel
theorem dX4_layOnAll_0 : decode cX4_layOnAll 0 = .ok (.aload_n 0, 1) := by decide +kernel
theorem dX4_layOnAll_1 : decode cX4_layOnAll 1 = .ok (.getfield 27, 3) := by decide +kernel
theorem dX4_layOnAll_4 : decode cX4_layOnAll 4 = .ok (.getfield 55, 3) := by decide +kernel
theorem dX4_layOnAll_7 : decode cX4_layOnAll 7 = .ok (.iconst 1, 1) := by decide +kernel
theorem dX4_layOnAll_8 : decode cX4_layOnAll 8 = .ok (.isub, 1) := by decide +kernel
theorem dX4_layOnAll_9 : decode cX4_layOnAll 9 = .ok (.iload_n 1, 1) := by decide +kernel
theorem dX4_layOnAll_10 : decode cX4_layOnAll 10 = .ok (.isub, 1) := by decide +kernel
theorem dX4_layOnAll_11 : decode cX4_layOnAll 11 = .ok (.istore_n 3, 1) := by decide +kernel
theorem dX4_layOnAll_12 : decode cX4_layOnAll 12 = .ok (.aload_n 0, 1) := by decide +kernel
theorem dX4_layOnAll_13 : decode cX4_layOnAll 13 = .ok (.getfield 27, 3) := by decide +kernel
theorem dX4_layOnAll_16 : decode cX4_layOnAll 16 = .ok (.iload_n 2, 1) := by decide +kernel
theorem dX4_layOnAll_17 : decode cX4_layOnAll 17 = .ok (.iconst 3, 1) := by decide +kernel
theorem dX4_layOnAll_18 : decode cX4_layOnAll 18 = .ok (.invokevirtual 72, 3) := by decide +kernel
theorem dX4_layOnAll_21 : decode cX4_layOnAll 21 = .ok (.istore 4, 2) := by decide +kernel
theorem dX4_layOnAll_23 : decode cX4_layOnAll 23 = .ok (.iload_n 3, 1) := by decide +kernel
theorem dX4_layOnAll_24 : decode cX4_layOnAll 24 = .ok (.istore 5, 2) := by decide +kernel
theorem dX4_layOnAll_26 : decode cX4_layOnAll 26 = .ok (.iload 5, 2) := by decide +kernel
theorem dX4_layOnAll_28 : decode cX4_layOnAll 28 = .ok (.iload_n 3, 1) := by decide +kernel
theorem dX4_layOnAll_29 : decode cX4_layOnAll 29 = .ok (.bipush 9, 2) := by decide +kernel
theorem dX4_layOnAll_31 : decode cX4_layOnAll 31 = .ok (.imul, 1) := by decide +kernel
theorem dX4_layOnAll_32 : decode cX4_layOnAll 32 = .ok (.if_icmp .gt 93, 3) := by decide +kernel
theorem dX4_layOnAll_35 : decode cX4_layOnAll 35 = .ok (.aload_n 0, 1) := by decide +kernel
theorem dX4_layOnAll_36 : decode cX4_layOnAll 36 = .ok (.getfield 27, 3) := by decide +kernel
theorem dX4_layOnAll_39 : decode cX4_layOnAll 39 = .ok (.iload_n 1, 1) := by decide +kernel
theorem dX4_layOnAll_40 : decode cX4_layOnAll 40 = .ok (.iload_n 2, 1) := by decide +kernel
theorem dX4_layOnAll_41 : decode cX4_layOnAll 41 = .ok (.iload 5, 2) := by decide +kernel
theorem dX4_layOnAll_43 : decode cX4_layOnAll 43 = .ok (.iload 4, 2) := by decide +kernel
theorem dX4_layOnAll_45 : decode cX4_layOnAll 45 = .ok (.iadd, 1) := by decide +kernel
theorem dX4_layOnAll_46 : decode cX4_layOnAll 46 = .ok (.invokevirtual 75, 3) := by decide +kernel
theorem dX4_layOnAll_49 : decode cX4_layOnAll 49 = .ok (.ifCond .ne 6, 3) := by decide +kernel
theorem dX4_layOnAll_52 : decode cX4_layOnAll 52 = .ok (.goto 73, 3) := by decide +kernel
theorem dX4_layOnAll_55 : decode cX4_layOnAll 55 = .ok (.aload_n 0, 1) := by decide +kernel
theorem dX4_layOnAll_56 : decode cX4_layOnAll 56 = .ok (.aload_n 0, 1) := by decide +kernel
theorem dX4_layOnAll_57 : decode cX4_layOnAll 57 = .ok (.getfield 21, 3) := by decide +kernel
theorem dX4_layOnAll_60 : decode cX4_layOnAll 60 = .ok (.iload 5, 2) := by decide +kernel
theorem dX4_layOnAll_62 : decode cX4_layOnAll 62 = .ok (.iaload, 1) := by decide +kernel
theorem dX4_layOnAll_63 : decode cX4_layOnAll 63 = .ok (.iload 5, 2) := by decide +kernel
theorem dX4_layOnAll_65 : decode cX4_layOnAll 65 = .ok (.iload_n 2, 1) := by decide +kernel
theorem dX4_layOnAll_66 : decode cX4_layOnAll 66 = .ok (.iconst 1, 1) := by decide +kernel
theorem dX4_layOnAll_67 : decode cX4_layOnAll 67 = .ok (.invokevirtual 79, 3) := by decide +kernel
theorem dX4_layOnAll_70 : decode cX4_layOnAll 70 = .ok (.iconst 1, 1) := by decide +kernel
theorem dX4_layOnAll_71 : decode cX4_layOnAll 71 = .ok (.istore 6, 2) := by decide +kernel
theorem dX4_layOnAll_73 : decode cX4_layOnAll 73 = .ok (.iload 6, 2) := by decide +kernel
theorem dX4_layOnAll_75 : decode cX4_layOnAll 75 = .ok (.aload_n 0, 1) := by decide +kernel
theorem dX4_layOnAll_76 : decode cX4_layOnAll 76 = .ok (.getfield 45, 3) := by decide +kernel
theorem dX4_layOnAll_79 : decode cX4_layOnAll 79 = .ok (.if_icmp .gt 40, 3) := by decide +kernel
theorem dX4_layOnAll_82 : decode cX4_layOnAll 82 = .ok (.aload_n 0, 1) := by decide +kernel
theorem dX4_layOnAll_83 : decode cX4_layOnAll 83 = .ok (.aload_n 0, 1) := by decide +kernel
theorem dX4_layOnAll_84 : decode cX4_layOnAll 84 = .ok (.getfield 15, 3) := by decide +kernel
theorem dX4_layOnAll_87 : decode cX4_layOnAll 87 = .ok (.iload 5, 2) := by decide +kernel
theorem dX4_layOnAll_89 : decode cX4_layOnAll 89 = .ok (.iload_n 2, 1) := by decide +kernel
theorem dX4_layOnAll_90 : decode cX4_layOnAll 90 = .ok (.iload 6, 2) := by decide +kernel
theorem dX4_layOnAll_92 : decode cX4_layOnAll 92 = .ok (.invokestatic 83, 3) := by decide +kernel
theorem dX4_layOnAll_95 : decode cX4_layOnAll 95 = .ok (.iaload, 1) := by decide +kernel
theorem dX4_layOnAll_96 : decode cX4_layOnAll 96 = .ok (.iload 5, 2) := by decide +kernel
theorem dX4_layOnAll_98 : decode cX4_layOnAll 98 = .ok (.iload_n 2, 1) := by decide +kernel
theorem dX4_layOnAll_99 : decode cX4_layOnAll 99 = .ok (.iload 6, 2) := by decide +kernel
theorem dX4_layOnAll_101 : decode cX4_layOnAll 101 = .ok (.iconst 1, 1) := by decide +kernel
theorem dX4_layOnAll_102 : decode cX4_layOnAll 102 = .ok (.iadd, 1) := by decide +kernel
theorem dX4_layOnAll_103 : decode cX4_layOnAll 103 = .ok (.aload_n 0, 1) := by decide +kernel
theorem dX4_layOnAll_104 : decode cX4_layOnAll 104 = .ok (.getfield 45, 3) := by decide +kernel
theorem dX4_layOnAll_107 : decode cX4_layOnAll 107 = .ok (.invokestatic 36, 3) := by decide +kernel
theorem dX4_layOnAll_110 : decode cX4_layOnAll 110 = .ok (.invokevirtual 79, 3) := by decide +kernel
theorem dX4_layOnAll_113 : decode cX4_layOnAll 113 = .ok (.iinc 6 1, 3) := by decide +kernel
theorem dX4_layOnAll_116 : decode cX4_layOnAll 116 = .ok (.goto (-43), 3) := by decide +kernel
theorem dX4_layOnAll_119 : decode cX4_layOnAll 119 = .ok (.iinc 5 1, 3) := by decide +kernel
theorem dX4_layOnAll_122 : decode cX4_layOnAll 122 = .ok (.goto (-96), 3) := by decide +kernel
theorem dX4_layOnAll_125 : decode cX4_layOnAll 125 = .ok (.return_, 1) := by decide +kernel
theorem dX4_layOn_0 : decode cX4_layOn 0 = .ok (.iload_n 1, 1) := by decide +kernel
theorem dX4_layOn_1 : decode cX4_layOn 1 = .ok (.iconst (-1), 1) := by decide +kernel
theorem dX4_layOn_2 : decode cX4_layOn 2 = .ok (.if_icmp .ne 4, 3) := by decide +kernel
theorem dX4_layOn_5 : decode cX4_layOn 5 = .ok (.return_, 1) := by decide +kernel
theorem dX4_layOn_6 : decode cX4_layOn 6 = .ok (.iload_n 2, 1) := by decide +kernel
theorem dX4_layOn_7 : decode cX4_layOn 7 = .ok (.aload_n 0, 1) := by decide +kernel
theorem dX4_layOn_8 : decode cX4_layOn 8 = .ok (.getfield 27, 3) := by decide +kernel
theorem dX4_layOn_11 : decode cX4_layOn 11 = .ok (.iload_n 3, 1) := by decide +kernel
theorem dX4_layOn_12 : decode cX4_layOn 12 = .ok (.iconst 3, 1) := by decide +kernel
theorem dX4_layOn_13 : decode cX4_layOn 13 = .ok (.invokevirtual 72, 3) := by decide +kernel
theorem dX4_layOn_16 : decode cX4_layOn 16 = .ok (.iadd, 1) := by decide +kernel
theorem dX4_layOn_17 : decode cX4_layOn 17 = .ok (.istore 5, 2) := by decide +kernel
theorem dX4_layOn_19 : decode cX4_layOn 19 = .ok (.iload_n 1, 1) := by decide +kernel
theorem dX4_layOn_20 : decode cX4_layOn 20 = .ok (.ldc 87, 2) := by decide +kernel
theorem dX4_layOn_22 : decode cX4_layOn 22 = .ok (.irem, 1) := by decide +kernel
theorem dX4_layOn_23 : decode cX4_layOn 23 = .ok (.istore 6, 2) := by decide +kernel
theorem dX4_layOn_25 : decode cX4_layOn 25 = .ok (.iload_n 1, 1) := by decide +kernel
theorem dX4_layOn_26 : decode cX4_layOn 26 = .ok (.iload 6, 2) := by decide +kernel
theorem dX4_layOn_28 : decode cX4_layOn 28 = .ok (.isub, 1) := by decide +kernel
theorem dX4_layOn_29 : decode cX4_layOn 29 = .ok (.aload_n 0, 1) := by decide +kernel
theorem dX4_layOn_30 : decode cX4_layOn 30 = .ok (.getfield 27, 3) := by decide +kernel
theorem dX4_layOn_33 : decode cX4_layOn 33 = .ok (.iload_n 3, 1) := by decide +kernel
theorem dX4_layOn_34 : decode cX4_layOn 34 = .ok (.iconst 4, 1) := by decide +kernel
theorem dX4_layOn_35 : decode cX4_layOn 35 = .ok (.invokevirtual 72, 3) := by decide +kernel
theorem dX4_layOn_38 : decode cX4_layOn 38 = .ok (.ldc 87, 2) := by decide +kernel
theorem dX4_layOn_40 : decode cX4_layOn 40 = .ok (.imul, 1) := by decide +kernel
theorem dX4_layOn_41 : decode cX4_layOn 41 = .ok (.iadd, 1) := by decide +kernel
theorem dX4_layOn_42 : decode cX4_layOn 42 = .ok (.iload 6, 2) := by decide +kernel
theorem dX4_layOn_44 : decode cX4_layOn 44 = .ok (.iconst 5, 1) := by decide +kernel
theorem dX4_layOn_45 : decode cX4_layOn 45 = .ok (.imul, 1) := by decide +kernel
theorem dX4_layOn_46 : decode cX4_layOn 46 = .ok (.iadd, 1) := by decide +kernel
theorem dX4_layOn_47 : decode cX4_layOn 47 = .ok (.iload_n 3, 1) := by decide +kernel
theorem dX4_layOn_48 : decode cX4_layOn 48 = .ok (.iadd, 1) := by decide +kernel
theorem dX4_layOn_49 : decode cX4_layOn 49 = .ok (.istore 7, 2) := by decide +kernel
theorem dX4_layOn_51 : decode cX4_layOn 51 = .ok (.iload 5, 2) := by decide +kernel
theorem dX4_layOn_53 : decode cX4_layOn 53 = .ok (.iload_n 3, 1) := by decide +kernel
theorem dX4_layOn_54 : decode cX4_layOn 54 = .ok (.iload 4, 2) := by decide +kernel
theorem dX4_layOn_56 : decode cX4_layOn 56 = .ok (.invokestatic 83, 3) := by decide +kernel
theorem dX4_layOn_59 : decode cX4_layOn 59 = .ok (.istore 8, 2) := by decide +kernel
theorem dX4_layOn_61 : decode cX4_layOn 61 = .ok (.iload 7, 2) := by decide +kernel
theorem dX4_layOn_63 : decode cX4_layOn 63 = .ok (.aload_n 0, 1) := by decide +kernel
theorem dX4_layOn_64 : decode cX4_layOn 64 = .ok (.getfield 18, 3) := by decide +kernel
theorem dX4_layOn_67 : decode cX4_layOn 67 = .ok (.iload 8, 2) := by decide +kernel
theorem dX4_layOn_69 : decode cX4_layOn 69 = .ok (.iaload, 1) := by decide +kernel
theorem dX4_layOn_70 : decode cX4_layOn 70 = .ok (.invokestatic 88, 3) := by decide +kernel
theorem dX4_layOn_73 : decode cX4_layOn 73 = .ok (.ifCond .eq 12, 3) := by decide +kernel
theorem dX4_layOn_76 : decode cX4_layOn 76 = .ok (.aload_n 0, 1) := by decide +kernel
theorem dX4_layOn_77 : decode cX4_layOn 77 = .ok (.getfield 18, 3) := by decide +kernel
theorem dX4_layOn_80 : decode cX4_layOn 80 = .ok (.iload 8, 2) := by decide +kernel
theorem dX4_layOn_82 : decode cX4_layOn 82 = .ok (.iload 7, 2) := by decide +kernel
theorem dX4_layOn_84 : decode cX4_layOn 84 = .ok (.iastore, 1) := by decide +kernel
theorem dX4_layOn_85 : decode cX4_layOn 85 = .ok (.iload 4, 2) := by decide +kernel
theorem dX4_layOn_87 : decode cX4_layOn 87 = .ok (.aload_n 0, 1) := by decide +kernel
theorem dX4_layOn_88 : decode cX4_layOn 88 = .ok (.getfield 45, 3) := by decide +kernel
theorem dX4_layOn_91 : decode cX4_layOn 91 = .ok (.if_icmp .ne 27, 3) := by decide +kernel
theorem dX4_layOn_94 : decode cX4_layOn 94 = .ok (.iload 7, 2) := by decide +kernel
theorem dX4_layOn_96 : decode cX4_layOn 96 = .ok (.aload_n 0, 1) := by decide +kernel
theorem dX4_layOn_97 : decode cX4_layOn 97 = .ok (.getfield 24, 3) := by decide +kernel
theorem dX4_layOn_100 : decode cX4_layOn 100 = .ok (.iload 5, 2) := by decide +kernel
theorem dX4_layOn_102 : decode cX4_layOn 102 = .ok (.iaload, 1) := by decide +kernel
theorem dX4_layOn_103 : decode cX4_layOn 103 = .ok (.invokestatic 88, 3) := by decide +kernel
theorem dX4_layOn_106 : decode cX4_layOn 106 = .ok (.ifCond .eq 12, 3) := by decide +kernel
theorem dX4_layOn_109 : decode cX4_layOn 109 = .ok (.aload_n 0, 1) := by decide +kernel
theorem dX4_layOn_110 : decode cX4_layOn 110 = .ok (.getfield 24, 3) := by decide +kernel
theorem dX4_layOn_113 : decode cX4_layOn 113 = .ok (.iload 5, 2) := by decide +kernel
theorem dX4_layOn_115 : decode cX4_layOn 115 = .ok (.iload 7, 2) := by decide +kernel
theorem dX4_layOn_117 : decode cX4_layOn 117 = .ok (.iastore, 1) := by decide +kernel
theorem dX4_layOn_118 : decode cX4_layOn 118 = .ok (.return_, 1) := by decide +kernel
theorem dX4_isAhead_0 : decode cX4_isAhead 0 = .ok (.iload_n 1, 1) := by decide +kernel
theorem dX4_isAhead_1 : decode cX4_isAhead 1 = .ok (.iconst (-1), 1) := by decide +kernel
theorem dX4_isAhead_2 : decode cX4_isAhead 2 = .ok (.if_icmp .eq 8, 3) := by decide +kernel
theorem dX4_isAhead_5 : decode cX4_isAhead 5 = .ok (.iload_n 0, 1) := by decide +kernel
theorem dX4_isAhead_6 : decode cX4_isAhead 6 = .ok (.iload_n 1, 1) := by decide +kernel
theorem dX4_isAhead_7 : decode cX4_isAhead 7 = .ok (.if_icmp .ge 7, 3) := by decide +kernel
theorem dX4_isAhead_10 : decode cX4_isAhead 10 = .ok (.iconst 1, 1) := by decide +kernel
theorem dX4_isAhead_11 : decode cX4_isAhead 11 = .ok (.goto 4, 3) := by decide +kernel
theorem dX4_isAhead_14 : decode cX4_isAhead 14 = .ok (.iconst 0, 1) := by decide +kernel
theorem dX4_isAhead_15 : decode cX4_isAhead 15 = .ok (.ireturn, 1) := by decide +kernel
theorem dX4_state_0 : decode cX4_state 0 = .ok (.iload_n 0, 1) := by decide +kernel
theorem dX4_state_1 : decode cX4_state 1 = .ok (.iconst 5, 1) := by decide +kernel
theorem dX4_state_2 : decode cX4_state 2 = .ok (.imul, 1) := by decide +kernel
theorem dX4_state_3 : decode cX4_state 3 = .ok (.iload_n 1, 1) := by decide +kernel
theorem dX4_state_4 : decode cX4_state 4 = .ok (.iadd, 1) := by decide +kernel
theorem dX4_state_5 : decode cX4_state 5 = .ok (.iconst 3, 1) := by decide +kernel
theorem dX4_state_6 : decode cX4_state 6 = .ok (.imul, 1) := by decide +kernel
theorem dX4_state_7 : decode cX4_state 7 = .ok (.iload_n 2, 1) := by decide +kernel
theorem dX4_state_8 : decode cX4_state 8 = .ok (.iadd, 1) := by decide +kernel
theorem dX4_state_9 : decode cX4_state 9 = .ok (.iconst 1, 1) := by decide +kernel
theorem dX4_state_10 : decode cX4_state 10 = .ok (.isub, 1) := by decide +kernel
theorem dX4_state_11 : decode cX4_state 11 = .ok (.ireturn, 1) := by decide +kernel
theorem dX4_choose_0 : decode cX4_choose 0 = .ok (.iconst (-1), 1) := by decide +kernel
theorem dX4_choose_1 : decode cX4_choose 1 = .ok (.istore_n 1, 1) := by decide +kernel
theorem dX4_choose_2 : decode cX4_choose 2 = .ok (.iconst 1, 1) := by decide +kernel
theorem dX4_choose_3 : decode cX4_choose 3 = .ok (.istore_n 2, 1) := by decide +kernel
theorem dX4_choose_4 : decode cX4_choose 4 = .ok (.iload_n 2, 1) := by decide +kernel
theorem dX4_choose_5 : decode cX4_choose 5 = .ok (.bipush 73, 2) := by decide +kernel
theorem dX4_choose_7 : decode cX4_choose 7 = .ok (.if_icmp .ge 44, 3) := by decide +kernel
theorem dX4_choose_10 : decode cX4_choose 10 = .ok (.aload_n 0, 1) := by decide +kernel
theorem dX4_choose_11 : decode cX4_choose 11 = .ok (.getfield 24, 3) := by decide +kernel
theorem dX4_choose_14 : decode cX4_choose 14 = .ok (.iload_n 2, 1) := by decide +kernel
theorem dX4_choose_15 : decode cX4_choose 15 = .ok (.iaload, 1) := by decide +kernel
theorem dX4_choose_16 : decode cX4_choose 16 = .ok (.istore_n 3, 1) := by decide +kernel
theorem dX4_choose_17 : decode cX4_choose 17 = .ok (.iload_n 3, 1) := by decide +kernel
theorem dX4_choose_18 : decode cX4_choose 18 = .ok (.iconst (-1), 1) := by decide +kernel
theorem dX4_choose_19 : decode cX4_choose 19 = .ok (.if_icmp .eq 26, 3) := by decide +kernel
theorem dX4_choose_22 : decode cX4_choose 22 = .ok (.iload_n 1, 1) := by decide +kernel
theorem dX4_choose_23 : decode cX4_choose 23 = .ok (.iconst (-1), 1) := by decide +kernel
theorem dX4_choose_24 : decode cX4_choose 24 = .ok (.if_icmp .eq 14, 3) := by decide +kernel
theorem dX4_choose_27 : decode cX4_choose 27 = .ok (.iload_n 3, 1) := by decide +kernel
theorem dX4_choose_28 : decode cX4_choose 28 = .ok (.ldc 87, 2) := by decide +kernel
theorem dX4_choose_30 : decode cX4_choose 30 = .ok (.idiv, 1) := by decide +kernel
theorem dX4_choose_31 : decode cX4_choose 31 = .ok (.iload_n 1, 1) := by decide +kernel
theorem dX4_choose_32 : decode cX4_choose 32 = .ok (.ldc 87, 2) := by decide +kernel
theorem dX4_choose_34 : decode cX4_choose 34 = .ok (.idiv, 1) := by decide +kernel
theorem dX4_choose_35 : decode cX4_choose 35 = .ok (.if_icmp .ge 10, 3) := by decide +kernel
theorem dX4_choose_38 : decode cX4_choose 38 = .ok (.iload_n 3, 1) := by decide +kernel
theorem dX4_choose_39 : decode cX4_choose 39 = .ok (.istore_n 1, 1) := by decide +kernel
theorem dX4_choose_40 : decode cX4_choose 40 = .ok (.aload_n 0, 1) := by decide +kernel
theorem dX4_choose_41 : decode cX4_choose 41 = .ok (.iload_n 2, 1) := by decide +kernel
theorem dX4_choose_42 : decode cX4_choose 42 = .ok (.putfield 92, 3) := by decide +kernel
theorem dX4_choose_45 : decode cX4_choose 45 = .ok (.iinc 2 1, 3) := by decide +kernel
theorem dX4_choose_48 : decode cX4_choose 48 = .ok (.goto (-44), 3) := by decide +kernel
theorem dX4_choose_51 : decode cX4_choose 51 = .ok (.iload_n 1, 1) := by decide +kernel
theorem dX4_choose_52 : decode cX4_choose 52 = .ok (.iconst (-1), 1) := by decide +kernel
theorem dX4_choose_53 : decode cX4_choose 53 = .ok (.if_icmp .ne 5, 3) := by decide +kernel
theorem dX4_choose_56 : decode cX4_choose 56 = .ok (.iconst 0, 1) := by decide +kernel
theorem dX4_choose_57 : decode cX4_choose 57 = .ok (.ireturn, 1) := by decide +kernel
theorem dX4_choose_58 : decode cX4_choose 58 = .ok (.aload_n 0, 1) := by decide +kernel
theorem dX4_choose_59 : decode cX4_choose 59 = .ok (.iload_n 1, 1) := by decide +kernel
theorem dX4_choose_60 : decode cX4_choose 60 = .ok (.ldc 87, 2) := by decide +kernel
theorem dX4_choose_62 : decode cX4_choose 62 = .ok (.idiv, 1) := by decide +kernel
theorem dX4_choose_63 : decode cX4_choose 63 = .ok (.putfield 95, 3) := by decide +kernel
theorem dX4_choose_66 : decode cX4_choose 66 = .ok (.aload_n 0, 1) := by decide +kernel
theorem dX4_choose_67 : decode cX4_choose 67 = .ok (.iload_n 1, 1) := by decide +kernel
theorem dX4_choose_68 : decode cX4_choose 68 = .ok (.ldc 87, 2) := by decide +kernel
theorem dX4_choose_70 : decode cX4_choose 70 = .ok (.irem, 1) := by decide +kernel
theorem dX4_choose_71 : decode cX4_choose 71 = .ok (.invokevirtual 98, 3) := by decide +kernel
theorem dX4_choose_74 : decode cX4_choose 74 = .ok (.iconst 1, 1) := by decide +kernel
theorem dX4_choose_75 : decode cX4_choose 75 = .ok (.ireturn, 1) := by decide +kernel
theorem dX4_tellString_0 : decode cX4_tellString 0 = .ok (.iload_n 1, 1) := by decide +kernel
theorem dX4_tellString_1 : decode cX4_tellString 1 = .ok (.istore_n 2, 1) := by decide +kernel
theorem dX4_tellString_2 : decode cX4_tellString 2 = .ok (.aload_n 0, 1) := by decide +kernel
theorem dX4_tellString_3 : decode cX4_tellString 3 = .ok (.getfield 11, 3) := by decide +kernel
theorem dX4_tellString_6 : decode cX4_tellString 6 = .ok (.iconst (-1), 1) := by decide +kernel
theorem dX4_tellString_7 : decode cX4_tellString 7 = .ok (.invokestatic 49, 3) := by decide +kernel
theorem dX4_tellString_10 : decode cX4_tellString 10 = .ok (.iconst 0, 1) := by decide +kernel
theorem dX4_tellString_11 : decode cX4_tellString 11 = .ok (.istore_n 3, 1) := by decide +kernel
theorem dX4_tellString_12 : decode cX4_tellString 12 = .ok (.iload_n 3, 1) := by decide +kernel
theorem dX4_tellString_13 : decode cX4_tellString 13 = .ok (.aload_n 0, 1) := by decide +kernel
theorem dX4_tellString_14 : decode cX4_tellString 14 = .ok (.getfield 27, 3) := by decide +kernel
theorem dX4_tellString_17 : decode cX4_tellString 17 = .ok (.getfield 55, 3) := by decide +kernel
theorem dX4_tellString_20 : decode cX4_tellString 20 = .ok (.if_icmp .ge 22, 3) := by decide +kernel
theorem dX4_tellString_23 : decode cX4_tellString 23 = .ok (.aload_n 0, 1) := by decide +kernel
theorem dX4_tellString_24 : decode cX4_tellString 24 = .ok (.getfield 11, 3) := by decide +kernel
theorem dX4_tellString_27 : decode cX4_tellString 27 = .ok (.iload_n 3, 1) := by decide +kernel
theorem dX4_tellString_28 : decode cX4_tellString 28 = .ok (.iload_n 2, 1) := by decide +kernel
theorem dX4_tellString_29 : decode cX4_tellString 29 = .ok (.iconst 5, 1) := by decide +kernel
theorem dX4_tellString_30 : decode cX4_tellString 30 = .ok (.irem, 1) := by decide +kernel
theorem dX4_tellString_31 : decode cX4_tellString 31 = .ok (.iastore, 1) := by decide +kernel
theorem dX4_tellString_32 : decode cX4_tellString 32 = .ok (.iload_n 2, 1) := by decide +kernel
theorem dX4_tellString_33 : decode cX4_tellString 33 = .ok (.iconst 5, 1) := by decide +kernel
theorem dX4_tellString_34 : decode cX4_tellString 34 = .ok (.idiv, 1) := by decide +kernel
theorem dX4_tellString_35 : decode cX4_tellString 35 = .ok (.istore_n 2, 1) := by decide +kernel
theorem dX4_tellString_36 : decode cX4_tellString 36 = .ok (.iinc 3 1, 3) := by decide +kernel
theorem dX4_tellString_39 : decode cX4_tellString 39 = .ok (.goto (-27), 3) := by decide +kernel
theorem dX4_tellString_42 : decode cX4_tellString 42 = .ok (.return_, 1) := by decide +kernel
theorem dX5_init_0 : decode cX5_init 0 = .ok (.aload_n 0, 1) := by decide +kernel
theorem dX5_init_1 : decode cX5_init 1 = .ok (.invokespecial 3, 3) := by decide +kernel
theorem dX5_init_4 : decode cX5_init 4 = .ok (.aload_n 0, 1) := by decide +kernel
theorem dX5_init_5 : decode cX5_init 5 = .ok (.iconst 4, 1) := by decide +kernel
theorem dX5_init_6 : decode cX5_init 6 = .ok (.newarray .int, 2) := by decide +kernel
theorem dX5_init_8 : decode cX5_init 8 = .ok (.putfield 9, 3) := by decide +kernel
theorem dX5_init_11 : decode cX5_init 11 = .ok (.aload_n 0, 1) := by decide +kernel
theorem dX5_init_12 : decode cX5_init 12 = .ok (.iconst 5, 1) := by decide +kernel
theorem dX5_init_13 : decode cX5_init 13 = .ok (.newarray .int, 2) := by decide +kernel
theorem dX5_init_15 : decode cX5_init 15 = .ok (.putfield 15, 3) := by decide +kernel
theorem dX5_init_18 : decode cX5_init 18 = .ok (.aload_n 0, 1) := by decide +kernel
theorem dX5_init_19 : decode cX5_init 19 = .ok (.bipush 25, 2) := by decide +kernel
theorem dX5_init_21 : decode cX5_init 21 = .ok (.newarray .int, 2) := by decide +kernel
theorem dX5_init_23 : decode cX5_init 23 = .ok (.putfield 18, 3) := by decide +kernel
theorem dX5_init_26 : decode cX5_init 26 = .ok (.aload_n 0, 1) := by decide +kernel
theorem dX5_init_27 : decode cX5_init 27 = .ok (.bipush 8, 2) := by decide +kernel
theorem dX5_init_29 : decode cX5_init 29 = .ok (.newarray .int, 2) := by decide +kernel
theorem dX5_init_31 : decode cX5_init 31 = .ok (.putfield 21, 3) := by decide +kernel
theorem dX5_init_34 : decode cX5_init 34 = .ok (.return_, 1) := by decide +kernel
theorem dX5_becomes_0 : decode cX5_becomes 0 = .ok (.aload_n 0, 1) := by decide +kernel
theorem dX5_becomes_1 : decode cX5_becomes 1 = .ok (.aload_n 1, 1) := by decide +kernel
theorem dX5_becomes_2 : decode cX5_becomes 2 = .ok (.getfield 24, 3) := by decide +kernel
theorem dX5_becomes_5 : decode cX5_becomes 5 = .ok (.putfield 24, 3) := by decide +kernel
theorem dX5_becomes_8 : decode cX5_becomes 8 = .ok (.aload_n 0, 1) := by decide +kernel
theorem dX5_becomes_9 : decode cX5_becomes 9 = .ok (.aload_n 1, 1) := by decide +kernel
theorem dX5_becomes_10 : decode cX5_becomes 10 = .ok (.getfield 28, 3) := by decide +kernel
theorem dX5_becomes_13 : decode cX5_becomes 13 = .ok (.putfield 28, 3) := by decide +kernel
theorem dX5_becomes_16 : decode cX5_becomes 16 = .ok (.aload_n 1, 1) := by decide +kernel
theorem dX5_becomes_17 : decode cX5_becomes 17 = .ok (.getfield 9, 3) := by decide +kernel
theorem dX5_becomes_20 : decode cX5_becomes 20 = .ok (.iconst 0, 1) := by decide +kernel
theorem dX5_becomes_21 : decode cX5_becomes 21 = .ok (.aload_n 0, 1) := by decide +kernel
theorem dX5_becomes_22 : decode cX5_becomes 22 = .ok (.getfield 9, 3) := by decide +kernel
theorem dX5_becomes_25 : decode cX5_becomes 25 = .ok (.iconst 0, 1) := by decide +kernel
theorem dX5_becomes_26 : decode cX5_becomes 26 = .ok (.iconst 4, 1) := by decide +kernel
theorem dX5_becomes_27 : decode cX5_becomes 27 = .ok (.invokestatic 31, 3) := by decide +kernel
theorem dX5_becomes_30 : decode cX5_becomes 30 = .ok (.aload_n 1, 1) := by decide +kernel
theorem dX5_becomes_31 : decode cX5_becomes 31 = .ok (.getfield 15, 3) := by decide +kernel
theorem dX5_becomes_34 : decode cX5_becomes 34 = .ok (.iconst 0, 1) := by decide +kernel
theorem dX5_becomes_35 : decode cX5_becomes 35 = .ok (.aload_n 0, 1) := by decide +kernel
theorem dX5_becomes_36 : decode cX5_becomes 36 = .ok (.getfield 15, 3) := by decide +kernel
theorem dX5_becomes_39 : decode cX5_becomes 39 = .ok (.iconst 0, 1) := by decide +kernel
theorem dX5_becomes_40 : decode cX5_becomes 40 = .ok (.iconst 5, 1) := by decide +kernel
theorem dX5_becomes_41 : decode cX5_becomes 41 = .ok (.invokestatic 31, 3) := by decide +kernel
theorem dX5_becomes_44 : decode cX5_becomes 44 = .ok (.aload_n 1, 1) := by decide +kernel
theorem dX5_becomes_45 : decode cX5_becomes 45 = .ok (.getfield 18, 3) := by decide +kernel
theorem dX5_becomes_48 : decode cX5_becomes 48 = .ok (.iconst 0, 1) := by decide +kernel
theorem dX5_becomes_49 : decode cX5_becomes 49 = .ok (.aload_n 0, 1) := by decide +kernel
theorem dX5_becomes_50 : decode cX5_becomes 50 = .ok (.getfield 18, 3) := by decide +kernel
theorem dX5_becomes_53 : decode cX5_becomes 53 = .ok (.iconst 0, 1) := by decide +kernel
theorem dX5_becomes_54 : decode cX5_becomes 54 = .ok (.bipush 25, 2) := by decide +kernel
theorem dX5_becomes_56 : decode cX5_becomes 56 = .ok (.invokestatic 31, 3) := by decide +kernel
theorem dX5_becomes_59 : decode cX5_becomes 59 = .ok (.aload_n 1, 1) := by decide +kernel
theorem dX5_becomes_60 : decode cX5_becomes 60 = .ok (.getfield 21, 3) := by decide +kernel
theorem dX5_becomes_63 : decode cX5_becomes 63 = .ok (.iconst 0, 1) := by decide +kernel
theorem dX5_becomes_64 : decode cX5_becomes 64 = .ok (.aload_n 0, 1) := by decide +kernel
theorem dX5_becomes_65 : decode cX5_becomes 65 = .ok (.getfield 21, 3) := by decide +kernel
theorem dX5_becomes_68 : decode cX5_becomes 68 = .ok (.iconst 0, 1) := by decide +kernel
theorem dX5_becomes_69 : decode cX5_becomes 69 = .ok (.bipush 8, 2) := by decide +kernel
theorem dX5_becomes_71 : decode cX5_becomes 71 = .ok (.invokestatic 31, 3) := by decide +kernel
theorem dX5_becomes_74 : decode cX5_becomes 74 = .ok (.return_, 1) := by decide +kernel
theorem dX5_figure_0 : decode cX5_figure 0 = .ok (.aload_n 0, 1) := by decide +kernel
theorem dX5_figure_1 : decode cX5_figure 1 = .ok (.getfield 18, 3) := by decide +kernel
theorem dX5_figure_4 : decode cX5_figure 4 = .ok (.iload_n 1, 1) := by decide +kernel
theorem dX5_figure_5 : decode cX5_figure 5 = .ok (.iconst 5, 1) := by decide +kernel
theorem dX5_figure_6 : decode cX5_figure 6 = .ok (.imul, 1) := by decide +kernel
theorem dX5_figure_7 : decode cX5_figure 7 = .ok (.iload_n 2, 1) := by decide +kernel
theorem dX5_figure_8 : decode cX5_figure 8 = .ok (.iadd, 1) := by decide +kernel
theorem dX5_figure_9 : decode cX5_figure 9 = .ok (.iaload, 1) := by decide +kernel
theorem dX5_figure_10 : decode cX5_figure 10 = .ok (.ireturn, 1) := by decide +kernel
theorem dX5_putFigure_0 : decode cX5_putFigure 0 = .ok (.aload_n 0, 1) := by decide +kernel
theorem dX5_putFigure_1 : decode cX5_putFigure 1 = .ok (.getfield 18, 3) := by decide +kernel
theorem dX5_putFigure_4 : decode cX5_putFigure 4 = .ok (.iload_n 1, 1) := by decide +kernel
theorem dX5_putFigure_5 : decode cX5_putFigure 5 = .ok (.iconst 5, 1) := by decide +kernel
theorem dX5_putFigure_6 : decode cX5_putFigure 6 = .ok (.imul, 1) := by decide +kernel
theorem dX5_putFigure_7 : decode cX5_putFigure 7 = .ok (.iload_n 2, 1) := by decide +kernel
theorem dX5_putFigure_8 : decode cX5_putFigure 8 = .ok (.iadd, 1) := by decide +kernel
theorem dX5_putFigure_9 : decode cX5_putFigure 9 = .ok (.iload_n 3, 1) := by decide +kernel
theorem dX5_putFigure_10 : decode cX5_putFigure 10 = .ok (.iastore, 1) := by decide +kernel
theorem dX5_putFigure_11 : decode cX5_putFigure 11 = .ok (.return_, 1) := by decide +kernel
theorem dX5_laidFigure_0 : decode cX5_laidFigure 0 = .ok (.aload_n 0, 1) := by decide +kernel
theorem dX5_laidFigure_1 : decode cX5_laidFigure 1 = .ok (.getfield 21, 3) := by decide +kernel
theorem dX5_laidFigure_4 : decode cX5_laidFigure 4 = .ok (.iload_n 1, 1) := by decide +kernel
theorem dX5_laidFigure_5 : decode cX5_laidFigure 5 = .ok (.iaload, 1) := by decide +kernel
theorem dX5_laidFigure_6 : decode cX5_laidFigure 6 = .ok (.iconst (-1), 1) := by decide +kernel
theorem dX5_laidFigure_7 : decode cX5_laidFigure 7 = .ok (.if_icmp .ne 7, 3) := by decide +kernel
theorem dX5_laidFigure_10 : decode cX5_laidFigure 10 = .ok (.iconst 0, 1) := by decide +kernel
theorem dX5_laidFigure_11 : decode cX5_laidFigure 11 = .ok (.goto 14, 3) := by decide +kernel
theorem dX5_laidFigure_14 : decode cX5_laidFigure 14 = .ok (.aload_n 0, 1) := by decide +kernel
theorem dX5_laidFigure_15 : decode cX5_laidFigure 15 = .ok (.aload_n 0, 1) := by decide +kernel
theorem dX5_laidFigure_16 : decode cX5_laidFigure 16 = .ok (.getfield 21, 3) := by decide +kernel
theorem dX5_laidFigure_19 : decode cX5_laidFigure 19 = .ok (.iload_n 1, 1) := by decide +kernel
theorem dX5_laidFigure_20 : decode cX5_laidFigure 20 = .ok (.iaload, 1) := by decide +kernel
theorem dX5_laidFigure_21 : decode cX5_laidFigure 21 = .ok (.iload_n 2, 1) := by decide +kernel
theorem dX5_laidFigure_22 : decode cX5_laidFigure 22 = .ok (.invokevirtual 37, 3) := by decide +kernel
theorem dX5_laidFigure_25 : decode cX5_laidFigure 25 = .ok (.ireturn, 1) := by decide +kernel
theorem dX5_sumOfLaid_0 : decode cX5_sumOfLaid 0 = .ok (.iconst 0, 1) := by decide +kernel
theorem dX5_sumOfLaid_1 : decode cX5_sumOfLaid 1 = .ok (.istore_n 2, 1) := by decide +kernel
theorem dX5_sumOfLaid_2 : decode cX5_sumOfLaid 2 = .ok (.iconst 0, 1) := by decide +kernel
theorem dX5_sumOfLaid_3 : decode cX5_sumOfLaid 3 = .ok (.istore_n 3, 1) := by decide +kernel
theorem dX5_sumOfLaid_4 : decode cX5_sumOfLaid 4 = .ok (.iload_n 3, 1) := by decide +kernel
theorem dX5_sumOfLaid_5 : decode cX5_sumOfLaid 5 = .ok (.aload_n 0, 1) := by decide +kernel
theorem dX5_sumOfLaid_6 : decode cX5_sumOfLaid 6 = .ok (.getfield 24, 3) := by decide +kernel
theorem dX5_sumOfLaid_9 : decode cX5_sumOfLaid 9 = .ok (.if_icmp .ge 18, 3) := by decide +kernel
theorem dX5_sumOfLaid_12 : decode cX5_sumOfLaid 12 = .ok (.iload_n 2, 1) := by decide +kernel
theorem dX5_sumOfLaid_13 : decode cX5_sumOfLaid 13 = .ok (.aload_n 0, 1) := by decide +kernel
theorem dX5_sumOfLaid_14 : decode cX5_sumOfLaid 14 = .ok (.iload_n 3, 1) := by decide +kernel
theorem dX5_sumOfLaid_15 : decode cX5_sumOfLaid 15 = .ok (.iload_n 1, 1) := by decide +kernel
theorem dX5_sumOfLaid_16 : decode cX5_sumOfLaid 16 = .ok (.invokevirtual 41, 3) := by decide +kernel
theorem dX5_sumOfLaid_19 : decode cX5_sumOfLaid 19 = .ok (.iadd, 1) := by decide +kernel
theorem dX5_sumOfLaid_20 : decode cX5_sumOfLaid 20 = .ok (.istore_n 2, 1) := by decide +kernel
theorem dX5_sumOfLaid_21 : decode cX5_sumOfLaid 21 = .ok (.iinc 3 1, 3) := by decide +kernel
theorem dX5_sumOfLaid_24 : decode cX5_sumOfLaid 24 = .ok (.goto (-20), 3) := by decide +kernel
theorem dX5_sumOfLaid_27 : decode cX5_sumOfLaid 27 = .ok (.iload_n 2, 1) := by decide +kernel
theorem dX5_sumOfLaid_28 : decode cX5_sumOfLaid 28 = .ok (.ireturn, 1) := by decide +kernel
theorem dX5_howManyLaid_0 : decode cX5_howManyLaid 0 = .ok (.iconst 0, 1) := by decide +kernel
theorem dX5_howManyLaid_1 : decode cX5_howManyLaid 1 = .ok (.istore_n 1, 1) := by decide +kernel
theorem dX5_howManyLaid_2 : decode cX5_howManyLaid 2 = .ok (.iconst 0, 1) := by decide +kernel
theorem dX5_howManyLaid_3 : decode cX5_howManyLaid 3 = .ok (.istore_n 2, 1) := by decide +kernel
theorem dX5_howManyLaid_4 : decode cX5_howManyLaid 4 = .ok (.iload_n 2, 1) := by decide +kernel
theorem dX5_howManyLaid_5 : decode cX5_howManyLaid 5 = .ok (.aload_n 0, 1) := by decide +kernel
theorem dX5_howManyLaid_6 : decode cX5_howManyLaid 6 = .ok (.getfield 24, 3) := by decide +kernel
theorem dX5_howManyLaid_9 : decode cX5_howManyLaid 9 = .ok (.if_icmp .ge 22, 3) := by decide +kernel
theorem dX5_howManyLaid_12 : decode cX5_howManyLaid 12 = .ok (.aload_n 0, 1) := by decide +kernel
theorem dX5_howManyLaid_13 : decode cX5_howManyLaid 13 = .ok (.getfield 21, 3) := by decide +kernel
theorem dX5_howManyLaid_16 : decode cX5_howManyLaid 16 = .ok (.iload_n 2, 1) := by decide +kernel
theorem dX5_howManyLaid_17 : decode cX5_howManyLaid 17 = .ok (.iaload, 1) := by decide +kernel
theorem dX5_howManyLaid_18 : decode cX5_howManyLaid 18 = .ok (.iconst (-1), 1) := by decide +kernel
theorem dX5_howManyLaid_19 : decode cX5_howManyLaid 19 = .ok (.if_icmp .eq 6, 3) := by decide +kernel
theorem dX5_howManyLaid_22 : decode cX5_howManyLaid 22 = .ok (.iinc 1 1, 3) := by decide +kernel
theorem dX5_howManyLaid_25 : decode cX5_howManyLaid 25 = .ok (.iinc 2 1, 3) := by decide +kernel
theorem dX5_howManyLaid_28 : decode cX5_howManyLaid 28 = .ok (.goto (-24), 3) := by decide +kernel
theorem dX5_howManyLaid_31 : decode cX5_howManyLaid 31 = .ok (.iload_n 1, 1) := by decide +kernel
theorem dX5_howManyLaid_32 : decode cX5_howManyLaid 32 = .ok (.ireturn, 1) := by decide +kernel
theorem dX5_burstLoad_0 : decode cX5_burstLoad 0 = .ok (.iconst 0, 1) := by decide +kernel
theorem dX5_burstLoad_1 : decode cX5_burstLoad 1 = .ok (.aload_n 0, 1) := by decide +kernel
theorem dX5_burstLoad_2 : decode cX5_burstLoad 2 = .ok (.getfield 9, 3) := by decide +kernel
theorem dX5_burstLoad_5 : decode cX5_burstLoad 5 = .ok (.iconst 1, 1) := by decide +kernel
theorem dX5_burstLoad_6 : decode cX5_burstLoad 6 = .ok (.iaload, 1) := by decide +kernel
theorem dX5_burstLoad_7 : decode cX5_burstLoad 7 = .ok (.aload_n 0, 1) := by decide +kernel
theorem dX5_burstLoad_8 : decode cX5_burstLoad 8 = .ok (.getfield 9, 3) := by decide +kernel
theorem dX5_burstLoad_11 : decode cX5_burstLoad 11 = .ok (.iconst 2, 1) := by decide +kernel
theorem dX5_burstLoad_12 : decode cX5_burstLoad 12 = .ok (.iaload, 1) := by decide +kernel
theorem dX5_burstLoad_13 : decode cX5_burstLoad 13 = .ok (.iload_n 1, 1) := by decide +kernel
theorem dX5_burstLoad_14 : decode cX5_burstLoad 14 = .ok (.imul, 1) := by decide +kernel
theorem dX5_burstLoad_15 : decode cX5_burstLoad 15 = .ok (.isub, 1) := by decide +kernel
theorem dX5_burstLoad_16 : decode cX5_burstLoad 16 = .ok (.invokestatic 44, 3) := by decide +kernel
theorem dX5_burstLoad_19 : decode cX5_burstLoad 19 = .ok (.ireturn, 1) := by decide +kernel
theorem dX5_crushLoad_0 : decode cX5_crushLoad 0 = .ok (.aload_n 0, 1) := by decide +kernel
theorem dX5_crushLoad_1 : decode cX5_crushLoad 1 = .ok (.getfield 9, 3) := by decide +kernel
theorem dX5_crushLoad_4 : decode cX5_crushLoad 4 = .ok (.iconst 0, 1) := by decide +kernel
theorem dX5_crushLoad_5 : decode cX5_crushLoad 5 = .ok (.iaload, 1) := by decide +kernel
theorem dX5_crushLoad_6 : decode cX5_crushLoad 6 = .ok (.iload_n 1, 1) := by decide +kernel
theorem dX5_crushLoad_7 : decode cX5_crushLoad 7 = .ok (.iconst 1, 1) := by decide +kernel
theorem dX5_crushLoad_8 : decode cX5_crushLoad 8 = .ok (.iadd, 1) := by decide +kernel
theorem dX5_crushLoad_9 : decode cX5_crushLoad 9 = .ok (.imul, 1) := by decide +kernel
theorem dX5_crushLoad_10 : decode cX5_crushLoad 10 = .ok (.ireturn, 1) := by decide +kernel
theorem dX5_pullLoad_0 : decode cX5_pullLoad 0 = .ok (.aload_n 0, 1) := by decide +kernel
theorem dX5_pullLoad_1 : decode cX5_pullLoad 1 = .ok (.getfield 21, 3) := by decide +kernel
theorem dX5_pullLoad_4 : decode cX5_pullLoad 4 = .ok (.iload_n 1, 1) := by decide +kernel
theorem dX5_pullLoad_5 : decode cX5_pullLoad 5 = .ok (.iaload, 1) := by decide +kernel
theorem dX5_pullLoad_6 : decode cX5_pullLoad 6 = .ok (.iconst (-1), 1) := by decide +kernel
theorem dX5_pullLoad_7 : decode cX5_pullLoad 7 = .ok (.if_icmp .ne 5, 3) := by decide +kernel
theorem dX5_pullLoad_10 : decode cX5_pullLoad 10 = .ok (.iconst 0, 1) := by decide +kernel
theorem dX5_pullLoad_11 : decode cX5_pullLoad 11 = .ok (.ireturn, 1) := by decide +kernel
theorem dX5_pullLoad_12 : decode cX5_pullLoad 12 = .ok (.iconst 0, 1) := by decide +kernel
theorem dX5_pullLoad_13 : decode cX5_pullLoad 13 = .ok (.istore_n 2, 1) := by decide +kernel
theorem dX5_pullLoad_14 : decode cX5_pullLoad 14 = .ok (.iload_n 1, 1) := by decide +kernel
theorem dX5_pullLoad_15 : decode cX5_pullLoad 15 = .ok (.istore_n 3, 1) := by decide +kernel
theorem dX5_pullLoad_16 : decode cX5_pullLoad 16 = .ok (.iload_n 3, 1) := by decide +kernel
theorem dX5_pullLoad_17 : decode cX5_pullLoad 17 = .ok (.aload_n 0, 1) := by decide +kernel
theorem dX5_pullLoad_18 : decode cX5_pullLoad 18 = .ok (.getfield 24, 3) := by decide +kernel
theorem dX5_pullLoad_21 : decode cX5_pullLoad 21 = .ok (.if_icmp .ge 18, 3) := by decide +kernel
theorem dX5_pullLoad_24 : decode cX5_pullLoad 24 = .ok (.iload_n 2, 1) := by decide +kernel
theorem dX5_pullLoad_25 : decode cX5_pullLoad 25 = .ok (.aload_n 0, 1) := by decide +kernel
theorem dX5_pullLoad_26 : decode cX5_pullLoad 26 = .ok (.iload_n 3, 1) := by decide +kernel
theorem dX5_pullLoad_27 : decode cX5_pullLoad 27 = .ok (.iconst 3, 1) := by decide +kernel
theorem dX5_pullLoad_28 : decode cX5_pullLoad 28 = .ok (.invokevirtual 41, 3) := by decide +kernel
theorem dX5_pullLoad_31 : decode cX5_pullLoad 31 = .ok (.iadd, 1) := by decide +kernel
theorem dX5_pullLoad_32 : decode cX5_pullLoad 32 = .ok (.istore_n 2, 1) := by decide +kernel
theorem dX5_pullLoad_33 : decode cX5_pullLoad 33 = .ok (.iinc 3 1, 3) := by decide +kernel
theorem dX5_pullLoad_36 : decode cX5_pullLoad 36 = .ok (.goto (-20), 3) := by decide +kernel
theorem dX5_pullLoad_39 : decode cX5_pullLoad 39 = .ok (.iload_n 2, 1) := by decide +kernel
theorem dX5_pullLoad_40 : decode cX5_pullLoad 40 = .ok (.ireturn, 1) := by decide +kernel
theorem dX5_burstBorne_0 : decode cX5_burstBorne 0 = .ok (.aload_n 0, 1) := by decide +kernel
theorem dX5_burstBorne_1 : decode cX5_burstBorne 1 = .ok (.iload_n 1, 1) := by decide +kernel
theorem dX5_burstBorne_2 : decode cX5_burstBorne 2 = .ok (.iconst 0, 1) := by decide +kernel
theorem dX5_burstBorne_3 : decode cX5_burstBorne 3 = .ok (.invokevirtual 37, 3) := by decide +kernel
theorem dX5_burstBorne_6 : decode cX5_burstBorne 6 = .ok (.istore_n 2, 1) := by decide +kernel
theorem dX5_burstBorne_7 : decode cX5_burstBorne 7 = .ok (.aload_n 0, 1) := by decide +kernel
theorem dX5_burstBorne_8 : decode cX5_burstBorne 8 = .ok (.getfield 15, 3) := by decide +kernel
theorem dX5_burstBorne_11 : decode cX5_burstBorne 11 = .ok (.iload_n 1, 1) := by decide +kernel
theorem dX5_burstBorne_12 : decode cX5_burstBorne 12 = .ok (.iaload, 1) := by decide +kernel
theorem dX5_burstBorne_13 : decode cX5_burstBorne 13 = .ok (.iconst 5, 1) := by decide +kernel
theorem dX5_burstBorne_14 : decode cX5_burstBorne 14 = .ok (.if_icmp .ne 10, 3) := by decide +kernel
theorem dX5_burstBorne_17 : decode cX5_burstBorne 17 = .ok (.iload_n 2, 1) := by decide +kernel
theorem dX5_burstBorne_18 : decode cX5_burstBorne 18 = .ok (.bipush 10, 2) := by decide +kernel
theorem dX5_burstBorne_20 : decode cX5_burstBorne 20 = .ok (.iadd, 1) := by decide +kernel
theorem dX5_burstBorne_21 : decode cX5_burstBorne 21 = .ok (.goto 4, 3) := by decide +kernel
theorem dX5_burstBorne_24 : decode cX5_burstBorne 24 = .ok (.iload_n 2, 1) := by decide +kernel
theorem dX5_burstBorne_25 : decode cX5_burstBorne 25 = .ok (.ireturn, 1) := by decide +kernel
theorem dX5_pullBorne_0 : decode cX5_pullBorne 0 = .ok (.aload_n 0, 1) := by decide +kernel
theorem dX5_pullBorne_1 : decode cX5_pullBorne 1 = .ok (.iload_n 1, 1) := by decide +kernel
theorem dX5_pullBorne_2 : decode cX5_pullBorne 2 = .ok (.iconst 2, 1) := by decide +kernel
theorem dX5_pullBorne_3 : decode cX5_pullBorne 3 = .ok (.invokevirtual 37, 3) := by decide +kernel
theorem dX5_pullBorne_6 : decode cX5_pullBorne 6 = .ok (.istore_n 2, 1) := by decide +kernel
theorem dX5_pullBorne_7 : decode cX5_pullBorne 7 = .ok (.aload_n 0, 1) := by decide +kernel
theorem dX5_pullBorne_8 : decode cX5_pullBorne 8 = .ok (.getfield 15, 3) := by decide +kernel
theorem dX5_pullBorne_11 : decode cX5_pullBorne 11 = .ok (.iload_n 1, 1) := by decide +kernel
theorem dX5_pullBorne_12 : decode cX5_pullBorne 12 = .ok (.iaload, 1) := by decide +kernel
theorem dX5_pullBorne_13 : decode cX5_pullBorne 13 = .ok (.iconst 3, 1) := by decide +kernel
theorem dX5_pullBorne_14 : decode cX5_pullBorne 14 = .ok (.if_icmp .ne 11, 3) := by decide +kernel
theorem dX5_pullBorne_17 : decode cX5_pullBorne 17 = .ok (.iload_n 2, 1) := by decide +kernel
theorem dX5_pullBorne_18 : decode cX5_pullBorne 18 = .ok (.iconst 1, 1) := by decide +kernel
theorem dX5_pullBorne_19 : decode cX5_pullBorne 19 = .ok (.iadd, 1) := by decide +kernel
theorem dX5_pullBorne_20 : decode cX5_pullBorne 20 = .ok (.iconst 2, 1) := by decide +kernel
theorem dX5_pullBorne_21 : decode cX5_pullBorne 21 = .ok (.idiv, 1) := by decide +kernel
theorem dX5_pullBorne_22 : decode cX5_pullBorne 22 = .ok (.goto 4, 3) := by decide +kernel
theorem dX5_pullBorne_25 : decode cX5_pullBorne 25 = .ok (.iload_n 2, 1) := by decide +kernel
theorem dX5_pullBorne_26 : decode cX5_pullBorne 26 = .ok (.ireturn, 1) := by decide +kernel
theorem dX5_crushBorne_0 : decode cX5_crushBorne 0 = .ok (.aload_n 0, 1) := by decide +kernel
theorem dX5_crushBorne_1 : decode cX5_crushBorne 1 = .ok (.iload_n 1, 1) := by decide +kernel
theorem dX5_crushBorne_2 : decode cX5_crushBorne 2 = .ok (.iconst 1, 1) := by decide +kernel
theorem dX5_crushBorne_3 : decode cX5_crushBorne 3 = .ok (.invokevirtual 37, 3) := by decide +kernel
theorem dX5_crushBorne_6 : decode cX5_crushBorne 6 = .ok (.istore_n 3, 1) := by decide +kernel
theorem dX5_crushBorne_7 : decode cX5_crushBorne 7 = .ok (.aload_n 0, 1) := by decide +kernel
theorem dX5_crushBorne_8 : decode cX5_crushBorne 8 = .ok (.getfield 15, 3) := by decide +kernel
theorem dX5_crushBorne_11 : decode cX5_crushBorne 11 = .ok (.iload_n 1, 1) := by decide +kernel
theorem dX5_crushBorne_12 : decode cX5_crushBorne 12 = .ok (.iaload, 1) := by decide +kernel
theorem dX5_crushBorne_13 : decode cX5_crushBorne 13 = .ok (.iconst 4, 1) := by decide +kernel
theorem dX5_crushBorne_14 : decode cX5_crushBorne 14 = .ok (.if_icmp .eq 13, 3) := by decide +kernel
theorem dX5_crushBorne_17 : decode cX5_crushBorne 17 = .ok (.aload_n 0, 1) := by decide +kernel
theorem dX5_crushBorne_18 : decode cX5_crushBorne 18 = .ok (.getfield 15, 3) := by decide +kernel
theorem dX5_crushBorne_21 : decode cX5_crushBorne 21 = .ok (.iload_n 1, 1) := by decide +kernel
theorem dX5_crushBorne_22 : decode cX5_crushBorne 22 = .ok (.iaload, 1) := by decide +kernel
theorem dX5_crushBorne_23 : decode cX5_crushBorne 23 = .ok (.iconst 5, 1) := by decide +kernel
theorem dX5_crushBorne_24 : decode cX5_crushBorne 24 = .ok (.if_icmp .ne 5, 3) := by decide +kernel
theorem dX5_crushBorne_27 : decode cX5_crushBorne 27 = .ok (.iload_n 3, 1) := by decide +kernel
theorem dX5_crushBorne_28 : decode cX5_crushBorne 28 = .ok (.ireturn, 1) := by decide +kernel
theorem dX5_crushBorne_29 : decode cX5_crushBorne 29 = .ok (.iload_n 2, 1) := by decide +kernel
theorem dX5_crushBorne_30 : decode cX5_crushBorne 30 = .ok (.aload_n 0, 1) := by decide +kernel
theorem dX5_crushBorne_31 : decode cX5_crushBorne 31 = .ok (.iload_n 1, 1) := by decide +kernel
theorem dX5_crushBorne_32 : decode cX5_crushBorne 32 = .ok (.invokevirtual 49, 3) := by decide +kernel
theorem dX5_crushBorne_35 : decode cX5_crushBorne 35 = .ok (.invokestatic 53, 3) := by decide +kernel
theorem dX5_crushBorne_38 : decode cX5_crushBorne 38 = .ok (.istore 4, 2) := by decide +kernel
theorem dX5_crushBorne_40 : decode cX5_crushBorne 40 = .ok (.iload_n 3, 1) := by decide +kernel
theorem dX5_crushBorne_41 : decode cX5_crushBorne 41 = .ok (.bipush 10, 2) := by decide +kernel
theorem dX5_crushBorne_43 : decode cX5_crushBorne 43 = .ok (.aload_n 0, 1) := by decide +kernel
theorem dX5_crushBorne_44 : decode cX5_crushBorne 44 = .ok (.getfield 15, 3) := by decide +kernel
theorem dX5_crushBorne_47 : decode cX5_crushBorne 47 = .ok (.iload_n 1, 1) := by decide +kernel
theorem dX5_crushBorne_48 : decode cX5_crushBorne 48 = .ok (.iaload, 1) := by decide +kernel
theorem dX5_crushBorne_49 : decode cX5_crushBorne 49 = .ok (.iconst 2, 1) := by decide +kernel
theorem dX5_crushBorne_50 : decode cX5_crushBorne 50 = .ok (.if_icmp .ne 10, 3) := by decide +kernel
theorem dX5_crushBorne_53 : decode cX5_crushBorne 53 = .ok (.iload 4, 2) := by decide +kernel
theorem dX5_crushBorne_55 : decode cX5_crushBorne 55 = .ok (.iconst 2, 1) := by decide +kernel
theorem dX5_crushBorne_56 : decode cX5_crushBorne 56 = .ok (.idiv, 1) := by decide +kernel
theorem dX5_crushBorne_57 : decode cX5_crushBorne 57 = .ok (.goto 5, 3) := by decide +kernel
theorem dX5_crushBorne_60 : decode cX5_crushBorne 60 = .ok (.iload 4, 2) := by decide +kernel
theorem dX5_crushBorne_62 : decode cX5_crushBorne 62 = .ok (.isub, 1) := by decide +kernel
theorem dX5_crushBorne_63 : decode cX5_crushBorne 63 = .ok (.imul, 1) := by decide +kernel
theorem dX5_crushBorne_64 : decode cX5_crushBorne 64 = .ok (.bipush 10, 2) := by decide +kernel
theorem dX5_crushBorne_66 : decode cX5_crushBorne 66 = .ok (.idiv, 1) := by decide +kernel
theorem dX5_crushBorne_67 : decode cX5_crushBorne 67 = .ok (.ireturn, 1) := by decide +kernel
theorem dX5_dent_0 : decode cX5_dent 0 = .ok (.iload_n 1, 1) := by decide +kernel
theorem dX5_dent_1 : decode cX5_dent 1 = .ok (.iconst 1, 1) := by decide +kernel
theorem dX5_dent_2 : decode cX5_dent 2 = .ok (.if_icmp .ge 8, 3) := by decide +kernel
theorem dX5_dent_5 : decode cX5_dent 5 = .ok (.bipush 10, 2) := by decide +kernel
theorem dX5_dent_7 : decode cX5_dent 7 = .ok (.goto 14, 3) := by decide +kernel
theorem dX5_dent_10 : decode cX5_dent 10 = .ok (.bipush 10, 2) := by decide +kernel
theorem dX5_dent_12 : decode cX5_dent 12 = .ok (.bipush 10, 2) := by decide +kernel
theorem dX5_dent_14 : decode cX5_dent 14 = .ok (.iload_n 0, 1) := by decide +kernel
theorem dX5_dent_15 : decode cX5_dent 15 = .ok (.imul, 1) := by decide +kernel
theorem dX5_dent_16 : decode cX5_dent 16 = .ok (.iload_n 1, 1) := by decide +kernel
theorem dX5_dent_17 : decode cX5_dent 17 = .ok (.idiv, 1) := by decide +kernel
theorem dX5_dent_18 : decode cX5_dent 18 = .ok (.invokestatic 56, 3) := by decide +kernel
theorem dX5_dent_21 : decode cX5_dent 21 = .ok (.ireturn, 1) := by decide +kernel
theorem dX5_wouldHold_0 : decode cX5_wouldHold 0 = .ok (.aload_n 0, 1) := by decide +kernel
theorem dX5_wouldHold_1 : decode cX5_wouldHold 1 = .ok (.iload_n 2, 1) := by decide +kernel
theorem dX5_wouldHold_2 : decode cX5_wouldHold 2 = .ok (.invokevirtual 59, 3) := by decide +kernel
theorem dX5_wouldHold_5 : decode cX5_wouldHold 5 = .ok (.aload_n 0, 1) := by decide +kernel
theorem dX5_wouldHold_6 : decode cX5_wouldHold 6 = .ok (.iload_n 1, 1) := by decide +kernel
theorem dX5_wouldHold_7 : decode cX5_wouldHold 7 = .ok (.invokevirtual 62, 3) := by decide +kernel
theorem dX5_wouldHold_10 : decode cX5_wouldHold 10 = .ok (.if_icmp .lt 30, 3) := by decide +kernel
theorem dX5_wouldHold_13 : decode cX5_wouldHold 13 = .ok (.aload_n 0, 1) := by decide +kernel
theorem dX5_wouldHold_14 : decode cX5_wouldHold 14 = .ok (.iload_n 2, 1) := by decide +kernel
theorem dX5_wouldHold_15 : decode cX5_wouldHold 15 = .ok (.invokevirtual 49, 3) := by decide +kernel
theorem dX5_wouldHold_18 : decode cX5_wouldHold 18 = .ok (.iload_n 3, 1) := by decide +kernel
theorem dX5_wouldHold_19 : decode cX5_wouldHold 19 = .ok (.if_icmp .lt 21, 3) := by decide +kernel
theorem dX5_wouldHold_22 : decode cX5_wouldHold 22 = .ok (.aload_n 0, 1) := by decide +kernel
theorem dX5_wouldHold_23 : decode cX5_wouldHold 23 = .ok (.iload_n 2, 1) := by decide +kernel
theorem dX5_wouldHold_24 : decode cX5_wouldHold 24 = .ok (.iload_n 3, 1) := by decide +kernel
theorem dX5_wouldHold_25 : decode cX5_wouldHold 25 = .ok (.invokevirtual 65, 3) := by decide +kernel
theorem dX5_wouldHold_28 : decode cX5_wouldHold 28 = .ok (.aload_n 0, 1) := by decide +kernel
theorem dX5_wouldHold_29 : decode cX5_wouldHold 29 = .ok (.iload_n 1, 1) := by decide +kernel
theorem dX5_wouldHold_30 : decode cX5_wouldHold 30 = .ok (.invokevirtual 68, 3) := by decide +kernel
theorem dX5_wouldHold_33 : decode cX5_wouldHold 33 = .ok (.if_icmp .lt 7, 3) := by decide +kernel
theorem dX5_wouldHold_36 : decode cX5_wouldHold 36 = .ok (.iconst 1, 1) := by decide +kernel
theorem dX5_wouldHold_37 : decode cX5_wouldHold 37 = .ok (.goto 4, 3) := by decide +kernel
theorem dX5_wouldHold_40 : decode cX5_wouldHold 40 = .ok (.iconst 0, 1) := by decide +kernel
theorem dX5_wouldHold_41 : decode cX5_wouldHold 41 = .ok (.ireturn, 1) := by decide +kernel
theorem dX5_holds_0 : decode cX5_holds 0 = .ok (.aload_n 0, 1) := by decide +kernel
theorem dX5_holds_1 : decode cX5_holds 1 = .ok (.getfield 21, 3) := by decide +kernel
theorem dX5_holds_4 : decode cX5_holds 4 = .ok (.iload_n 1, 1) := by decide +kernel
theorem dX5_holds_5 : decode cX5_holds 5 = .ok (.iaload, 1) := by decide +kernel
theorem dX5_holds_6 : decode cX5_holds 6 = .ok (.iconst (-1), 1) := by decide +kernel
theorem dX5_holds_7 : decode cX5_holds 7 = .ok (.if_icmp .eq 26, 3) := by decide +kernel
theorem dX5_holds_10 : decode cX5_holds 10 = .ok (.aload_n 0, 1) := by decide +kernel
theorem dX5_holds_11 : decode cX5_holds 11 = .ok (.iload_n 1, 1) := by decide +kernel
theorem dX5_holds_12 : decode cX5_holds 12 = .ok (.aload_n 0, 1) := by decide +kernel
theorem dX5_holds_13 : decode cX5_holds 13 = .ok (.getfield 21, 3) := by decide +kernel
theorem dX5_holds_16 : decode cX5_holds 16 = .ok (.iload_n 1, 1) := by decide +kernel
theorem dX5_holds_17 : decode cX5_holds 17 = .ok (.iaload, 1) := by decide +kernel
theorem dX5_holds_18 : decode cX5_holds 18 = .ok (.aload_n 0, 1) := by decide +kernel
theorem dX5_holds_19 : decode cX5_holds 19 = .ok (.iload_n 1, 1) := by decide +kernel
theorem dX5_holds_20 : decode cX5_holds 20 = .ok (.invokevirtual 71, 3) := by decide +kernel
theorem dX5_holds_23 : decode cX5_holds 23 = .ok (.invokevirtual 74, 3) := by decide +kernel
theorem dX5_holds_26 : decode cX5_holds 26 = .ok (.ifCond .eq 7, 3) := by decide +kernel
theorem dX5_holds_29 : decode cX5_holds 29 = .ok (.iconst 1, 1) := by decide +kernel
theorem dX5_holds_30 : decode cX5_holds 30 = .ok (.goto 4, 3) := by decide +kernel
theorem dX5_holds_33 : decode cX5_holds 33 = .ok (.iconst 0, 1) := by decide +kernel
theorem dX5_holds_34 : decode cX5_holds 34 = .ok (.ireturn, 1) := by decide +kernel
theorem dX5_holdsFlawed_0 : decode cX5_holdsFlawed 0 = .ok (.aload_n 0, 1) := by decide +kernel
theorem dX5_holdsFlawed_1 : decode cX5_holdsFlawed 1 = .ok (.iload_n 1, 1) := by decide +kernel
theorem dX5_holdsFlawed_2 : decode cX5_holdsFlawed 2 = .ok (.invokevirtual 78, 3) := by decide +kernel
theorem dX5_holdsFlawed_5 : decode cX5_holdsFlawed 5 = .ok (.ifCond .eq 27, 3) := by decide +kernel
theorem dX5_holdsFlawed_8 : decode cX5_holdsFlawed 8 = .ok (.aload_n 0, 1) := by decide +kernel
theorem dX5_holdsFlawed_9 : decode cX5_holdsFlawed 9 = .ok (.aload_n 0, 1) := by decide +kernel
theorem dX5_holdsFlawed_10 : decode cX5_holdsFlawed 10 = .ok (.getfield 21, 3) := by decide +kernel
theorem dX5_holdsFlawed_13 : decode cX5_holdsFlawed 13 = .ok (.iload_n 1, 1) := by decide +kernel
theorem dX5_holdsFlawed_14 : decode cX5_holdsFlawed 14 = .ok (.iaload, 1) := by decide +kernel
theorem dX5_holdsFlawed_15 : decode cX5_holdsFlawed 15 = .ok (.invokevirtual 59, 3) := by decide +kernel
theorem dX5_holdsFlawed_18 : decode cX5_holdsFlawed 18 = .ok (.iconst 2, 1) := by decide +kernel
theorem dX5_holdsFlawed_19 : decode cX5_holdsFlawed 19 = .ok (.idiv, 1) := by decide +kernel
theorem dX5_holdsFlawed_20 : decode cX5_holdsFlawed 20 = .ok (.aload_n 0, 1) := by decide +kernel
theorem dX5_holdsFlawed_21 : decode cX5_holdsFlawed 21 = .ok (.iload_n 1, 1) := by decide +kernel
theorem dX5_holdsFlawed_22 : decode cX5_holdsFlawed 22 = .ok (.invokevirtual 62, 3) := by decide +kernel
theorem dX5_holdsFlawed_25 : decode cX5_holdsFlawed 25 = .ok (.if_icmp .lt 7, 3) := by decide +kernel
theorem dX5_holdsFlawed_28 : decode cX5_holdsFlawed 28 = .ok (.iconst 1, 1) := by decide +kernel
theorem dX5_holdsFlawed_29 : decode cX5_holdsFlawed 29 = .ok (.goto 4, 3) := by decide +kernel
theorem dX5_holdsFlawed_32 : decode cX5_holdsFlawed 32 = .ok (.iconst 0, 1) := by decide +kernel
theorem dX5_holdsFlawed_33 : decode cX5_holdsFlawed 33 = .ok (.ireturn, 1) := by decide +kernel
theorem dX5_howManyHold_0 : decode cX5_howManyHold 0 = .ok (.iconst 0, 1) := by decide +kernel
theorem dX5_howManyHold_1 : decode cX5_howManyHold 1 = .ok (.istore_n 1, 1) := by decide +kernel
theorem dX5_howManyHold_2 : decode cX5_howManyHold 2 = .ok (.iconst 0, 1) := by decide +kernel
theorem dX5_howManyHold_3 : decode cX5_howManyHold 3 = .ok (.istore_n 2, 1) := by decide +kernel
theorem dX5_howManyHold_4 : decode cX5_howManyHold 4 = .ok (.iload_n 2, 1) := by decide +kernel
theorem dX5_howManyHold_5 : decode cX5_howManyHold 5 = .ok (.aload_n 0, 1) := by decide +kernel
theorem dX5_howManyHold_6 : decode cX5_howManyHold 6 = .ok (.getfield 24, 3) := by decide +kernel
theorem dX5_howManyHold_9 : decode cX5_howManyHold 9 = .ok (.if_icmp .ge 20, 3) := by decide +kernel
theorem dX5_howManyHold_12 : decode cX5_howManyHold 12 = .ok (.aload_n 0, 1) := by decide +kernel
theorem dX5_howManyHold_13 : decode cX5_howManyHold 13 = .ok (.iload_n 2, 1) := by decide +kernel
theorem dX5_howManyHold_14 : decode cX5_howManyHold 14 = .ok (.invokevirtual 78, 3) := by decide +kernel
theorem dX5_howManyHold_17 : decode cX5_howManyHold 17 = .ok (.ifCond .eq 6, 3) := by decide +kernel
theorem dX5_howManyHold_20 : decode cX5_howManyHold 20 = .ok (.iinc 1 1, 3) := by decide +kernel
theorem dX5_howManyHold_23 : decode cX5_howManyHold 23 = .ok (.iinc 2 1, 3) := by decide +kernel
theorem dX5_howManyHold_26 : decode cX5_howManyHold 26 = .ok (.goto (-22), 3) := by decide +kernel
theorem dX5_howManyHold_29 : decode cX5_howManyHold 29 = .ok (.iload_n 1, 1) := by decide +kernel
theorem dX5_howManyHold_30 : decode cX5_howManyHold 30 = .ok (.ireturn, 1) := by decide +kernel
theorem dX5_firstThatFails_0 : decode cX5_firstThatFails 0 = .ok (.iconst 0, 1) := by decide +kernel
theorem dX5_firstThatFails_1 : decode cX5_firstThatFails 1 = .ok (.istore_n 1, 1) := by decide +kernel
theorem dX5_firstThatFails_2 : decode cX5_firstThatFails 2 = .ok (.iload_n 1, 1) := by decide +kernel
theorem dX5_firstThatFails_3 : decode cX5_firstThatFails 3 = .ok (.aload_n 0, 1) := by decide +kernel
theorem dX5_firstThatFails_4 : decode cX5_firstThatFails 4 = .ok (.getfield 24, 3) := by decide +kernel
theorem dX5_firstThatFails_7 : decode cX5_firstThatFails 7 = .ok (.if_icmp .ge 19, 3) := by decide +kernel
theorem dX5_firstThatFails_10 : decode cX5_firstThatFails 10 = .ok (.aload_n 0, 1) := by decide +kernel
theorem dX5_firstThatFails_11 : decode cX5_firstThatFails 11 = .ok (.iload_n 1, 1) := by decide +kernel
theorem dX5_firstThatFails_12 : decode cX5_firstThatFails 12 = .ok (.invokevirtual 78, 3) := by decide +kernel
theorem dX5_firstThatFails_15 : decode cX5_firstThatFails 15 = .ok (.ifCond .ne 5, 3) := by decide +kernel
theorem dX5_firstThatFails_18 : decode cX5_firstThatFails 18 = .ok (.iload_n 1, 1) := by decide +kernel
theorem dX5_firstThatFails_19 : decode cX5_firstThatFails 19 = .ok (.ireturn, 1) := by decide +kernel
theorem dX5_firstThatFails_20 : decode cX5_firstThatFails 20 = .ok (.iinc 1 1, 3) := by decide +kernel
theorem dX5_firstThatFails_23 : decode cX5_firstThatFails 23 = .ok (.goto (-21), 3) := by decide +kernel
theorem dX5_firstThatFails_26 : decode cX5_firstThatFails 26 = .ok (.ldc 82, 2) := by decide +kernel
theorem dX5_firstThatFails_28 : decode cX5_firstThatFails 28 = .ok (.ireturn, 1) := by decide +kernel
theorem dX5_isSound_0 : decode cX5_isSound 0 = .ok (.aload_n 0, 1) := by decide +kernel
theorem dX5_isSound_1 : decode cX5_isSound 1 = .ok (.invokevirtual 83, 3) := by decide +kernel
theorem dX5_isSound_4 : decode cX5_isSound 4 = .ok (.ldc 82, 2) := by decide +kernel
theorem dX5_isSound_6 : decode cX5_isSound 6 = .ok (.if_icmp .eq 5, 3) := by decide +kernel
theorem dX5_isSound_9 : decode cX5_isSound 9 = .ok (.iconst 0, 1) := by decide +kernel
theorem dX5_isSound_10 : decode cX5_isSound 10 = .ok (.ireturn, 1) := by decide +kernel
theorem dX5_isSound_11 : decode cX5_isSound 11 = .ok (.iconst 0, 1) := by decide +kernel
theorem dX5_isSound_12 : decode cX5_isSound 12 = .ok (.istore_n 1, 1) := by decide +kernel
theorem dX5_isSound_13 : decode cX5_isSound 13 = .ok (.iload_n 1, 1) := by decide +kernel
theorem dX5_isSound_14 : decode cX5_isSound 14 = .ok (.aload_n 0, 1) := by decide +kernel
theorem dX5_isSound_15 : decode cX5_isSound 15 = .ok (.getfield 24, 3) := by decide +kernel
theorem dX5_isSound_18 : decode cX5_isSound 18 = .ok (.if_icmp .ge 25, 3) := by decide +kernel
theorem dX5_isSound_21 : decode cX5_isSound 21 = .ok (.aload_n 0, 1) := by decide +kernel
theorem dX5_isSound_22 : decode cX5_isSound 22 = .ok (.iload_n 1, 1) := by decide +kernel
theorem dX5_isSound_23 : decode cX5_isSound 23 = .ok (.invokevirtual 87, 3) := by decide +kernel
theorem dX5_isSound_26 : decode cX5_isSound 26 = .ok (.aload_n 0, 1) := by decide +kernel
theorem dX5_isSound_27 : decode cX5_isSound 27 = .ok (.getfield 9, 3) := by decide +kernel
theorem dX5_isSound_30 : decode cX5_isSound 30 = .ok (.iconst 3, 1) := by decide +kernel
theorem dX5_isSound_31 : decode cX5_isSound 31 = .ok (.iaload, 1) := by decide +kernel
theorem dX5_isSound_32 : decode cX5_isSound 32 = .ok (.if_icmp .ge 5, 3) := by decide +kernel
theorem dX5_isSound_35 : decode cX5_isSound 35 = .ok (.iconst 0, 1) := by decide +kernel
theorem dX5_isSound_36 : decode cX5_isSound 36 = .ok (.ireturn, 1) := by decide +kernel
theorem dX5_isSound_37 : decode cX5_isSound 37 = .ok (.iinc 1 1, 3) := by decide +kernel
theorem dX5_isSound_40 : decode cX5_isSound 40 = .ok (.goto (-27), 3) := by decide +kernel
theorem dX5_isSound_43 : decode cX5_isSound 43 = .ok (.iconst 1, 1) := by decide +kernel
theorem dX5_isSound_44 : decode cX5_isSound 44 = .ok (.ireturn, 1) := by decide +kernel
theorem dX5_sectionLength_0 : decode cX5_sectionLength 0 = .ok (.aload_n 0, 1) := by decide +kernel
theorem dX5_sectionLength_1 : decode cX5_sectionLength 1 = .ok (.getfield 21, 3) := by decide +kernel
theorem dX5_sectionLength_4 : decode cX5_sectionLength 4 = .ok (.iload_n 1, 1) := by decide +kernel
theorem dX5_sectionLength_5 : decode cX5_sectionLength 5 = .ok (.iaload, 1) := by decide +kernel
theorem dX5_sectionLength_6 : decode cX5_sectionLength 6 = .ok (.iconst (-1), 1) := by decide +kernel
theorem dX5_sectionLength_7 : decode cX5_sectionLength 7 = .ok (.if_icmp .ne 5, 3) := by decide +kernel
theorem dX5_sectionLength_10 : decode cX5_sectionLength 10 = .ok (.iconst 0, 1) := by decide +kernel
theorem dX5_sectionLength_11 : decode cX5_sectionLength 11 = .ok (.ireturn, 1) := by decide +kernel
theorem dX5_sectionLength_12 : decode cX5_sectionLength 12 = .ok (.iload_n 1, 1) := by decide +kernel
theorem dX5_sectionLength_13 : decode cX5_sectionLength 13 = .ok (.istore_n 2, 1) := by decide +kernel
theorem dX5_sectionLength_14 : decode cX5_sectionLength 14 = .ok (.iload_n 2, 1) := by decide +kernel
theorem dX5_sectionLength_15 : decode cX5_sectionLength 15 = .ok (.ifCond .le 26, 3) := by decide +kernel
theorem dX5_sectionLength_18 : decode cX5_sectionLength 18 = .ok (.aload_n 0, 1) := by decide +kernel
theorem dX5_sectionLength_19 : decode cX5_sectionLength 19 = .ok (.getfield 21, 3) := by decide +kernel
theorem dX5_sectionLength_22 : decode cX5_sectionLength 22 = .ok (.iload_n 2, 1) := by decide +kernel
theorem dX5_sectionLength_23 : decode cX5_sectionLength 23 = .ok (.iconst 1, 1) := by decide +kernel
theorem dX5_sectionLength_24 : decode cX5_sectionLength 24 = .ok (.isub, 1) := by decide +kernel
theorem dX5_sectionLength_25 : decode cX5_sectionLength 25 = .ok (.iaload, 1) := by decide +kernel
theorem dX5_sectionLength_26 : decode cX5_sectionLength 26 = .ok (.aload_n 0, 1) := by decide +kernel
theorem dX5_sectionLength_27 : decode cX5_sectionLength 27 = .ok (.getfield 21, 3) := by decide +kernel
theorem dX5_sectionLength_30 : decode cX5_sectionLength 30 = .ok (.iload_n 1, 1) := by decide +kernel
theorem dX5_sectionLength_31 : decode cX5_sectionLength 31 = .ok (.iaload, 1) := by decide +kernel
theorem dX5_sectionLength_32 : decode cX5_sectionLength 32 = .ok (.if_icmp .ne 9, 3) := by decide +kernel
theorem dX5_sectionLength_35 : decode cX5_sectionLength 35 = .ok (.iinc 2 (-1), 3) := by decide +kernel
theorem dX5_sectionLength_38 : decode cX5_sectionLength 38 = .ok (.goto (-24), 3) := by decide +kernel
theorem dX5_sectionLength_41 : decode cX5_sectionLength 41 = .ok (.iload_n 1, 1) := by decide +kernel
theorem dX5_sectionLength_42 : decode cX5_sectionLength 42 = .ok (.iconst 1, 1) := by decide +kernel
theorem dX5_sectionLength_43 : decode cX5_sectionLength 43 = .ok (.iadd, 1) := by decide +kernel
theorem dX5_sectionLength_44 : decode cX5_sectionLength 44 = .ok (.istore_n 3, 1) := by decide +kernel
theorem dX5_sectionLength_45 : decode cX5_sectionLength 45 = .ok (.iload_n 3, 1) := by decide +kernel
theorem dX5_sectionLength_46 : decode cX5_sectionLength 46 = .ok (.aload_n 0, 1) := by decide +kernel
theorem dX5_sectionLength_47 : decode cX5_sectionLength 47 = .ok (.getfield 24, 3) := by decide +kernel
theorem dX5_sectionLength_50 : decode cX5_sectionLength 50 = .ok (.if_icmp .ge 24, 3) := by decide +kernel
theorem dX5_sectionLength_53 : decode cX5_sectionLength 53 = .ok (.aload_n 0, 1) := by decide +kernel
theorem dX5_sectionLength_54 : decode cX5_sectionLength 54 = .ok (.getfield 21, 3) := by decide +kernel
theorem dX5_sectionLength_57 : decode cX5_sectionLength 57 = .ok (.iload_n 3, 1) := by decide +kernel
theorem dX5_sectionLength_58 : decode cX5_sectionLength 58 = .ok (.iaload, 1) := by decide +kernel
theorem dX5_sectionLength_59 : decode cX5_sectionLength 59 = .ok (.aload_n 0, 1) := by decide +kernel
theorem dX5_sectionLength_60 : decode cX5_sectionLength 60 = .ok (.getfield 21, 3) := by decide +kernel
theorem dX5_sectionLength_63 : decode cX5_sectionLength 63 = .ok (.iload_n 1, 1) := by decide +kernel
theorem dX5_sectionLength_64 : decode cX5_sectionLength 64 = .ok (.iaload, 1) := by decide +kernel
theorem dX5_sectionLength_65 : decode cX5_sectionLength 65 = .ok (.if_icmp .ne 9, 3) := by decide +kernel
theorem dX5_sectionLength_68 : decode cX5_sectionLength 68 = .ok (.iinc 3 1, 3) := by decide +kernel
theorem dX5_sectionLength_71 : decode cX5_sectionLength 71 = .ok (.goto (-26), 3) := by decide +kernel
theorem dX5_sectionLength_74 : decode cX5_sectionLength 74 = .ok (.iload_n 3, 1) := by decide +kernel
theorem dX5_sectionLength_75 : decode cX5_sectionLength 75 = .ok (.iload_n 2, 1) := by decide +kernel
theorem dX5_sectionLength_76 : decode cX5_sectionLength 76 = .ok (.isub, 1) := by decide +kernel
theorem dX5_sectionLength_77 : decode cX5_sectionLength 77 = .ok (.ireturn, 1) := by decide +kernel
theorem dX5_howManySections_0 : decode cX5_howManySections 0 = .ok (.iconst 0, 1) := by decide +kernel
theorem dX5_howManySections_1 : decode cX5_howManySections 1 = .ok (.istore_n 1, 1) := by decide +kernel
theorem dX5_howManySections_2 : decode cX5_howManySections 2 = .ok (.iconst 0, 1) := by decide +kernel
theorem dX5_howManySections_3 : decode cX5_howManySections 3 = .ok (.istore_n 2, 1) := by decide +kernel
theorem dX5_howManySections_4 : decode cX5_howManySections 4 = .ok (.iload_n 2, 1) := by decide +kernel
theorem dX5_howManySections_5 : decode cX5_howManySections 5 = .ok (.aload_n 0, 1) := by decide +kernel
theorem dX5_howManySections_6 : decode cX5_howManySections 6 = .ok (.getfield 24, 3) := by decide +kernel
theorem dX5_howManySections_9 : decode cX5_howManySections 9 = .ok (.if_icmp .ge 43, 3) := by decide +kernel
theorem dX5_howManySections_12 : decode cX5_howManySections 12 = .ok (.aload_n 0, 1) := by decide +kernel
theorem dX5_howManySections_13 : decode cX5_howManySections 13 = .ok (.getfield 21, 3) := by decide +kernel
theorem dX5_howManySections_16 : decode cX5_howManySections 16 = .ok (.iload_n 2, 1) := by decide +kernel
theorem dX5_howManySections_17 : decode cX5_howManySections 17 = .ok (.iaload, 1) := by decide +kernel
theorem dX5_howManySections_18 : decode cX5_howManySections 18 = .ok (.iconst (-1), 1) := by decide +kernel
theorem dX5_howManySections_19 : decode cX5_howManySections 19 = .ok (.if_icmp .eq 27, 3) := by decide +kernel
theorem dX5_howManySections_22 : decode cX5_howManySections 22 = .ok (.iload_n 2, 1) := by decide +kernel
theorem dX5_howManySections_23 : decode cX5_howManySections 23 = .ok (.ifCond .eq 20, 3) := by decide +kernel
theorem dX5_howManySections_26 : decode cX5_howManySections 26 = .ok (.aload_n 0, 1) := by decide +kernel
theorem dX5_howManySections_27 : decode cX5_howManySections 27 = .ok (.getfield 21, 3) := by decide +kernel
theorem dX5_howManySections_30 : decode cX5_howManySections 30 = .ok (.iload_n 2, 1) := by decide +kernel
theorem dX5_howManySections_31 : decode cX5_howManySections 31 = .ok (.iconst 1, 1) := by decide +kernel
theorem dX5_howManySections_32 : decode cX5_howManySections 32 = .ok (.isub, 1) := by decide +kernel
theorem dX5_howManySections_33 : decode cX5_howManySections 33 = .ok (.iaload, 1) := by decide +kernel
theorem dX5_howManySections_34 : decode cX5_howManySections 34 = .ok (.aload_n 0, 1) := by decide +kernel
theorem dX5_howManySections_35 : decode cX5_howManySections 35 = .ok (.getfield 21, 3) := by decide +kernel
theorem dX5_howManySections_38 : decode cX5_howManySections 38 = .ok (.iload_n 2, 1) := by decide +kernel
theorem dX5_howManySections_39 : decode cX5_howManySections 39 = .ok (.iaload, 1) := by decide +kernel
theorem dX5_howManySections_40 : decode cX5_howManySections 40 = .ok (.if_icmp .eq 6, 3) := by decide +kernel
theorem dX5_howManySections_43 : decode cX5_howManySections 43 = .ok (.iinc 1 1, 3) := by decide +kernel
theorem dX5_howManySections_46 : decode cX5_howManySections 46 = .ok (.iinc 2 1, 3) := by decide +kernel
theorem dX5_howManySections_49 : decode cX5_howManySections 49 = .ok (.goto (-45), 3) := by decide +kernel
theorem dX5_howManySections_52 : decode cX5_howManySections 52 = .ok (.iload_n 1, 1) := by decide +kernel
theorem dX5_howManySections_53 : decode cX5_howManySections 53 = .ok (.ireturn, 1) := by decide +kernel
theorem dX5_priceOf_0 : decode cX5_priceOf 0 = .ok (.iconst 0, 1) := by decide +kernel
theorem dX5_priceOf_1 : decode cX5_priceOf 1 = .ok (.istore_n 2, 1) := by decide +kernel
theorem dX5_priceOf_2 : decode cX5_priceOf 2 = .ok (.iconst 0, 1) := by decide +kernel
theorem dX5_priceOf_3 : decode cX5_priceOf 3 = .ok (.istore_n 3, 1) := by decide +kernel
theorem dX5_priceOf_4 : decode cX5_priceOf 4 = .ok (.iload_n 3, 1) := by decide +kernel
theorem dX5_priceOf_5 : decode cX5_priceOf 5 = .ok (.aload_n 0, 1) := by decide +kernel
theorem dX5_priceOf_6 : decode cX5_priceOf 6 = .ok (.getfield 24, 3) := by decide +kernel
theorem dX5_priceOf_9 : decode cX5_priceOf 9 = .ok (.if_icmp .ge 45, 3) := by decide +kernel
theorem dX5_priceOf_12 : decode cX5_priceOf 12 = .ok (.iload_n 1, 1) := by decide +kernel
theorem dX5_priceOf_13 : decode cX5_priceOf 13 = .ok (.iload_n 3, 1) := by decide +kernel
theorem dX5_priceOf_14 : decode cX5_priceOf 14 = .ok (.ishr, 1) := by decide +kernel
theorem dX5_priceOf_15 : decode cX5_priceOf 15 = .ok (.iconst 1, 1) := by decide +kernel
theorem dX5_priceOf_16 : decode cX5_priceOf 16 = .ok (.iand, 1) := by decide +kernel
theorem dX5_priceOf_17 : decode cX5_priceOf 17 = .ok (.iconst 1, 1) := by decide +kernel
theorem dX5_priceOf_18 : decode cX5_priceOf 18 = .ok (.if_icmp .ne 30, 3) := by decide +kernel
theorem dX5_priceOf_21 : decode cX5_priceOf 21 = .ok (.aload_n 0, 1) := by decide +kernel
theorem dX5_priceOf_22 : decode cX5_priceOf 22 = .ok (.getfield 21, 3) := by decide +kernel
theorem dX5_priceOf_25 : decode cX5_priceOf 25 = .ok (.iload_n 3, 1) := by decide +kernel
theorem dX5_priceOf_26 : decode cX5_priceOf 26 = .ok (.iaload, 1) := by decide +kernel
theorem dX5_priceOf_27 : decode cX5_priceOf 27 = .ok (.iconst (-1), 1) := by decide +kernel
theorem dX5_priceOf_28 : decode cX5_priceOf 28 = .ok (.if_icmp .ne 6, 3) := by decide +kernel
theorem dX5_priceOf_31 : decode cX5_priceOf 31 = .ok (.ldc 82, 2) := by decide +kernel
theorem dX5_priceOf_33 : decode cX5_priceOf 33 = .ok (.ireturn, 1) := by decide +kernel
theorem dX5_priceOf_34 : decode cX5_priceOf 34 = .ok (.iload_n 2, 1) := by decide +kernel
theorem dX5_priceOf_35 : decode cX5_priceOf 35 = .ok (.aload_n 0, 1) := by decide +kernel
theorem dX5_priceOf_36 : decode cX5_priceOf 36 = .ok (.aload_n 0, 1) := by decide +kernel
theorem dX5_priceOf_37 : decode cX5_priceOf 37 = .ok (.getfield 21, 3) := by decide +kernel
theorem dX5_priceOf_40 : decode cX5_priceOf 40 = .ok (.iload_n 3, 1) := by decide +kernel
theorem dX5_priceOf_41 : decode cX5_priceOf 41 = .ok (.iaload, 1) := by decide +kernel
theorem dX5_priceOf_42 : decode cX5_priceOf 42 = .ok (.iconst 4, 1) := by decide +kernel
theorem dX5_priceOf_43 : decode cX5_priceOf 43 = .ok (.invokevirtual 37, 3) := by decide +kernel
theorem dX5_priceOf_46 : decode cX5_priceOf 46 = .ok (.iadd, 1) := by decide +kernel
theorem dX5_priceOf_47 : decode cX5_priceOf 47 = .ok (.istore_n 2, 1) := by decide +kernel
theorem dX5_priceOf_48 : decode cX5_priceOf 48 = .ok (.iinc 3 1, 3) := by decide +kernel
theorem dX5_priceOf_51 : decode cX5_priceOf 51 = .ok (.goto (-47), 3) := by decide +kernel
theorem dX5_priceOf_54 : decode cX5_priceOf 54 = .ok (.iload_n 2, 1) := by decide +kernel
theorem dX5_priceOf_55 : decode cX5_priceOf 55 = .ok (.ireturn, 1) := by decide +kernel
theorem dX5_changeByDraw_0 : decode cX5_changeByDraw 0 = .ok (.aload_n 0, 1) := by decide +kernel
theorem dX5_changeByDraw_1 : decode cX5_changeByDraw 1 = .ok (.getfield 24, 3) := by decide +kernel
theorem dX5_changeByDraw_4 : decode cX5_changeByDraw 4 = .ok (.iconst 1, 1) := by decide +kernel
theorem dX5_changeByDraw_5 : decode cX5_changeByDraw 5 = .ok (.if_icmp .lt 11, 3) := by decide +kernel
theorem dX5_changeByDraw_8 : decode cX5_changeByDraw 8 = .ok (.aload_n 0, 1) := by decide +kernel
theorem dX5_changeByDraw_9 : decode cX5_changeByDraw 9 = .ok (.getfield 28, 3) := by decide +kernel
theorem dX5_changeByDraw_12 : decode cX5_changeByDraw 12 = .ok (.iconst 1, 1) := by decide +kernel
theorem dX5_changeByDraw_13 : decode cX5_changeByDraw 13 = .ok (.if_icmp .ge 4, 3) := by decide +kernel
theorem dX5_changeByDraw_16 : decode cX5_changeByDraw 16 = .ok (.return_, 1) := by decide +kernel
theorem dX5_changeByDraw_17 : decode cX5_changeByDraw 17 = .ok (.aload_n 0, 1) := by decide +kernel
theorem dX5_changeByDraw_18 : decode cX5_changeByDraw 18 = .ok (.getfield 21, 3) := by decide +kernel
theorem dX5_changeByDraw_21 : decode cX5_changeByDraw 21 = .ok (.iload_n 1, 1) := by decide +kernel
theorem dX5_changeByDraw_22 : decode cX5_changeByDraw 22 = .ok (.aload_n 0, 1) := by decide +kernel
theorem dX5_changeByDraw_23 : decode cX5_changeByDraw 23 = .ok (.getfield 24, 3) := by decide +kernel
theorem dX5_changeByDraw_26 : decode cX5_changeByDraw 26 = .ok (.irem, 1) := by decide +kernel
theorem dX5_changeByDraw_27 : decode cX5_changeByDraw 27 = .ok (.iload_n 1, 1) := by decide +kernel
theorem dX5_changeByDraw_28 : decode cX5_changeByDraw 28 = .ok (.bipush 16, 2) := by decide +kernel
theorem dX5_changeByDraw_30 : decode cX5_changeByDraw 30 = .ok (.idiv, 1) := by decide +kernel
theorem dX5_changeByDraw_31 : decode cX5_changeByDraw 31 = .ok (.aload_n 0, 1) := by decide +kernel
theorem dX5_changeByDraw_32 : decode cX5_changeByDraw 32 = .ok (.getfield 28, 3) := by decide +kernel
theorem dX5_changeByDraw_35 : decode cX5_changeByDraw 35 = .ok (.irem, 1) := by decide +kernel
theorem dX5_changeByDraw_36 : decode cX5_changeByDraw 36 = .ok (.iastore, 1) := by decide +kernel
theorem dX5_changeByDraw_37 : decode cX5_changeByDraw 37 = .ok (.iload_n 1, 1) := by decide +kernel
theorem dX5_changeByDraw_38 : decode cX5_changeByDraw 38 = .ok (.iconst 5, 1) := by decide +kernel
theorem dX5_changeByDraw_39 : decode cX5_changeByDraw 39 = .ok (.irem, 1) := by decide +kernel
theorem dX5_changeByDraw_40 : decode cX5_changeByDraw 40 = .ok (.ifCond .ne 17, 3) := by decide +kernel
theorem dX5_changeByDraw_43 : decode cX5_changeByDraw 43 = .ok (.aload_n 0, 1) := by decide +kernel
theorem dX5_changeByDraw_44 : decode cX5_changeByDraw 44 = .ok (.getfield 9, 3) := by decide +kernel
theorem dX5_changeByDraw_47 : decode cX5_changeByDraw 47 = .ok (.iconst 0, 1) := by decide +kernel
theorem dX5_changeByDraw_48 : decode cX5_changeByDraw 48 = .ok (.iload_n 1, 1) := by decide +kernel
theorem dX5_changeByDraw_49 : decode cX5_changeByDraw 49 = .ok (.sipush 256, 3) := by decide +kernel
theorem dX5_changeByDraw_52 : decode cX5_changeByDraw 52 = .ok (.idiv, 1) := by decide +kernel
theorem dX5_changeByDraw_53 : decode cX5_changeByDraw 53 = .ok (.bipush 21, 2) := by decide +kernel
theorem dX5_changeByDraw_55 : decode cX5_changeByDraw 55 = .ok (.irem, 1) := by decide +kernel
theorem dX5_changeByDraw_56 : decode cX5_changeByDraw 56 = .ok (.iastore, 1) := by decide +kernel
theorem dX5_changeByDraw_57 : decode cX5_changeByDraw 57 = .ok (.return_, 1) := by decide +kernel
theorem dX5_stringCode_0 : decode cX5_stringCode 0 = .ok (.iconst 0, 1) := by decide +kernel
theorem dX5_stringCode_1 : decode cX5_stringCode 1 = .ok (.istore_n 1, 1) := by decide +kernel
theorem dX5_stringCode_2 : decode cX5_stringCode 2 = .ok (.bipush 7, 2) := by decide +kernel
theorem dX5_stringCode_4 : decode cX5_stringCode 4 = .ok (.istore_n 2, 1) := by decide +kernel
theorem dX5_stringCode_5 : decode cX5_stringCode 5 = .ok (.iload_n 2, 1) := by decide +kernel
theorem dX5_stringCode_6 : decode cX5_stringCode 6 = .ok (.ifCond .lt 23, 3) := by decide +kernel
theorem dX5_stringCode_9 : decode cX5_stringCode 9 = .ok (.iload_n 1, 1) := by decide +kernel
theorem dX5_stringCode_10 : decode cX5_stringCode 10 = .ok (.bipush 6, 2) := by decide +kernel
theorem dX5_stringCode_12 : decode cX5_stringCode 12 = .ok (.imul, 1) := by decide +kernel
theorem dX5_stringCode_13 : decode cX5_stringCode 13 = .ok (.aload_n 0, 1) := by decide +kernel
theorem dX5_stringCode_14 : decode cX5_stringCode 14 = .ok (.getfield 21, 3) := by decide +kernel
theorem dX5_stringCode_17 : decode cX5_stringCode 17 = .ok (.iload_n 2, 1) := by decide +kernel
theorem dX5_stringCode_18 : decode cX5_stringCode 18 = .ok (.iaload, 1) := by decide +kernel
theorem dX5_stringCode_19 : decode cX5_stringCode 19 = .ok (.iadd, 1) := by decide +kernel
theorem dX5_stringCode_20 : decode cX5_stringCode 20 = .ok (.iconst 1, 1) := by decide +kernel
theorem dX5_stringCode_21 : decode cX5_stringCode 21 = .ok (.iadd, 1) := by decide +kernel
theorem dX5_stringCode_22 : decode cX5_stringCode 22 = .ok (.istore_n 1, 1) := by decide +kernel
theorem dX5_stringCode_23 : decode cX5_stringCode 23 = .ok (.iinc 2 (-1), 3) := by decide +kernel
theorem dX5_stringCode_26 : decode cX5_stringCode 26 = .ok (.goto (-21), 3) := by decide +kernel
theorem dX5_stringCode_29 : decode cX5_stringCode 29 = .ok (.iload_n 1, 1) := by decide +kernel
theorem dX5_stringCode_30 : decode cX5_stringCode 30 = .ok (.ireturn, 1) := by decide +kernel
theorem dX5_layString_0 : decode cX5_layString 0 = .ok (.iload_n 1, 1) := by decide +kernel
theorem dX5_layString_1 : decode cX5_layString 1 = .ok (.istore_n 2, 1) := by decide +kernel
theorem dX5_layString_2 : decode cX5_layString 2 = .ok (.iconst 0, 1) := by decide +kernel
theorem dX5_layString_3 : decode cX5_layString 3 = .ok (.istore_n 3, 1) := by decide +kernel
theorem dX5_layString_4 : decode cX5_layString 4 = .ok (.iload_n 3, 1) := by decide +kernel
theorem dX5_layString_5 : decode cX5_layString 5 = .ok (.bipush 8, 2) := by decide +kernel
theorem dX5_layString_7 : decode cX5_layString 7 = .ok (.if_icmp .ge 26, 3) := by decide +kernel
theorem dX5_layString_10 : decode cX5_layString 10 = .ok (.aload_n 0, 1) := by decide +kernel
theorem dX5_layString_11 : decode cX5_layString 11 = .ok (.getfield 21, 3) := by decide +kernel
theorem dX5_layString_14 : decode cX5_layString 14 = .ok (.iload_n 3, 1) := by decide +kernel
theorem dX5_layString_15 : decode cX5_layString 15 = .ok (.iload_n 2, 1) := by decide +kernel
theorem dX5_layString_16 : decode cX5_layString 16 = .ok (.bipush 6, 2) := by decide +kernel
theorem dX5_layString_18 : decode cX5_layString 18 = .ok (.irem, 1) := by decide +kernel
theorem dX5_layString_19 : decode cX5_layString 19 = .ok (.iconst 1, 1) := by decide +kernel
theorem dX5_layString_20 : decode cX5_layString 20 = .ok (.isub, 1) := by decide +kernel
theorem dX5_layString_21 : decode cX5_layString 21 = .ok (.iastore, 1) := by decide +kernel
theorem dX5_layString_22 : decode cX5_layString 22 = .ok (.iload_n 2, 1) := by decide +kernel
theorem dX5_layString_23 : decode cX5_layString 23 = .ok (.bipush 6, 2) := by decide +kernel
theorem dX5_layString_25 : decode cX5_layString 25 = .ok (.idiv, 1) := by decide +kernel
theorem dX5_layString_26 : decode cX5_layString 26 = .ok (.istore_n 2, 1) := by decide +kernel
theorem dX5_layString_27 : decode cX5_layString 27 = .ok (.iinc 3 1, 3) := by decide +kernel
theorem dX5_layString_30 : decode cX5_layString 30 = .ok (.goto (-26), 3) := by decide +kernel
theorem dX5_layString_33 : decode cX5_layString 33 = .ok (.return_, 1) := by decide +kernel
theorem dX6_init_0 : decode cX6_init 0 = .ok (.aload_n 0, 1) := by decide +kernel
theorem dX6_init_1 : decode cX6_init 1 = .ok (.invokespecial 1, 3) := by decide +kernel
theorem dX6_init_4 : decode cX6_init 4 = .ok (.aload_n 0, 1) := by decide +kernel
theorem dX6_init_5 : decode cX6_init 5 = .ok (.bipush 8, 2) := by decide +kernel
theorem dX6_init_7 : decode cX6_init 7 = .ok (.anewarray 9, 3) := by decide +kernel
theorem dX6_init_10 : decode cX6_init 10 = .ok (.putfield 11, 3) := by decide +kernel
theorem dX6_init_13 : decode cX6_init 13 = .ok (.aload_n 0, 1) := by decide +kernel
theorem dX6_init_14 : decode cX6_init 14 = .ok (.new 15, 3) := by decide +kernel
theorem dX6_init_17 : decode cX6_init 17 = .ok (.dup, 1) := by decide +kernel
theorem dX6_init_18 : decode cX6_init 18 = .ok (.invokespecial 17, 3) := by decide +kernel
theorem dX6_init_21 : decode cX6_init 21 = .ok (.putfield 18, 3) := by decide +kernel
theorem dX6_init_24 : decode cX6_init 24 = .ok (.aload_n 0, 1) := by decide +kernel
theorem dX6_init_25 : decode cX6_init 25 = .ok (.new 22, 3) := by decide +kernel
theorem dX6_init_28 : decode cX6_init 28 = .ok (.dup, 1) := by decide +kernel
theorem dX6_init_29 : decode cX6_init 29 = .ok (.invokespecial 24, 3) := by decide +kernel
theorem dX6_init_32 : decode cX6_init 32 = .ok (.putfield 25, 3) := by decide +kernel
theorem dX6_init_35 : decode cX6_init 35 = .ok (.aload_n 0, 1) := by decide +kernel
theorem dX6_init_36 : decode cX6_init 36 = .ok (.new 22, 3) := by decide +kernel
theorem dX6_init_39 : decode cX6_init 39 = .ok (.dup, 1) := by decide +kernel
theorem dX6_init_40 : decode cX6_init 40 = .ok (.invokespecial 24, 3) := by decide +kernel
theorem dX6_init_43 : decode cX6_init 43 = .ok (.putfield 29, 3) := by decide +kernel
theorem dX6_init_46 : decode cX6_init 46 = .ok (.aload_n 0, 1) := by decide +kernel
theorem dX6_init_47 : decode cX6_init 47 = .ok (.iconst 2, 1) := by decide +kernel
theorem dX6_init_48 : decode cX6_init 48 = .ok (.anewarray 22, 3) := by decide +kernel
theorem dX6_init_51 : decode cX6_init 51 = .ok (.putfield 32, 3) := by decide +kernel
theorem dX6_init_54 : decode cX6_init 54 = .ok (.aload_n 0, 1) := by decide +kernel
theorem dX6_init_55 : decode cX6_init 55 = .ok (.new 36, 3) := by decide +kernel
theorem dX6_init_58 : decode cX6_init 58 = .ok (.dup, 1) := by decide +kernel
theorem dX6_init_59 : decode cX6_init 59 = .ok (.invokespecial 38, 3) := by decide +kernel
theorem dX6_init_62 : decode cX6_init 62 = .ok (.putfield 39, 3) := by decide +kernel
theorem dX6_init_65 : decode cX6_init 65 = .ok (.aload_n 0, 1) := by decide +kernel
theorem dX6_init_66 : decode cX6_init 66 = .ok (.new 43, 3) := by decide +kernel
theorem dX6_init_69 : decode cX6_init 69 = .ok (.dup, 1) := by decide +kernel
theorem dX6_init_70 : decode cX6_init 70 = .ok (.invokespecial 45, 3) := by decide +kernel
theorem dX6_init_73 : decode cX6_init 73 = .ok (.putfield 46, 3) := by decide +kernel
theorem dX6_init_76 : decode cX6_init 76 = .ok (.aload_n 0, 1) := by decide +kernel
theorem dX6_init_77 : decode cX6_init 77 = .ok (.new 50, 3) := by decide +kernel
theorem dX6_init_80 : decode cX6_init 80 = .ok (.dup, 1) := by decide +kernel
theorem dX6_init_81 : decode cX6_init 81 = .ok (.invokespecial 52, 3) := by decide +kernel
theorem dX6_init_84 : decode cX6_init 84 = .ok (.putfield 53, 3) := by decide +kernel
theorem dX6_init_87 : decode cX6_init 87 = .ok (.iconst 0, 1) := by decide +kernel
theorem dX6_init_88 : decode cX6_init 88 = .ok (.istore_n 1, 1) := by decide +kernel
theorem dX6_init_89 : decode cX6_init 89 = .ok (.iload_n 1, 1) := by decide +kernel
theorem dX6_init_90 : decode cX6_init 90 = .ok (.bipush 8, 2) := by decide +kernel
theorem dX6_init_92 : decode cX6_init 92 = .ok (.if_icmp .ge 22, 3) := by decide +kernel
theorem dX6_init_95 : decode cX6_init 95 = .ok (.aload_n 0, 1) := by decide +kernel
theorem dX6_init_96 : decode cX6_init 96 = .ok (.getfield 11, 3) := by decide +kernel
theorem dX6_init_99 : decode cX6_init 99 = .ok (.iload_n 1, 1) := by decide +kernel
theorem dX6_init_100 : decode cX6_init 100 = .ok (.new 9, 3) := by decide +kernel
theorem dX6_init_103 : decode cX6_init 103 = .ok (.dup, 1) := by decide +kernel
theorem dX6_init_104 : decode cX6_init 104 = .ok (.invokespecial 57, 3) := by decide +kernel
theorem dX6_init_107 : decode cX6_init 107 = .ok (.aastore, 1) := by decide +kernel
theorem dX6_init_108 : decode cX6_init 108 = .ok (.iinc 1 1, 3) := by decide +kernel
theorem dX6_init_111 : decode cX6_init 111 = .ok (.goto (-22), 3) := by decide +kernel
theorem dX6_init_114 : decode cX6_init 114 = .ok (.iconst 0, 1) := by decide +kernel
theorem dX6_init_115 : decode cX6_init 115 = .ok (.istore_n 1, 1) := by decide +kernel
theorem dX6_init_116 : decode cX6_init 116 = .ok (.iload_n 1, 1) := by decide +kernel
theorem dX6_init_117 : decode cX6_init 117 = .ok (.iconst 2, 1) := by decide +kernel
theorem dX6_init_118 : decode cX6_init 118 = .ok (.if_icmp .ge 22, 3) := by decide +kernel
theorem dX6_init_121 : decode cX6_init 121 = .ok (.aload_n 0, 1) := by decide +kernel
theorem dX6_init_122 : decode cX6_init 122 = .ok (.getfield 32, 3) := by decide +kernel
theorem dX6_init_125 : decode cX6_init 125 = .ok (.iload_n 1, 1) := by decide +kernel
theorem dX6_init_126 : decode cX6_init 126 = .ok (.new 22, 3) := by decide +kernel
theorem dX6_init_129 : decode cX6_init 129 = .ok (.dup, 1) := by decide +kernel
theorem dX6_init_130 : decode cX6_init 130 = .ok (.invokespecial 24, 3) := by decide +kernel
theorem dX6_init_133 : decode cX6_init 133 = .ok (.aastore, 1) := by decide +kernel
theorem dX6_init_134 : decode cX6_init 134 = .ok (.iinc 1 1, 3) := by decide +kernel
theorem dX6_init_137 : decode cX6_init 137 = .ok (.goto (-21), 3) := by decide +kernel
theorem dX6_init_140 : decode cX6_init 140 = .ok (.return_, 1) := by decide +kernel
theorem dX6_row_0 : decode cX6_row 0 = .ok (.iload_n 1, 1) := by decide +kernel
theorem dX6_row_1 : decode cX6_row 1 = .ok (.invokestatic 58, 3) := by decide +kernel
theorem dX6_row_4 : decode cX6_row 4 = .ok (.ifCond .eq 18, 3) := by decide +kernel
theorem dX6_row_7 : decode cX6_row 7 = .ok (.iload_n 2, 1) := by decide +kernel
theorem dX6_row_8 : decode cX6_row 8 = .ok (.ifCond .lt 14, 3) := by decide +kernel
theorem dX6_row_11 : decode cX6_row 11 = .ok (.iload_n 2, 1) := by decide +kernel
theorem dX6_row_12 : decode cX6_row 12 = .ok (.iconst 3, 1) := by decide +kernel
theorem dX6_row_13 : decode cX6_row 13 = .ok (.if_icmp .ge 9, 3) := by decide +kernel
theorem dX6_row_16 : decode cX6_row 16 = .ok (.iload_n 3, 1) := by decide +kernel
theorem dX6_row_17 : decode cX6_row 17 = .ok (.bipush 40, 2) := by decide +kernel
theorem dX6_row_19 : decode cX6_row 19 = .ok (.if_icmp .le 6, 3) := by decide +kernel
theorem dX6_row_22 : decode cX6_row 22 = .ok (.ldc 62, 2) := by decide +kernel
theorem dX6_row_24 : decode cX6_row 24 = .ok (.ireturn, 1) := by decide +kernel
theorem dX6_row_25 : decode cX6_row 25 = .ok (.iload_n 3, 1) := by decide +kernel
theorem dX6_row_26 : decode cX6_row 26 = .ok (.ifCond .ge 9, 3) := by decide +kernel
theorem dX6_row_29 : decode cX6_row 29 = .ok (.aload_n 0, 1) := by decide +kernel
theorem dX6_row_30 : decode cX6_row 30 = .ok (.iconst 4, 1) := by decide +kernel
theorem dX6_row_31 : decode cX6_row 31 = .ok (.invokevirtual 63, 3) := by decide +kernel
theorem dX6_row_34 : decode cX6_row 34 = .ok (.ireturn, 1) := by decide +kernel
theorem dX6_row_35 : decode cX6_row 35 = .ok (.aload_n 0, 1) := by decide +kernel
theorem dX6_row_36 : decode cX6_row 36 = .ok (.getfield 11, 3) := by decide +kernel
theorem dX6_row_39 : decode cX6_row 39 = .ok (.iload_n 1, 1) := by decide +kernel
theorem dX6_row_40 : decode cX6_row 40 = .ok (.aaload, 1) := by decide +kernel
theorem dX6_row_41 : decode cX6_row 41 = .ok (.iload_n 2, 1) := by decide +kernel
theorem dX6_row_42 : decode cX6_row 42 = .ok (.iload_n 3, 1) := by decide +kernel
theorem dX6_row_43 : decode cX6_row 43 = .ok (.invokevirtual 67, 3) := by decide +kernel
theorem dX6_row_46 : decode cX6_row 46 = .ok (.aload_n 0, 1) := by decide +kernel
theorem dX6_row_47 : decode cX6_row 47 = .ok (.iload_n 3, 1) := by decide +kernel
theorem dX6_row_48 : decode cX6_row 48 = .ok (.invokevirtual 71, 3) := by decide +kernel
theorem dX6_row_51 : decode cX6_row 51 = .ok (.ireturn, 1) := by decide +kernel
theorem dX6_set_0 : decode cX6_set 0 = .ok (.iload_n 1, 1) := by decide +kernel
theorem dX6_set_1 : decode cX6_set 1 = .ok (.invokestatic 58, 3) := by decide +kernel
theorem dX6_set_4 : decode cX6_set 4 = .ok (.ifCond .ne 6, 3) := by decide +kernel
theorem dX6_set_7 : decode cX6_set 7 = .ok (.ldc 62, 2) := by decide +kernel
theorem dX6_set_9 : decode cX6_set 9 = .ok (.ireturn, 1) := by decide +kernel
theorem dX6_set_10 : decode cX6_set 10 = .ok (.aload_n 0, 1) := by decide +kernel
theorem dX6_set_11 : decode cX6_set 11 = .ok (.getfield 11, 3) := by decide +kernel
theorem dX6_set_14 : decode cX6_set 14 = .ok (.iload_n 1, 1) := by decide +kernel
theorem dX6_set_15 : decode cX6_set 15 = .ok (.aaload, 1) := by decide +kernel
theorem dX6_set_16 : decode cX6_set 16 = .ok (.astore 4, 2) := by decide +kernel
theorem dX6_set_18 : decode cX6_set 18 = .ok (.aload 4, 2) := by decide +kernel
theorem dX6_set_20 : decode cX6_set 20 = .ok (.invokevirtual 74, 3) := by decide +kernel
theorem dX6_set_23 : decode cX6_set 23 = .ok (.ifCond .eq 9, 3) := by decide +kernel
theorem dX6_set_26 : decode cX6_set 26 = .ok (.aload_n 0, 1) := by decide +kernel
theorem dX6_set_27 : decode cX6_set 27 = .ok (.iconst 1, 1) := by decide +kernel
theorem dX6_set_28 : decode cX6_set 28 = .ok (.invokevirtual 63, 3) := by decide +kernel
theorem dX6_set_31 : decode cX6_set 31 = .ok (.ireturn, 1) := by decide +kernel
theorem dX6_set_32 : decode cX6_set 32 = .ok (.aload 4, 2) := by decide +kernel
theorem dX6_set_34 : decode cX6_set 34 = .ok (.iload_n 2, 1) := by decide +kernel
theorem dX6_set_35 : decode cX6_set 35 = .ok (.iconst 1, 1) := by decide +kernel
theorem dX6_set_36 : decode cX6_set 36 = .ok (.invokevirtual 78, 3) := by decide +kernel
theorem dX6_set_39 : decode cX6_set 39 = .ok (.ifCond .ne 9, 3) := by decide +kernel
theorem dX6_set_42 : decode cX6_set 42 = .ok (.aload_n 0, 1) := by decide +kernel
theorem dX6_set_43 : decode cX6_set 43 = .ok (.iconst 2, 1) := by decide +kernel
theorem dX6_set_44 : decode cX6_set 44 = .ok (.invokevirtual 63, 3) := by decide +kernel
theorem dX6_set_47 : decode cX6_set 47 = .ok (.ireturn, 1) := by decide +kernel
theorem dX6_set_48 : decode cX6_set 48 = .ok (.aload_n 0, 1) := by decide +kernel
theorem dX6_set_49 : decode cX6_set 49 = .ok (.aload 4, 2) := by decide +kernel
theorem dX6_set_51 : decode cX6_set 51 = .ok (.iload_n 2, 1) := by decide +kernel
theorem dX6_set_52 : decode cX6_set 52 = .ok (.iload_n 3, 1) := by decide +kernel
theorem dX6_set_53 : decode cX6_set 53 = .ok (.invokevirtual 82, 3) := by decide +kernel
theorem dX6_set_56 : decode cX6_set 56 = .ok (.invokevirtual 71, 3) := by decide +kernel
theorem dX6_set_59 : decode cX6_set 59 = .ok (.ireturn, 1) := by decide +kernel
theorem dX6_copy_0 : decode cX6_copy 0 = .ok (.iload_n 1, 1) := by decide +kernel
theorem dX6_copy_1 : decode cX6_copy 1 = .ok (.invokestatic 58, 3) := by decide +kernel
theorem dX6_copy_4 : decode cX6_copy 4 = .ok (.ifCond .eq 10, 3) := by decide +kernel
theorem dX6_copy_7 : decode cX6_copy 7 = .ok (.iload_n 3, 1) := by decide +kernel
theorem dX6_copy_8 : decode cX6_copy 8 = .ok (.invokestatic 58, 3) := by decide +kernel
theorem dX6_copy_11 : decode cX6_copy 11 = .ok (.ifCond .ne 6, 3) := by decide +kernel
theorem dX6_copy_14 : decode cX6_copy 14 = .ok (.ldc 62, 2) := by decide +kernel
theorem dX6_copy_16 : decode cX6_copy 16 = .ok (.ireturn, 1) := by decide +kernel
theorem dX6_copy_17 : decode cX6_copy 17 = .ok (.aload_n 0, 1) := by decide +kernel
theorem dX6_copy_18 : decode cX6_copy 18 = .ok (.getfield 11, 3) := by decide +kernel
theorem dX6_copy_21 : decode cX6_copy 21 = .ok (.iload_n 1, 1) := by decide +kernel
theorem dX6_copy_22 : decode cX6_copy 22 = .ok (.aaload, 1) := by decide +kernel
theorem dX6_copy_23 : decode cX6_copy 23 = .ok (.astore 6, 2) := by decide +kernel
theorem dX6_copy_25 : decode cX6_copy 25 = .ok (.aload_n 0, 1) := by decide +kernel
theorem dX6_copy_26 : decode cX6_copy 26 = .ok (.getfield 11, 3) := by decide +kernel
theorem dX6_copy_29 : decode cX6_copy 29 = .ok (.iload_n 3, 1) := by decide +kernel
theorem dX6_copy_30 : decode cX6_copy 30 = .ok (.aaload, 1) := by decide +kernel
theorem dX6_copy_31 : decode cX6_copy 31 = .ok (.astore 7, 2) := by decide +kernel
theorem dX6_copy_33 : decode cX6_copy 33 = .ok (.aload 6, 2) := by decide +kernel
theorem dX6_copy_35 : decode cX6_copy 35 = .ok (.invokevirtual 74, 3) := by decide +kernel
theorem dX6_copy_38 : decode cX6_copy 38 = .ok (.ifCond .ne 11, 3) := by decide +kernel
theorem dX6_copy_41 : decode cX6_copy 41 = .ok (.aload 7, 2) := by decide +kernel
theorem dX6_copy_43 : decode cX6_copy 43 = .ok (.invokevirtual 74, 3) := by decide +kernel
theorem dX6_copy_46 : decode cX6_copy 46 = .ok (.ifCond .eq 9, 3) := by decide +kernel
theorem dX6_copy_49 : decode cX6_copy 49 = .ok (.aload_n 0, 1) := by decide +kernel
theorem dX6_copy_50 : decode cX6_copy 50 = .ok (.iconst 1, 1) := by decide +kernel
theorem dX6_copy_51 : decode cX6_copy 51 = .ok (.invokevirtual 63, 3) := by decide +kernel
theorem dX6_copy_54 : decode cX6_copy 54 = .ok (.ireturn, 1) := by decide +kernel
theorem dX6_copy_55 : decode cX6_copy 55 = .ok (.aload 6, 2) := by decide +kernel
theorem dX6_copy_57 : decode cX6_copy 57 = .ok (.getfield 86, 3) := by decide +kernel
theorem dX6_copy_60 : decode cX6_copy 60 = .ok (.aload 7, 2) := by decide +kernel
theorem dX6_copy_62 : decode cX6_copy 62 = .ok (.getfield 86, 3) := by decide +kernel
theorem dX6_copy_65 : decode cX6_copy 65 = .ok (.if_icmp .eq 9, 3) := by decide +kernel
theorem dX6_copy_68 : decode cX6_copy 68 = .ok (.aload_n 0, 1) := by decide +kernel
theorem dX6_copy_69 : decode cX6_copy 69 = .ok (.iconst 5, 1) := by decide +kernel
theorem dX6_copy_70 : decode cX6_copy 70 = .ok (.invokevirtual 63, 3) := by decide +kernel
theorem dX6_copy_73 : decode cX6_copy 73 = .ok (.ireturn, 1) := by decide +kernel
theorem dX6_copy_74 : decode cX6_copy 74 = .ok (.aload 6, 2) := by decide +kernel
theorem dX6_copy_76 : decode cX6_copy 76 = .ok (.iload_n 2, 1) := by decide +kernel
theorem dX6_copy_77 : decode cX6_copy 77 = .ok (.iload 5, 2) := by decide +kernel
theorem dX6_copy_79 : decode cX6_copy 79 = .ok (.invokevirtual 78, 3) := by decide +kernel
theorem dX6_copy_82 : decode cX6_copy 82 = .ok (.ifCond .eq 15, 3) := by decide +kernel
theorem dX6_copy_85 : decode cX6_copy 85 = .ok (.aload 7, 2) := by decide +kernel
theorem dX6_copy_87 : decode cX6_copy 87 = .ok (.iload 4, 2) := by decide +kernel
theorem dX6_copy_89 : decode cX6_copy 89 = .ok (.iload 5, 2) := by decide +kernel
theorem dX6_copy_91 : decode cX6_copy 91 = .ok (.invokevirtual 78, 3) := by decide +kernel
theorem dX6_copy_94 : decode cX6_copy 94 = .ok (.ifCond .ne 9, 3) := by decide +kernel
theorem dX6_copy_97 : decode cX6_copy 97 = .ok (.aload_n 0, 1) := by decide +kernel
theorem dX6_copy_98 : decode cX6_copy 98 = .ok (.iconst 2, 1) := by decide +kernel
theorem dX6_copy_99 : decode cX6_copy 99 = .ok (.invokevirtual 63, 3) := by decide +kernel
theorem dX6_copy_102 : decode cX6_copy 102 = .ok (.ireturn, 1) := by decide +kernel
theorem dX6_copy_103 : decode cX6_copy 103 = .ok (.aload 6, 2) := by decide +kernel
theorem dX6_copy_105 : decode cX6_copy 105 = .ok (.getfield 90, 3) := by decide +kernel
theorem dX6_copy_108 : decode cX6_copy 108 = .ok (.iload_n 2, 1) := by decide +kernel
theorem dX6_copy_109 : decode cX6_copy 109 = .ok (.aload 7, 2) := by decide +kernel
theorem dX6_copy_111 : decode cX6_copy 111 = .ok (.getfield 90, 3) := by decide +kernel
theorem dX6_copy_114 : decode cX6_copy 114 = .ok (.iload 4, 2) := by decide +kernel
theorem dX6_copy_116 : decode cX6_copy 116 = .ok (.iload 5, 2) := by decide +kernel
theorem dX6_copy_118 : decode cX6_copy 118 = .ok (.invokestatic 94, 3) := by decide +kernel
theorem dX6_copy_121 : decode cX6_copy 121 = .ok (.aload_n 0, 1) := by decide +kernel
theorem dX6_copy_122 : decode cX6_copy 122 = .ok (.iload 5, 2) := by decide +kernel
theorem dX6_copy_124 : decode cX6_copy 124 = .ok (.invokevirtual 71, 3) := by decide +kernel
theorem dX6_copy_127 : decode cX6_copy 127 = .ok (.ireturn, 1) := by decide +kernel
theorem dX6_drop_0 : decode cX6_drop 0 = .ok (.iload_n 1, 1) := by decide +kernel
theorem dX6_drop_1 : decode cX6_drop 1 = .ok (.invokestatic 58, 3) := by decide +kernel
theorem dX6_drop_4 : decode cX6_drop 4 = .ok (.ifCond .ne 6, 3) := by decide +kernel
theorem dX6_drop_7 : decode cX6_drop 7 = .ok (.ldc 62, 2) := by decide +kernel
theorem dX6_drop_9 : decode cX6_drop 9 = .ok (.ireturn, 1) := by decide +kernel
theorem dX6_drop_10 : decode cX6_drop 10 = .ok (.aload_n 0, 1) := by decide +kernel
theorem dX6_drop_11 : decode cX6_drop 11 = .ok (.getfield 11, 3) := by decide +kernel
theorem dX6_drop_14 : decode cX6_drop 14 = .ok (.iload_n 1, 1) := by decide +kernel
theorem dX6_drop_15 : decode cX6_drop 15 = .ok (.aaload, 1) := by decide +kernel
theorem dX6_drop_16 : decode cX6_drop 16 = .ok (.astore_n 2, 1) := by decide +kernel
theorem dX6_drop_17 : decode cX6_drop 17 = .ok (.aload_n 2, 1) := by decide +kernel
theorem dX6_drop_18 : decode cX6_drop 18 = .ok (.invokevirtual 74, 3) := by decide +kernel
theorem dX6_drop_21 : decode cX6_drop 21 = .ok (.ifCond .eq 9, 3) := by decide +kernel
theorem dX6_drop_24 : decode cX6_drop 24 = .ok (.aload_n 0, 1) := by decide +kernel
theorem dX6_drop_25 : decode cX6_drop 25 = .ok (.iconst 1, 1) := by decide +kernel
theorem dX6_drop_26 : decode cX6_drop 26 = .ok (.invokevirtual 63, 3) := by decide +kernel
theorem dX6_drop_29 : decode cX6_drop 29 = .ok (.ireturn, 1) := by decide +kernel
theorem dX6_drop_30 : decode cX6_drop 30 = .ok (.aload_n 2, 1) := by decide +kernel
theorem dX6_drop_31 : decode cX6_drop 31 = .ok (.getfield 100, 3) := by decide +kernel
theorem dX6_drop_34 : decode cX6_drop 34 = .ok (.istore_n 3, 1) := by decide +kernel
theorem dX6_drop_35 : decode cX6_drop 35 = .ok (.aload_n 2, 1) := by decide +kernel
theorem dX6_drop_36 : decode cX6_drop 36 = .ok (.iconst (-1), 1) := by decide +kernel
theorem dX6_drop_37 : decode cX6_drop 37 = .ok (.putfield 100, 3) := by decide +kernel
theorem dX6_drop_40 : decode cX6_drop 40 = .ok (.aload_n 0, 1) := by decide +kernel
theorem dX6_drop_41 : decode cX6_drop 41 = .ok (.iload_n 3, 1) := by decide +kernel
theorem dX6_drop_42 : decode cX6_drop 42 = .ok (.invokevirtual 71, 3) := by decide +kernel
theorem dX6_drop_45 : decode cX6_drop 45 = .ok (.ireturn, 1) := by decide +kernel
theorem dX6_feed_0 : decode cX6_feed 0 = .ok (.iload_n 1, 1) := by decide +kernel
theorem dX6_feed_1 : decode cX6_feed 1 = .ok (.ifCond .lt 10, 3) := by decide +kernel
theorem dX6_feed_4 : decode cX6_feed 4 = .ok (.iload_n 1, 1) := by decide +kernel
theorem dX6_feed_5 : decode cX6_feed 5 = .ok (.sipush 255, 3) := by decide +kernel
theorem dX6_feed_8 : decode cX6_feed 8 = .ok (.if_icmp .le 6, 3) := by decide +kernel
theorem dX6_feed_11 : decode cX6_feed 11 = .ok (.ldc 62, 2) := by decide +kernel
theorem dX6_feed_13 : decode cX6_feed 13 = .ok (.ireturn, 1) := by decide +kernel
theorem dX6_feed_14 : decode cX6_feed 14 = .ok (.aload_n 0, 1) := by decide +kernel
theorem dX6_feed_15 : decode cX6_feed 15 = .ok (.getfield 18, 3) := by decide +kernel
theorem dX6_feed_18 : decode cX6_feed 18 = .ok (.iload_n 1, 1) := by decide +kernel
theorem dX6_feed_19 : decode cX6_feed 19 = .ok (.invokevirtual 103, 3) := by decide +kernel
theorem dX6_feed_22 : decode cX6_feed 22 = .ok (.ifCond .eq 13, 3) := by decide +kernel
theorem dX6_feed_25 : decode cX6_feed 25 = .ok (.aload_n 0, 1) := by decide +kernel
theorem dX6_feed_26 : decode cX6_feed 26 = .ok (.getfield 18, 3) := by decide +kernel
theorem dX6_feed_29 : decode cX6_feed 29 = .ok (.getfield 106, 3) := by decide +kernel
theorem dX6_feed_32 : decode cX6_feed 32 = .ok (.goto 5, 3) := by decide +kernel
theorem dX6_feed_35 : decode cX6_feed 35 = .ok (.ldc 109, 2) := by decide +kernel
theorem dX6_feed_37 : decode cX6_feed 37 = .ok (.ireturn, 1) := by decide +kernel
theorem dX6_well_0 : decode cX6_well 0 = .ok (.aload_n 0, 1) := by decide +kernel
theorem dX6_well_1 : decode cX6_well 1 = .ok (.getfield 18, 3) := by decide +kernel
theorem dX6_well_4 : decode cX6_well 4 = .ok (.aload_n 0, 1) := by decide +kernel
theorem dX6_well_5 : decode cX6_well 5 = .ok (.getfield 29, 3) := by decide +kernel
theorem dX6_well_8 : decode cX6_well 8 = .ok (.invokevirtual 110, 3) := by decide +kernel
theorem dX6_well_11 : decode cX6_well 11 = .ok (.ifCond .ne 14, 3) := by decide +kernel
theorem dX6_well_14 : decode cX6_well 14 = .ok (.ldc 114, 2) := by decide +kernel
theorem dX6_well_16 : decode cX6_well 16 = .ok (.aload_n 0, 1) := by decide +kernel
theorem dX6_well_17 : decode cX6_well 17 = .ok (.getfield 18, 3) := by decide +kernel
theorem dX6_well_20 : decode cX6_well 20 = .ok (.getfield 115, 3) := by decide +kernel
theorem dX6_well_23 : decode cX6_well 23 = .ok (.isub, 1) := by decide +kernel
theorem dX6_well_24 : decode cX6_well 24 = .ok (.ireturn, 1) := by decide +kernel
theorem dX6_well_25 : decode cX6_well 25 = .ok (.aload_n 0, 1) := by decide +kernel
theorem dX6_well_26 : decode cX6_well 26 = .ok (.getfield 25, 3) := by decide +kernel
theorem dX6_well_29 : decode cX6_well 29 = .ok (.aload_n 0, 1) := by decide +kernel
theorem dX6_well_30 : decode cX6_well 30 = .ok (.getfield 29, 3) := by decide +kernel
theorem dX6_well_33 : decode cX6_well 33 = .ok (.invokevirtual 118, 3) := by decide +kernel
theorem dX6_well_36 : decode cX6_well 36 = .ok (.aload_n 0, 1) := by decide +kernel
theorem dX6_well_37 : decode cX6_well 37 = .ok (.getfield 46, 3) := by decide +kernel
theorem dX6_well_40 : decode cX6_well 40 = .ok (.invokevirtual 122, 3) := by decide +kernel
theorem dX6_well_43 : decode cX6_well 43 = .ok (.aload_n 0, 1) := by decide +kernel
theorem dX6_well_44 : decode cX6_well 44 = .ok (.getfield 25, 3) := by decide +kernel
theorem dX6_well_47 : decode cX6_well 47 = .ok (.getfield 125, 3) := by decide +kernel
theorem dX6_well_50 : decode cX6_well 50 = .ok (.ireturn, 1) := by decide +kernel
theorem dX6_fault_0 : decode cX6_fault 0 = .ok (.aload_n 0, 1) := by decide +kernel
theorem dX6_fault_1 : decode cX6_fault 1 = .ok (.getfield 18, 3) := by decide +kernel
theorem dX6_fault_4 : decode cX6_fault 4 = .ok (.getfield 128, 3) := by decide +kernel
theorem dX6_fault_7 : decode cX6_fault 7 = .ok (.ireturn, 1) := by decide +kernel
theorem dX6_undo_0 : decode cX6_undo 0 = .ok (.aload_n 0, 1) := by decide +kernel
theorem dX6_undo_1 : decode cX6_undo 1 = .ok (.getfield 46, 3) := by decide +kernel
theorem dX6_undo_4 : decode cX6_undo 4 = .ok (.getfield 131, 3) := by decide +kernel
theorem dX6_undo_7 : decode cX6_undo 7 = .ok (.ifCond .ne 6, 3) := by decide +kernel
theorem dX6_undo_10 : decode cX6_undo 10 = .ok (.ldc 134, 2) := by decide +kernel
theorem dX6_undo_12 : decode cX6_undo 12 = .ok (.ireturn, 1) := by decide +kernel
theorem dX6_undo_13 : decode cX6_undo 13 = .ok (.aload_n 0, 1) := by decide +kernel
theorem dX6_undo_14 : decode cX6_undo 14 = .ok (.getfield 46, 3) := by decide +kernel
theorem dX6_undo_17 : decode cX6_undo 17 = .ok (.aload_n 0, 1) := by decide +kernel
theorem dX6_undo_18 : decode cX6_undo 18 = .ok (.getfield 25, 3) := by decide +kernel
theorem dX6_undo_21 : decode cX6_undo 21 = .ok (.invokevirtual 135, 3) := by decide +kernel
theorem dX6_undo_24 : decode cX6_undo 24 = .ok (.aload_n 0, 1) := by decide +kernel
theorem dX6_undo_25 : decode cX6_undo 25 = .ok (.getfield 46, 3) := by decide +kernel
theorem dX6_undo_28 : decode cX6_undo 28 = .ok (.getfield 131, 3) := by decide +kernel
theorem dX6_undo_31 : decode cX6_undo 31 = .ok (.ireturn, 1) := by decide +kernel
theorem dX6_lay_0 : decode cX6_lay 0 = .ok (.aload_n 0, 1) := by decide +kernel
theorem dX6_lay_1 : decode cX6_lay 1 = .ok (.iload_n 1, 1) := by decide +kernel
theorem dX6_lay_2 : decode cX6_lay 2 = .ok (.invokevirtual 138, 3) := by decide +kernel
theorem dX6_lay_5 : decode cX6_lay 5 = .ok (.ifCond .eq 16, 3) := by decide +kernel
theorem dX6_lay_8 : decode cX6_lay 8 = .ok (.iload_n 2, 1) := by decide +kernel
theorem dX6_lay_9 : decode cX6_lay 9 = .ok (.iconst (-1), 1) := by decide +kernel
theorem dX6_lay_10 : decode cX6_lay 10 = .ok (.if_icmp .eq 14, 3) := by decide +kernel
theorem dX6_lay_13 : decode cX6_lay 13 = .ok (.aload_n 0, 1) := by decide +kernel
theorem dX6_lay_14 : decode cX6_lay 14 = .ok (.iload_n 2, 1) := by decide +kernel
theorem dX6_lay_15 : decode cX6_lay 15 = .ok (.invokevirtual 141, 3) := by decide +kernel
theorem dX6_lay_18 : decode cX6_lay 18 = .ok (.ifCond .ne 6, 3) := by decide +kernel
theorem dX6_lay_21 : decode cX6_lay 21 = .ok (.ldc 62, 2) := by decide +kernel
theorem dX6_lay_23 : decode cX6_lay 23 = .ok (.ireturn, 1) := by decide +kernel
theorem dX6_lay_24 : decode cX6_lay 24 = .ok (.aload_n 0, 1) := by decide +kernel
theorem dX6_lay_25 : decode cX6_lay 25 = .ok (.getfield 25, 3) := by decide +kernel
theorem dX6_lay_28 : decode cX6_lay 28 = .ok (.getfield 144, 3) := by decide +kernel
theorem dX6_lay_31 : decode cX6_lay 31 = .ok (.iload_n 1, 1) := by decide +kernel
theorem dX6_lay_32 : decode cX6_lay 32 = .ok (.iaload, 1) := by decide +kernel
theorem dX6_lay_33 : decode cX6_lay 33 = .ok (.istore_n 3, 1) := by decide +kernel
theorem dX6_lay_34 : decode cX6_lay 34 = .ok (.iload_n 3, 1) := by decide +kernel
theorem dX6_lay_35 : decode cX6_lay 35 = .ok (.iload_n 2, 1) := by decide +kernel
theorem dX6_lay_36 : decode cX6_lay 36 = .ok (.if_icmp .ne 6, 3) := by decide +kernel
theorem dX6_lay_39 : decode cX6_lay 39 = .ok (.ldc 134, 2) := by decide +kernel
theorem dX6_lay_41 : decode cX6_lay 41 = .ok (.ireturn, 1) := by decide +kernel
theorem dX6_lay_42 : decode cX6_lay 42 = .ok (.aload_n 0, 1) := by decide +kernel
theorem dX6_lay_43 : decode cX6_lay 43 = .ok (.getfield 46, 3) := by decide +kernel
theorem dX6_lay_46 : decode cX6_lay 46 = .ok (.bipush 9, 2) := by decide +kernel
theorem dX6_lay_48 : decode cX6_lay 48 = .ok (.aload_n 0, 1) := by decide +kernel
theorem dX6_lay_49 : decode cX6_lay 49 = .ok (.getfield 25, 3) := by decide +kernel
theorem dX6_lay_52 : decode cX6_lay 52 = .ok (.invokevirtual 147, 3) := by decide +kernel
theorem dX6_lay_55 : decode cX6_lay 55 = .ok (.invokevirtual 151, 3) := by decide +kernel
theorem dX6_lay_58 : decode cX6_lay 58 = .ok (.aload_n 0, 1) := by decide +kernel
theorem dX6_lay_59 : decode cX6_lay 59 = .ok (.getfield 25, 3) := by decide +kernel
theorem dX6_lay_62 : decode cX6_lay 62 = .ok (.getfield 144, 3) := by decide +kernel
theorem dX6_lay_65 : decode cX6_lay 65 = .ok (.iload_n 1, 1) := by decide +kernel
theorem dX6_lay_66 : decode cX6_lay 66 = .ok (.iload_n 2, 1) := by decide +kernel
theorem dX6_lay_67 : decode cX6_lay 67 = .ok (.iastore, 1) := by decide +kernel
theorem dX6_lay_68 : decode cX6_lay 68 = .ok (.iload_n 3, 1) := by decide +kernel
theorem dX6_lay_69 : decode cX6_lay 69 = .ok (.ireturn, 1) := by decide +kernel
theorem dX6_layBest_0 : decode cX6_layBest 0 = .ok (.aload_n 0, 1) := by decide +kernel
theorem dX6_layBest_1 : decode cX6_layBest 1 = .ok (.invokevirtual 154, 3) := by decide +kernel
theorem dX6_layBest_4 : decode cX6_layBest 4 = .ok (.ifCond .eq 6, 3) := by decide +kernel
theorem dX6_layBest_7 : decode cX6_layBest 7 = .ok (.ldc 134, 2) := by decide +kernel
theorem dX6_layBest_9 : decode cX6_layBest 9 = .ok (.ireturn, 1) := by decide +kernel
theorem dX6_layBest_10 : decode cX6_layBest 10 = .ok (.aload_n 0, 1) := by decide +kernel
theorem dX6_layBest_11 : decode cX6_layBest 11 = .ok (.getfield 39, 3) := by decide +kernel
theorem dX6_layBest_14 : decode cX6_layBest 14 = .ok (.aload_n 0, 1) := by decide +kernel
theorem dX6_layBest_15 : decode cX6_layBest 15 = .ok (.getfield 25, 3) := by decide +kernel
theorem dX6_layBest_18 : decode cX6_layBest 18 = .ok (.ldc 157, 2) := by decide +kernel
theorem dX6_layBest_20 : decode cX6_layBest 20 = .ok (.invokevirtual 158, 3) := by decide +kernel
theorem dX6_layBest_23 : decode cX6_layBest 23 = .ok (.ifCond .ne 6, 3) := by decide +kernel
theorem dX6_layBest_26 : decode cX6_layBest 26 = .ok (.ldc 157, 2) := by decide +kernel
theorem dX6_layBest_28 : decode cX6_layBest 28 = .ok (.ireturn, 1) := by decide +kernel
theorem dX6_layBest_29 : decode cX6_layBest 29 = .ok (.aload_n 0, 1) := by decide +kernel
theorem dX6_layBest_30 : decode cX6_layBest 30 = .ok (.getfield 46, 3) := by decide +kernel
theorem dX6_layBest_33 : decode cX6_layBest 33 = .ok (.bipush 9, 2) := by decide +kernel
theorem dX6_layBest_35 : decode cX6_layBest 35 = .ok (.aload_n 0, 1) := by decide +kernel
theorem dX6_layBest_36 : decode cX6_layBest 36 = .ok (.getfield 25, 3) := by decide +kernel
theorem dX6_layBest_39 : decode cX6_layBest 39 = .ok (.invokevirtual 147, 3) := by decide +kernel
theorem dX6_layBest_42 : decode cX6_layBest 42 = .ok (.invokevirtual 151, 3) := by decide +kernel
theorem dX6_layBest_45 : decode cX6_layBest 45 = .ok (.aload_n 0, 1) := by decide +kernel
theorem dX6_layBest_46 : decode cX6_layBest 46 = .ok (.getfield 39, 3) := by decide +kernel
theorem dX6_layBest_49 : decode cX6_layBest 49 = .ok (.getfield 162, 3) := by decide +kernel
theorem dX6_layBest_52 : decode cX6_layBest 52 = .ok (.iconst 0, 1) := by decide +kernel
theorem dX6_layBest_53 : decode cX6_layBest 53 = .ok (.aload_n 0, 1) := by decide +kernel
theorem dX6_layBest_54 : decode cX6_layBest 54 = .ok (.getfield 25, 3) := by decide +kernel
theorem dX6_layBest_57 : decode cX6_layBest 57 = .ok (.getfield 144, 3) := by decide +kernel
theorem dX6_layBest_60 : decode cX6_layBest 60 = .ok (.iconst 0, 1) := by decide +kernel
theorem dX6_layBest_61 : decode cX6_layBest 61 = .ok (.bipush 8, 2) := by decide +kernel
theorem dX6_layBest_63 : decode cX6_layBest 63 = .ok (.invokestatic 94, 3) := by decide +kernel
theorem dX6_layBest_66 : decode cX6_layBest 66 = .ok (.aload_n 0, 1) := by decide +kernel
theorem dX6_layBest_67 : decode cX6_layBest 67 = .ok (.getfield 39, 3) := by decide +kernel
theorem dX6_layBest_70 : decode cX6_layBest 70 = .ok (.getfield 165, 3) := by decide +kernel
theorem dX6_layBest_73 : decode cX6_layBest 73 = .ok (.ireturn, 1) := by decide +kernel
theorem dX6_rule_0 : decode cX6_rule 0 = .ok (.aload_n 0, 1) := by decide +kernel
theorem dX6_rule_1 : decode cX6_rule 1 = .ok (.invokevirtual 154, 3) := by decide +kernel
theorem dX6_rule_4 : decode cX6_rule 4 = .ok (.ifCond .eq 6, 3) := by decide +kernel
theorem dX6_rule_7 : decode cX6_rule 7 = .ok (.ldc 134, 2) := by decide +kernel
theorem dX6_rule_9 : decode cX6_rule 9 = .ok (.ireturn, 1) := by decide +kernel
theorem dX6_rule_10 : decode cX6_rule 10 = .ok (.iload_n 1, 1) := by decide +kernel
theorem dX6_rule_11 : decode cX6_rule 11 = .ok (.ifCond .lt 26, 3) := by decide +kernel
theorem dX6_rule_14 : decode cX6_rule 14 = .ok (.iload_n 1, 1) := by decide +kernel
theorem dX6_rule_15 : decode cX6_rule 15 = .ok (.iconst 4, 1) := by decide +kernel
theorem dX6_rule_16 : decode cX6_rule 16 = .ok (.if_icmp .ge 21, 3) := by decide +kernel
theorem dX6_rule_19 : decode cX6_rule 19 = .ok (.iload_n 2, 1) := by decide +kernel
theorem dX6_rule_20 : decode cX6_rule 20 = .ok (.getstatic 168, 3) := by decide +kernel
theorem dX6_rule_23 : decode cX6_rule 23 = .ok (.iload_n 1, 1) := by decide +kernel
theorem dX6_rule_24 : decode cX6_rule 24 = .ok (.iaload, 1) := by decide +kernel
theorem dX6_rule_25 : decode cX6_rule 25 = .ok (.if_icmp .lt 12, 3) := by decide +kernel
theorem dX6_rule_28 : decode cX6_rule 28 = .ok (.iload_n 2, 1) := by decide +kernel
theorem dX6_rule_29 : decode cX6_rule 29 = .ok (.getstatic 171, 3) := by decide +kernel
theorem dX6_rule_32 : decode cX6_rule 32 = .ok (.iload_n 1, 1) := by decide +kernel
theorem dX6_rule_33 : decode cX6_rule 33 = .ok (.iaload, 1) := by decide +kernel
theorem dX6_rule_34 : decode cX6_rule 34 = .ok (.if_icmp .le 6, 3) := by decide +kernel
theorem dX6_rule_37 : decode cX6_rule 37 = .ok (.ldc 62, 2) := by decide +kernel
theorem dX6_rule_39 : decode cX6_rule 39 = .ok (.ireturn, 1) := by decide +kernel
theorem dX6_rule_40 : decode cX6_rule 40 = .ok (.aload_n 0, 1) := by decide +kernel
theorem dX6_rule_41 : decode cX6_rule 41 = .ok (.getfield 25, 3) := by decide +kernel
theorem dX6_rule_44 : decode cX6_rule 44 = .ok (.getfield 174, 3) := by decide +kernel
theorem dX6_rule_47 : decode cX6_rule 47 = .ok (.iload_n 1, 1) := by decide +kernel
theorem dX6_rule_48 : decode cX6_rule 48 = .ok (.iaload, 1) := by decide +kernel
theorem dX6_rule_49 : decode cX6_rule 49 = .ok (.istore_n 3, 1) := by decide +kernel
theorem dX6_rule_50 : decode cX6_rule 50 = .ok (.aload_n 0, 1) := by decide +kernel
theorem dX6_rule_51 : decode cX6_rule 51 = .ok (.getfield 46, 3) := by decide +kernel
theorem dX6_rule_54 : decode cX6_rule 54 = .ok (.iload_n 1, 1) := by decide +kernel
theorem dX6_rule_55 : decode cX6_rule 55 = .ok (.iload_n 3, 1) := by decide +kernel
theorem dX6_rule_56 : decode cX6_rule 56 = .ok (.invokevirtual 151, 3) := by decide +kernel
theorem dX6_rule_59 : decode cX6_rule 59 = .ok (.aload_n 0, 1) := by decide +kernel
theorem dX6_rule_60 : decode cX6_rule 60 = .ok (.getfield 25, 3) := by decide +kernel
theorem dX6_rule_63 : decode cX6_rule 63 = .ok (.getfield 174, 3) := by decide +kernel
theorem dX6_rule_66 : decode cX6_rule 66 = .ok (.iload_n 1, 1) := by decide +kernel
theorem dX6_rule_67 : decode cX6_rule 67 = .ok (.iload_n 2, 1) := by decide +kernel
theorem dX6_rule_68 : decode cX6_rule 68 = .ok (.iastore, 1) := by decide +kernel
theorem dX6_rule_69 : decode cX6_rule 69 = .ok (.iload_n 3, 1) := by decide +kernel
theorem dX6_rule_70 : decode cX6_rule 70 = .ok (.ireturn, 1) := by decide +kernel
theorem dX6_price_0 : decode cX6_price 0 = .ok (.aload_n 0, 1) := by decide +kernel
theorem dX6_price_1 : decode cX6_price 1 = .ok (.iload_n 1, 1) := by decide +kernel
theorem dX6_price_2 : decode cX6_price 2 = .ok (.invokevirtual 141, 3) := by decide +kernel
theorem dX6_price_5 : decode cX6_price 5 = .ok (.ifCond .eq 17, 3) := by decide +kernel
theorem dX6_price_8 : decode cX6_price 8 = .ok (.iload_n 2, 1) := by decide +kernel
theorem dX6_price_9 : decode cX6_price 9 = .ok (.iconst 1, 1) := by decide +kernel
theorem dX6_price_10 : decode cX6_price 10 = .ok (.if_icmp .lt 12, 3) := by decide +kernel
theorem dX6_price_13 : decode cX6_price 13 = .ok (.iload_n 2, 1) := by decide +kernel
theorem dX6_price_14 : decode cX6_price 14 = .ok (.getstatic 177, 3) := by decide +kernel
theorem dX6_price_17 : decode cX6_price 17 = .ok (.iconst 4, 1) := by decide +kernel
theorem dX6_price_18 : decode cX6_price 18 = .ok (.iaload, 1) := by decide +kernel
theorem dX6_price_19 : decode cX6_price 19 = .ok (.if_icmp .le 6, 3) := by decide +kernel
theorem dX6_price_22 : decode cX6_price 22 = .ok (.ldc 62, 2) := by decide +kernel
theorem dX6_price_24 : decode cX6_price 24 = .ok (.ireturn, 1) := by decide +kernel
theorem dX6_price_25 : decode cX6_price 25 = .ok (.aload_n 0, 1) := by decide +kernel
theorem dX6_price_26 : decode cX6_price 26 = .ok (.getfield 25, 3) := by decide +kernel
theorem dX6_price_29 : decode cX6_price 29 = .ok (.iload_n 1, 1) := by decide +kernel
theorem dX6_price_30 : decode cX6_price 30 = .ok (.iconst 4, 1) := by decide +kernel
theorem dX6_price_31 : decode cX6_price 31 = .ok (.invokevirtual 180, 3) := by decide +kernel
theorem dX6_price_34 : decode cX6_price 34 = .ok (.istore_n 3, 1) := by decide +kernel
theorem dX6_price_35 : decode cX6_price 35 = .ok (.aload_n 0, 1) := by decide +kernel
theorem dX6_price_36 : decode cX6_price 36 = .ok (.getfield 46, 3) := by decide +kernel
theorem dX6_price_39 : decode cX6_price 39 = .ok (.iconst 4, 1) := by decide +kernel
theorem dX6_price_40 : decode cX6_price 40 = .ok (.iload_n 1, 1) := by decide +kernel
theorem dX6_price_41 : decode cX6_price 41 = .ok (.iadd, 1) := by decide +kernel
theorem dX6_price_42 : decode cX6_price 42 = .ok (.iload_n 3, 1) := by decide +kernel
theorem dX6_price_43 : decode cX6_price 43 = .ok (.invokevirtual 151, 3) := by decide +kernel
theorem dX6_price_46 : decode cX6_price 46 = .ok (.aload_n 0, 1) := by decide +kernel
theorem dX6_price_47 : decode cX6_price 47 = .ok (.getfield 25, 3) := by decide +kernel
theorem dX6_price_50 : decode cX6_price 50 = .ok (.iload_n 1, 1) := by decide +kernel
theorem dX6_price_51 : decode cX6_price 51 = .ok (.iconst 4, 1) := by decide +kernel
theorem dX6_price_52 : decode cX6_price 52 = .ok (.iload_n 2, 1) := by decide +kernel
theorem dX6_price_53 : decode cX6_price 53 = .ok (.invokevirtual 183, 3) := by decide +kernel
theorem dX6_price_56 : decode cX6_price 56 = .ok (.iload_n 3, 1) := by decide +kernel
theorem dX6_price_57 : decode cX6_price 57 = .ok (.ireturn, 1) := by decide +kernel
theorem dX6_grade_0 : decode cX6_grade 0 = .ok (.aload_n 0, 1) := by decide +kernel
theorem dX6_grade_1 : decode cX6_grade 1 = .ok (.iload_n 1, 1) := by decide +kernel
theorem dX6_grade_2 : decode cX6_grade 2 = .ok (.invokevirtual 141, 3) := by decide +kernel
theorem dX6_grade_5 : decode cX6_grade 5 = .ok (.ifCond .eq 12, 3) := by decide +kernel
theorem dX6_grade_8 : decode cX6_grade 8 = .ok (.iload_n 2, 1) := by decide +kernel
theorem dX6_grade_9 : decode cX6_grade 9 = .ok (.ifCond .lt 8, 3) := by decide +kernel
theorem dX6_grade_12 : decode cX6_grade 12 = .ok (.iload_n 2, 1) := by decide +kernel
theorem dX6_grade_13 : decode cX6_grade 13 = .ok (.iconst 5, 1) := by decide +kernel
theorem dX6_grade_14 : decode cX6_grade 14 = .ok (.if_icmp .lt 6, 3) := by decide +kernel
theorem dX6_grade_17 : decode cX6_grade 17 = .ok (.ldc 62, 2) := by decide +kernel
theorem dX6_grade_19 : decode cX6_grade 19 = .ok (.ireturn, 1) := by decide +kernel
theorem dX6_grade_20 : decode cX6_grade 20 = .ok (.aload_n 0, 1) := by decide +kernel
theorem dX6_grade_21 : decode cX6_grade 21 = .ok (.getfield 25, 3) := by decide +kernel
theorem dX6_grade_24 : decode cX6_grade 24 = .ok (.iload_n 1, 1) := by decide +kernel
theorem dX6_grade_25 : decode cX6_grade 25 = .ok (.iload_n 2, 1) := by decide +kernel
theorem dX6_grade_26 : decode cX6_grade 26 = .ok (.invokevirtual 180, 3) := by decide +kernel
theorem dX6_grade_29 : decode cX6_grade 29 = .ok (.ireturn, 1) := by decide +kernel
theorem dX6_step_0 : decode cX6_step 0 = .ok (.aload_n 0, 1) := by decide +kernel
theorem dX6_step_1 : decode cX6_step 1 = .ok (.iload_n 1, 1) := by decide +kernel
theorem dX6_step_2 : decode cX6_step 2 = .ok (.invokevirtual 138, 3) := by decide +kernel
theorem dX6_step_5 : decode cX6_step 5 = .ok (.ifCond .ne 6, 3) := by decide +kernel
theorem dX6_step_8 : decode cX6_step 8 = .ok (.ldc 62, 2) := by decide +kernel
theorem dX6_step_10 : decode cX6_step 10 = .ok (.ireturn, 1) := by decide +kernel
theorem dX6_step_11 : decode cX6_step 11 = .ok (.iload_n 2, 1) := by decide +kernel
theorem dX6_step_12 : decode cX6_step 12 = .ok (.tableswitch 103 0 5 #[40, 50, 59, 68, 77, 94], 40) := by decide +kernel
theorem dX6_step_52 : decode cX6_step 52 = .ok (.aload_n 0, 1) := by decide +kernel
theorem dX6_step_53 : decode cX6_step 53 = .ok (.getfield 25, 3) := by decide +kernel
theorem dX6_step_56 : decode cX6_step 56 = .ok (.getfield 144, 3) := by decide +kernel
theorem dX6_step_59 : decode cX6_step 59 = .ok (.iload_n 1, 1) := by decide +kernel
theorem dX6_step_60 : decode cX6_step 60 = .ok (.iaload, 1) := by decide +kernel
theorem dX6_step_61 : decode cX6_step 61 = .ok (.ireturn, 1) := by decide +kernel
theorem dX6_step_62 : decode cX6_step 62 = .ok (.aload_n 0, 1) := by decide +kernel
theorem dX6_step_63 : decode cX6_step 63 = .ok (.getfield 25, 3) := by decide +kernel
theorem dX6_step_66 : decode cX6_step 66 = .ok (.iload_n 1, 1) := by decide +kernel
theorem dX6_step_67 : decode cX6_step 67 = .ok (.invokevirtual 187, 3) := by decide +kernel
theorem dX6_step_70 : decode cX6_step 70 = .ok (.ireturn, 1) := by decide +kernel
theorem dX6_step_71 : decode cX6_step 71 = .ok (.aload_n 0, 1) := by decide +kernel
theorem dX6_step_72 : decode cX6_step 72 = .ok (.getfield 25, 3) := by decide +kernel
theorem dX6_step_75 : decode cX6_step 75 = .ok (.iload_n 1, 1) := by decide +kernel
theorem dX6_step_76 : decode cX6_step 76 = .ok (.invokevirtual 190, 3) := by decide +kernel
theorem dX6_step_79 : decode cX6_step 79 = .ok (.ireturn, 1) := by decide +kernel
theorem dX6_step_80 : decode cX6_step 80 = .ok (.aload_n 0, 1) := by decide +kernel
theorem dX6_step_81 : decode cX6_step 81 = .ok (.getfield 25, 3) := by decide +kernel
theorem dX6_step_84 : decode cX6_step 84 = .ok (.iload_n 1, 1) := by decide +kernel
theorem dX6_step_85 : decode cX6_step 85 = .ok (.invokevirtual 193, 3) := by decide +kernel
theorem dX6_step_88 : decode cX6_step 88 = .ok (.ireturn, 1) := by decide +kernel
theorem dX6_step_89 : decode cX6_step 89 = .ok (.aload_n 0, 1) := by decide +kernel
theorem dX6_step_90 : decode cX6_step 90 = .ok (.getfield 25, 3) := by decide +kernel
theorem dX6_step_93 : decode cX6_step 93 = .ok (.iload_n 1, 1) := by decide +kernel
theorem dX6_step_94 : decode cX6_step 94 = .ok (.invokevirtual 196, 3) := by decide +kernel
theorem dX6_step_97 : decode cX6_step 97 = .ok (.ifCond .eq 7, 3) := by decide +kernel
theorem dX6_step_100 : decode cX6_step 100 = .ok (.iconst 1, 1) := by decide +kernel
theorem dX6_step_101 : decode cX6_step 101 = .ok (.goto 4, 3) := by decide +kernel
theorem dX6_step_104 : decode cX6_step 104 = .ok (.iconst 0, 1) := by decide +kernel
theorem dX6_step_105 : decode cX6_step 105 = .ok (.ireturn, 1) := by decide +kernel
theorem dX6_step_106 : decode cX6_step 106 = .ok (.aload_n 0, 1) := by decide +kernel
theorem dX6_step_107 : decode cX6_step 107 = .ok (.getfield 25, 3) := by decide +kernel
theorem dX6_step_110 : decode cX6_step 110 = .ok (.iload_n 1, 1) := by decide +kernel
theorem dX6_step_111 : decode cX6_step 111 = .ok (.invokevirtual 199, 3) := by decide +kernel
theorem dX6_step_114 : decode cX6_step 114 = .ok (.ireturn, 1) := by decide +kernel
theorem dX6_step_115 : decode cX6_step 115 = .ok (.ldc 62, 2) := by decide +kernel
theorem dX6_step_117 : decode cX6_step 117 = .ok (.ireturn, 1) := by decide +kernel
theorem dX6_bears_0 : decode cX6_bears 0 = .ok (.aload_n 0, 1) := by decide +kernel
theorem dX6_bears_1 : decode cX6_bears 1 = .ok (.iload_n 1, 1) := by decide +kernel
theorem dX6_bears_2 : decode cX6_bears 2 = .ok (.invokevirtual 138, 3) := by decide +kernel
theorem dX6_bears_5 : decode cX6_bears 5 = .ok (.ifCond .eq 12, 3) := by decide +kernel
theorem dX6_bears_8 : decode cX6_bears 8 = .ok (.iload_n 2, 1) := by decide +kernel
theorem dX6_bears_9 : decode cX6_bears 9 = .ok (.ifCond .lt 8, 3) := by decide +kernel
theorem dX6_bears_12 : decode cX6_bears 12 = .ok (.iload_n 2, 1) := by decide +kernel
theorem dX6_bears_13 : decode cX6_bears 13 = .ok (.iconst 2, 1) := by decide +kernel
theorem dX6_bears_14 : decode cX6_bears 14 = .ok (.if_icmp .le 6, 3) := by decide +kernel
theorem dX6_bears_17 : decode cX6_bears 17 = .ok (.ldc 62, 2) := by decide +kernel
theorem dX6_bears_19 : decode cX6_bears 19 = .ok (.ireturn, 1) := by decide +kernel
theorem dX6_bears_20 : decode cX6_bears 20 = .ok (.aload_n 0, 1) := by decide +kernel
theorem dX6_bears_21 : decode cX6_bears 21 = .ok (.getfield 25, 3) := by decide +kernel
theorem dX6_bears_24 : decode cX6_bears 24 = .ok (.getfield 144, 3) := by decide +kernel
theorem dX6_bears_27 : decode cX6_bears 27 = .ok (.iload_n 1, 1) := by decide +kernel
theorem dX6_bears_28 : decode cX6_bears 28 = .ok (.iaload, 1) := by decide +kernel
theorem dX6_bears_29 : decode cX6_bears 29 = .ok (.istore_n 3, 1) := by decide +kernel
theorem dX6_bears_30 : decode cX6_bears 30 = .ok (.iload_n 3, 1) := by decide +kernel
theorem dX6_bears_31 : decode cX6_bears 31 = .ok (.iconst (-1), 1) := by decide +kernel
theorem dX6_bears_32 : decode cX6_bears 32 = .ok (.if_icmp .ne 6, 3) := by decide +kernel
theorem dX6_bears_35 : decode cX6_bears 35 = .ok (.ldc 134, 2) := by decide +kernel
theorem dX6_bears_37 : decode cX6_bears 37 = .ok (.ireturn, 1) := by decide +kernel
theorem dX6_bears_38 : decode cX6_bears 38 = .ok (.iload_n 2, 1) := by decide +kernel
theorem dX6_bears_39 : decode cX6_bears 39 = .ok (.lookupswitch 51 #[(0, 25), (1, 34)], 25) := by decide +kernel
theorem dX6_bears_64 : decode cX6_bears 64 = .ok (.aload_n 0, 1) := by decide +kernel
theorem dX6_bears_65 : decode cX6_bears 65 = .ok (.getfield 25, 3) := by decide +kernel
theorem dX6_bears_68 : decode cX6_bears 68 = .ok (.iload_n 3, 1) := by decide +kernel
theorem dX6_bears_69 : decode cX6_bears 69 = .ok (.invokevirtual 202, 3) := by decide +kernel
theorem dX6_bears_72 : decode cX6_bears 72 = .ok (.ireturn, 1) := by decide +kernel
theorem dX6_bears_73 : decode cX6_bears 73 = .ok (.aload_n 0, 1) := by decide +kernel
theorem dX6_bears_74 : decode cX6_bears 74 = .ok (.getfield 25, 3) := by decide +kernel
theorem dX6_bears_77 : decode cX6_bears 77 = .ok (.iload_n 3, 1) := by decide +kernel
theorem dX6_bears_78 : decode cX6_bears 78 = .ok (.aload_n 0, 1) := by decide +kernel
theorem dX6_bears_79 : decode cX6_bears 79 = .ok (.getfield 25, 3) := by decide +kernel
theorem dX6_bears_82 : decode cX6_bears 82 = .ok (.iload_n 1, 1) := by decide +kernel
theorem dX6_bears_83 : decode cX6_bears 83 = .ok (.invokevirtual 193, 3) := by decide +kernel
theorem dX6_bears_86 : decode cX6_bears 86 = .ok (.invokevirtual 205, 3) := by decide +kernel
theorem dX6_bears_89 : decode cX6_bears 89 = .ok (.ireturn, 1) := by decide +kernel
theorem dX6_bears_90 : decode cX6_bears 90 = .ok (.aload_n 0, 1) := by decide +kernel
theorem dX6_bears_91 : decode cX6_bears 91 = .ok (.getfield 25, 3) := by decide +kernel
theorem dX6_bears_94 : decode cX6_bears 94 = .ok (.iload_n 3, 1) := by decide +kernel
theorem dX6_bears_95 : decode cX6_bears 95 = .ok (.invokevirtual 208, 3) := by decide +kernel
theorem dX6_bears_98 : decode cX6_bears 98 = .ok (.ireturn, 1) := by decide +kernel
theorem dX6_stand_0 : decode cX6_stand 0 = .ok (.aload_n 0, 1) := by decide +kernel
theorem dX6_stand_1 : decode cX6_stand 1 = .ok (.invokevirtual 154, 3) := by decide +kernel
theorem dX6_stand_4 : decode cX6_stand 4 = .ok (.ifCond .eq 6, 3) := by decide +kernel
theorem dX6_stand_7 : decode cX6_stand 7 = .ok (.ldc 134, 2) := by decide +kernel
theorem dX6_stand_9 : decode cX6_stand 9 = .ok (.ireturn, 1) := by decide +kernel
theorem dX6_stand_10 : decode cX6_stand 10 = .ok (.iload_n 1, 1) := by decide +kernel
theorem dX6_stand_11 : decode cX6_stand 11 = .ok (.tableswitch 139 0 8 #[49, 57, 67, 77, 87, 97, 106, 115, 123], 49) := by decide +kernel
theorem dX6_stand_60 : decode cX6_stand 60 = .ok (.aload_n 0, 1) := by decide +kernel
theorem dX6_stand_61 : decode cX6_stand 61 = .ok (.getfield 25, 3) := by decide +kernel
theorem dX6_stand_64 : decode cX6_stand 64 = .ok (.getfield 211, 3) := by decide +kernel
theorem dX6_stand_67 : decode cX6_stand 67 = .ok (.ireturn, 1) := by decide +kernel
theorem dX6_stand_68 : decode cX6_stand 68 = .ok (.aload_n 0, 1) := by decide +kernel
theorem dX6_stand_69 : decode cX6_stand 69 = .ok (.getfield 25, 3) := by decide +kernel
theorem dX6_stand_72 : decode cX6_stand 72 = .ok (.getfield 174, 3) := by decide +kernel
theorem dX6_stand_75 : decode cX6_stand 75 = .ok (.iconst 3, 1) := by decide +kernel
theorem dX6_stand_76 : decode cX6_stand 76 = .ok (.iaload, 1) := by decide +kernel
theorem dX6_stand_77 : decode cX6_stand 77 = .ok (.ireturn, 1) := by decide +kernel
theorem dX6_stand_78 : decode cX6_stand 78 = .ok (.aload_n 0, 1) := by decide +kernel
theorem dX6_stand_79 : decode cX6_stand 79 = .ok (.getfield 25, 3) := by decide +kernel
theorem dX6_stand_82 : decode cX6_stand 82 = .ok (.getfield 174, 3) := by decide +kernel
theorem dX6_stand_85 : decode cX6_stand 85 = .ok (.iconst 0, 1) := by decide +kernel
theorem dX6_stand_86 : decode cX6_stand 86 = .ok (.iaload, 1) := by decide +kernel
theorem dX6_stand_87 : decode cX6_stand 87 = .ok (.ireturn, 1) := by decide +kernel
theorem dX6_stand_88 : decode cX6_stand 88 = .ok (.aload_n 0, 1) := by decide +kernel
theorem dX6_stand_89 : decode cX6_stand 89 = .ok (.getfield 25, 3) := by decide +kernel
theorem dX6_stand_92 : decode cX6_stand 92 = .ok (.getfield 174, 3) := by decide +kernel
theorem dX6_stand_95 : decode cX6_stand 95 = .ok (.iconst 1, 1) := by decide +kernel
theorem dX6_stand_96 : decode cX6_stand 96 = .ok (.iaload, 1) := by decide +kernel
theorem dX6_stand_97 : decode cX6_stand 97 = .ok (.ireturn, 1) := by decide +kernel
theorem dX6_stand_98 : decode cX6_stand 98 = .ok (.aload_n 0, 1) := by decide +kernel
theorem dX6_stand_99 : decode cX6_stand 99 = .ok (.getfield 25, 3) := by decide +kernel
theorem dX6_stand_102 : decode cX6_stand 102 = .ok (.getfield 174, 3) := by decide +kernel
theorem dX6_stand_105 : decode cX6_stand 105 = .ok (.iconst 2, 1) := by decide +kernel
theorem dX6_stand_106 : decode cX6_stand 106 = .ok (.iaload, 1) := by decide +kernel
theorem dX6_stand_107 : decode cX6_stand 107 = .ok (.ireturn, 1) := by decide +kernel
theorem dX6_stand_108 : decode cX6_stand 108 = .ok (.aload_n 0, 1) := by decide +kernel
theorem dX6_stand_109 : decode cX6_stand 109 = .ok (.getfield 25, 3) := by decide +kernel
theorem dX6_stand_112 : decode cX6_stand 112 = .ok (.iconst 4, 1) := by decide +kernel
theorem dX6_stand_113 : decode cX6_stand 113 = .ok (.invokevirtual 214, 3) := by decide +kernel
theorem dX6_stand_116 : decode cX6_stand 116 = .ok (.ireturn, 1) := by decide +kernel
theorem dX6_stand_117 : decode cX6_stand 117 = .ok (.aload_n 0, 1) := by decide +kernel
theorem dX6_stand_118 : decode cX6_stand 118 = .ok (.getfield 25, 3) := by decide +kernel
theorem dX6_stand_121 : decode cX6_stand 121 = .ok (.iconst 3, 1) := by decide +kernel
theorem dX6_stand_122 : decode cX6_stand 122 = .ok (.invokevirtual 214, 3) := by decide +kernel
theorem dX6_stand_125 : decode cX6_stand 125 = .ok (.ireturn, 1) := by decide +kernel
theorem dX6_stand_126 : decode cX6_stand 126 = .ok (.aload_n 0, 1) := by decide +kernel
theorem dX6_stand_127 : decode cX6_stand 127 = .ok (.getfield 25, 3) := by decide +kernel
theorem dX6_stand_130 : decode cX6_stand 130 = .ok (.invokevirtual 217, 3) := by decide +kernel
theorem dX6_stand_133 : decode cX6_stand 133 = .ok (.ireturn, 1) := by decide +kernel
theorem dX6_stand_134 : decode cX6_stand 134 = .ok (.aload_n 0, 1) := by decide +kernel
theorem dX6_stand_135 : decode cX6_stand 135 = .ok (.getfield 25, 3) := by decide +kernel
theorem dX6_stand_138 : decode cX6_stand 138 = .ok (.invokevirtual 220, 3) := by decide +kernel
theorem dX6_stand_141 : decode cX6_stand 141 = .ok (.ifCond .eq 7, 3) := by decide +kernel
theorem dX6_stand_144 : decode cX6_stand 144 = .ok (.iconst 1, 1) := by decide +kernel
theorem dX6_stand_145 : decode cX6_stand 145 = .ok (.goto 4, 3) := by decide +kernel
theorem dX6_stand_148 : decode cX6_stand 148 = .ok (.iconst 0, 1) := by decide +kernel
theorem dX6_stand_149 : decode cX6_stand 149 = .ok (.ireturn, 1) := by decide +kernel
theorem dX6_stand_150 : decode cX6_stand 150 = .ok (.ldc 62, 2) := by decide +kernel
theorem dX6_stand_152 : decode cX6_stand 152 = .ok (.ireturn, 1) := by decide +kernel
theorem dX6_best_0 : decode cX6_best 0 = .ok (.aload_n 0, 1) := by decide +kernel
theorem dX6_best_1 : decode cX6_best 1 = .ok (.invokevirtual 154, 3) := by decide +kernel
theorem dX6_best_4 : decode cX6_best 4 = .ok (.ifCond .eq 6, 3) := by decide +kernel
theorem dX6_best_7 : decode cX6_best 7 = .ok (.ldc 134, 2) := by decide +kernel
theorem dX6_best_9 : decode cX6_best 9 = .ok (.ireturn, 1) := by decide +kernel
theorem dX6_best_10 : decode cX6_best 10 = .ok (.iload_n 1, 1) := by decide +kernel
theorem dX6_best_11 : decode cX6_best 11 = .ok (.ifCond .eq 31, 3) := by decide +kernel
theorem dX6_best_14 : decode cX6_best 14 = .ok (.iload_n 1, 1) := by decide +kernel
theorem dX6_best_15 : decode cX6_best 15 = .ok (.iconst 1, 1) := by decide +kernel
theorem dX6_best_16 : decode cX6_best 16 = .ok (.if_icmp .eq 26, 3) := by decide +kernel
theorem dX6_best_19 : decode cX6_best 19 = .ok (.iload_n 1, 1) := by decide +kernel
theorem dX6_best_20 : decode cX6_best 20 = .ok (.bipush 10, 2) := by decide +kernel
theorem dX6_best_22 : decode cX6_best 22 = .ok (.if_icmp .lt 17, 3) := by decide +kernel
theorem dX6_best_25 : decode cX6_best 25 = .ok (.iload_n 1, 1) := by decide +kernel
theorem dX6_best_26 : decode cX6_best 26 = .ok (.bipush 10, 2) := by decide +kernel
theorem dX6_best_28 : decode cX6_best 28 = .ok (.isub, 1) := by decide +kernel
theorem dX6_best_29 : decode cX6_best 29 = .ok (.aload_n 0, 1) := by decide +kernel
theorem dX6_best_30 : decode cX6_best 30 = .ok (.getfield 25, 3) := by decide +kernel
theorem dX6_best_33 : decode cX6_best 33 = .ok (.getfield 211, 3) := by decide +kernel
theorem dX6_best_36 : decode cX6_best 36 = .ok (.if_icmp .lt 6, 3) := by decide +kernel
theorem dX6_best_39 : decode cX6_best 39 = .ok (.ldc 62, 2) := by decide +kernel
theorem dX6_best_41 : decode cX6_best 41 = .ok (.ireturn, 1) := by decide +kernel
theorem dX6_best_42 : decode cX6_best 42 = .ok (.aload_n 0, 1) := by decide +kernel
theorem dX6_best_43 : decode cX6_best 43 = .ok (.getfield 39, 3) := by decide +kernel
theorem dX6_best_46 : decode cX6_best 46 = .ok (.aload_n 0, 1) := by decide +kernel
theorem dX6_best_47 : decode cX6_best 47 = .ok (.getfield 25, 3) := by decide +kernel
theorem dX6_best_50 : decode cX6_best 50 = .ok (.ldc 157, 2) := by decide +kernel
theorem dX6_best_52 : decode cX6_best 52 = .ok (.invokevirtual 158, 3) := by decide +kernel
theorem dX6_best_55 : decode cX6_best 55 = .ok (.ifCond .ne 6, 3) := by decide +kernel
theorem dX6_best_58 : decode cX6_best 58 = .ok (.ldc 157, 2) := by decide +kernel
theorem dX6_best_60 : decode cX6_best 60 = .ok (.ireturn, 1) := by decide +kernel
theorem dX6_best_61 : decode cX6_best 61 = .ok (.iload_n 1, 1) := by decide +kernel
theorem dX6_best_62 : decode cX6_best 62 = .ok (.lookupswitch 42 #[(0, 26), (1, 34)], 26) := by decide +kernel
theorem dX6_best_88 : decode cX6_best 88 = .ok (.aload_n 0, 1) := by decide +kernel
theorem dX6_best_89 : decode cX6_best 89 = .ok (.getfield 39, 3) := by decide +kernel
theorem dX6_best_92 : decode cX6_best 92 = .ok (.getfield 165, 3) := by decide +kernel
theorem dX6_best_95 : decode cX6_best 95 = .ok (.ireturn, 1) := by decide +kernel
theorem dX6_best_96 : decode cX6_best 96 = .ok (.aload_n 0, 1) := by decide +kernel
theorem dX6_best_97 : decode cX6_best 97 = .ok (.getfield 39, 3) := by decide +kernel
theorem dX6_best_100 : decode cX6_best 100 = .ok (.getfield 223, 3) := by decide +kernel
theorem dX6_best_103 : decode cX6_best 103 = .ok (.ireturn, 1) := by decide +kernel
theorem dX6_best_104 : decode cX6_best 104 = .ok (.aload_n 0, 1) := by decide +kernel
theorem dX6_best_105 : decode cX6_best 105 = .ok (.getfield 39, 3) := by decide +kernel
theorem dX6_best_108 : decode cX6_best 108 = .ok (.getfield 162, 3) := by decide +kernel
theorem dX6_best_111 : decode cX6_best 111 = .ok (.iload_n 1, 1) := by decide +kernel
theorem dX6_best_112 : decode cX6_best 112 = .ok (.bipush 10, 2) := by decide +kernel
theorem dX6_best_114 : decode cX6_best 114 = .ok (.isub, 1) := by decide +kernel
theorem dX6_best_115 : decode cX6_best 115 = .ok (.iaload, 1) := by decide +kernel
theorem dX6_best_116 : decode cX6_best 116 = .ok (.ireturn, 1) := by decide +kernel
theorem dX6_without_0 : decode cX6_without 0 = .ok (.aload_n 0, 1) := by decide +kernel
theorem dX6_without_1 : decode cX6_without 1 = .ok (.iload_n 1, 1) := by decide +kernel
theorem dX6_without_2 : decode cX6_without 2 = .ok (.invokevirtual 141, 3) := by decide +kernel
theorem dX6_without_5 : decode cX6_without 5 = .ok (.ifCond .ne 6, 3) := by decide +kernel
theorem dX6_without_8 : decode cX6_without 8 = .ok (.ldc 62, 2) := by decide +kernel
theorem dX6_without_10 : decode cX6_without 10 = .ok (.ireturn, 1) := by decide +kernel
theorem dX6_without_11 : decode cX6_without 11 = .ok (.aload_n 0, 1) := by decide +kernel
theorem dX6_without_12 : decode cX6_without 12 = .ok (.getfield 39, 3) := by decide +kernel
theorem dX6_without_15 : decode cX6_without 15 = .ok (.aload_n 0, 1) := by decide +kernel
theorem dX6_without_16 : decode cX6_without 16 = .ok (.getfield 25, 3) := by decide +kernel
theorem dX6_without_19 : decode cX6_without 19 = .ok (.iload_n 1, 1) := by decide +kernel
theorem dX6_without_20 : decode cX6_without 20 = .ok (.invokevirtual 158, 3) := by decide +kernel
theorem dX6_without_23 : decode cX6_without 23 = .ok (.ifCond .eq 13, 3) := by decide +kernel
theorem dX6_without_26 : decode cX6_without 26 = .ok (.aload_n 0, 1) := by decide +kernel
theorem dX6_without_27 : decode cX6_without 27 = .ok (.getfield 39, 3) := by decide +kernel
theorem dX6_without_30 : decode cX6_without 30 = .ok (.getfield 165, 3) := by decide +kernel
theorem dX6_without_33 : decode cX6_without 33 = .ok (.goto 5, 3) := by decide +kernel
theorem dX6_without_36 : decode cX6_without 36 = .ok (.ldc 157, 2) := by decide +kernel
theorem dX6_without_38 : decode cX6_without 38 = .ok (.ireturn, 1) := by decide +kernel
theorem dX6_most_0 : decode cX6_most 0 = .ok (.aload_n 0, 1) := by decide +kernel
theorem dX6_most_1 : decode cX6_most 1 = .ok (.invokevirtual 154, 3) := by decide +kernel
theorem dX6_most_4 : decode cX6_most 4 = .ok (.ifCond .eq 6, 3) := by decide +kernel
theorem dX6_most_7 : decode cX6_most 7 = .ok (.ldc 134, 2) := by decide +kernel
theorem dX6_most_9 : decode cX6_most 9 = .ok (.ireturn, 1) := by decide +kernel
theorem dX6_most_10 : decode cX6_most 10 = .ok (.iload_n 1, 1) := by decide +kernel
theorem dX6_most_11 : decode cX6_most 11 = .ok (.ifCond .eq 11, 3) := by decide +kernel
theorem dX6_most_14 : decode cX6_most 14 = .ok (.iload_n 1, 1) := by decide +kernel
theorem dX6_most_15 : decode cX6_most 15 = .ok (.iconst 1, 1) := by decide +kernel
theorem dX6_most_16 : decode cX6_most 16 = .ok (.if_icmp .eq 6, 3) := by decide +kernel
theorem dX6_most_19 : decode cX6_most 19 = .ok (.ldc 62, 2) := by decide +kernel
theorem dX6_most_21 : decode cX6_most 21 = .ok (.ireturn, 1) := by decide +kernel
theorem dX6_most_22 : decode cX6_most 22 = .ok (.aload_n 0, 1) := by decide +kernel
theorem dX6_most_23 : decode cX6_most 23 = .ok (.getfield 29, 3) := by decide +kernel
theorem dX6_most_26 : decode cX6_most 26 = .ok (.aload_n 0, 1) := by decide +kernel
theorem dX6_most_27 : decode cX6_most 27 = .ok (.getfield 25, 3) := by decide +kernel
theorem dX6_most_30 : decode cX6_most 30 = .ok (.invokevirtual 118, 3) := by decide +kernel
theorem dX6_most_33 : decode cX6_most 33 = .ok (.iload_n 1, 1) := by decide +kernel
theorem dX6_most_34 : decode cX6_most 34 = .ok (.ifCond .ne 8, 3) := by decide +kernel
theorem dX6_most_37 : decode cX6_most 37 = .ok (.bipush 40, 2) := by decide +kernel
theorem dX6_most_39 : decode cX6_most 39 = .ok (.goto 5, 3) := by decide +kernel
theorem dX6_most_42 : decode cX6_most 42 = .ok (.bipush 99, 2) := by decide +kernel
theorem dX6_most_44 : decode cX6_most 44 = .ok (.istore_n 2, 1) := by decide +kernel
theorem dX6_most_45 : decode cX6_most 45 = .ok (.iload_n 2, 1) := by decide +kernel
theorem dX6_most_46 : decode cX6_most 46 = .ok (.ifCond .lt 33, 3) := by decide +kernel
theorem dX6_most_49 : decode cX6_most 49 = .ok (.aload_n 0, 1) := by decide +kernel
theorem dX6_most_50 : decode cX6_most 50 = .ok (.getfield 29, 3) := by decide +kernel
theorem dX6_most_53 : decode cX6_most 53 = .ok (.getfield 174, 3) := by decide +kernel
theorem dX6_most_56 : decode cX6_most 56 = .ok (.iload_n 1, 1) := by decide +kernel
theorem dX6_most_57 : decode cX6_most 57 = .ok (.iload_n 2, 1) := by decide +kernel
theorem dX6_most_58 : decode cX6_most 58 = .ok (.iastore, 1) := by decide +kernel
theorem dX6_most_59 : decode cX6_most 59 = .ok (.aload_n 0, 1) := by decide +kernel
theorem dX6_most_60 : decode cX6_most 60 = .ok (.getfield 29, 3) := by decide +kernel
theorem dX6_most_63 : decode cX6_most 63 = .ok (.invokevirtual 217, 3) := by decide +kernel
theorem dX6_most_66 : decode cX6_most 66 = .ok (.ldc 157, 2) := by decide +kernel
theorem dX6_most_68 : decode cX6_most 68 = .ok (.if_icmp .ne 5, 3) := by decide +kernel
theorem dX6_most_71 : decode cX6_most 71 = .ok (.iload_n 2, 1) := by decide +kernel
theorem dX6_most_72 : decode cX6_most 72 = .ok (.ireturn, 1) := by decide +kernel
theorem dX6_most_73 : decode cX6_most 73 = .ok (.iinc 2 (-1), 3) := by decide +kernel
theorem dX6_most_76 : decode cX6_most 76 = .ok (.goto (-31), 3) := by decide +kernel
theorem dX6_most_79 : decode cX6_most 79 = .ok (.ldc 157, 2) := by decide +kernel
theorem dX6_most_81 : decode cX6_most 81 = .ok (.ireturn, 1) := by decide +kernel
theorem dX6_need_0 : decode cX6_need 0 = .ok (.aload_n 0, 1) := by decide +kernel
theorem dX6_need_1 : decode cX6_need 1 = .ok (.iload_n 1, 1) := by decide +kernel
theorem dX6_need_2 : decode cX6_need 2 = .ok (.invokevirtual 138, 3) := by decide +kernel
theorem dX6_need_5 : decode cX6_need 5 = .ok (.ifCond .ne 6, 3) := by decide +kernel
theorem dX6_need_8 : decode cX6_need 8 = .ok (.ldc 62, 2) := by decide +kernel
theorem dX6_need_10 : decode cX6_need 10 = .ok (.ireturn, 1) := by decide +kernel
theorem dX6_need_11 : decode cX6_need 11 = .ok (.aload_n 0, 1) := by decide +kernel
theorem dX6_need_12 : decode cX6_need 12 = .ok (.getfield 29, 3) := by decide +kernel
theorem dX6_need_15 : decode cX6_need 15 = .ok (.aload_n 0, 1) := by decide +kernel
theorem dX6_need_16 : decode cX6_need 16 = .ok (.getfield 25, 3) := by decide +kernel
theorem dX6_need_19 : decode cX6_need 19 = .ok (.invokevirtual 118, 3) := by decide +kernel
theorem dX6_need_22 : decode cX6_need 22 = .ok (.iconst 0, 1) := by decide +kernel
theorem dX6_need_23 : decode cX6_need 23 = .ok (.istore_n 2, 1) := by decide +kernel
theorem dX6_need_24 : decode cX6_need 24 = .ok (.iconst 0, 1) := by decide +kernel
theorem dX6_need_25 : decode cX6_need 25 = .ok (.istore_n 3, 1) := by decide +kernel
theorem dX6_need_26 : decode cX6_need 26 = .ok (.iload_n 3, 1) := by decide +kernel
theorem dX6_need_27 : decode cX6_need 27 = .ok (.aload_n 0, 1) := by decide +kernel
theorem dX6_need_28 : decode cX6_need 28 = .ok (.getfield 25, 3) := by decide +kernel
theorem dX6_need_31 : decode cX6_need 31 = .ok (.getfield 125, 3) := by decide +kernel
theorem dX6_need_34 : decode cX6_need 34 = .ok (.if_icmp .ge 36, 3) := by decide +kernel
theorem dX6_need_37 : decode cX6_need 37 = .ok (.aload_n 0, 1) := by decide +kernel
theorem dX6_need_38 : decode cX6_need 38 = .ok (.getfield 29, 3) := by decide +kernel
theorem dX6_need_41 : decode cX6_need 41 = .ok (.getfield 144, 3) := by decide +kernel
theorem dX6_need_44 : decode cX6_need 44 = .ok (.iload_n 1, 1) := by decide +kernel
theorem dX6_need_45 : decode cX6_need 45 = .ok (.iload_n 3, 1) := by decide +kernel
theorem dX6_need_46 : decode cX6_need 46 = .ok (.iastore, 1) := by decide +kernel
theorem dX6_need_47 : decode cX6_need 47 = .ok (.aload_n 0, 1) := by decide +kernel
theorem dX6_need_48 : decode cX6_need 48 = .ok (.getfield 29, 3) := by decide +kernel
theorem dX6_need_51 : decode cX6_need 51 = .ok (.iload_n 1, 1) := by decide +kernel
theorem dX6_need_52 : decode cX6_need 52 = .ok (.invokevirtual 196, 3) := by decide +kernel
theorem dX6_need_55 : decode cX6_need 55 = .ok (.ifCond .eq 9, 3) := by decide +kernel
theorem dX6_need_58 : decode cX6_need 58 = .ok (.iload_n 2, 1) := by decide +kernel
theorem dX6_need_59 : decode cX6_need 59 = .ok (.iconst 1, 1) := by decide +kernel
theorem dX6_need_60 : decode cX6_need 60 = .ok (.iload_n 3, 1) := by decide +kernel
theorem dX6_need_61 : decode cX6_need 61 = .ok (.ishl, 1) := by decide +kernel
theorem dX6_need_62 : decode cX6_need 62 = .ok (.ior, 1) := by decide +kernel
theorem dX6_need_63 : decode cX6_need 63 = .ok (.istore_n 2, 1) := by decide +kernel
theorem dX6_need_64 : decode cX6_need 64 = .ok (.iinc 3 1, 3) := by decide +kernel
theorem dX6_need_67 : decode cX6_need 67 = .ok (.goto (-41), 3) := by decide +kernel
theorem dX6_need_70 : decode cX6_need 70 = .ok (.iload_n 2, 1) := by decide +kernel
theorem dX6_need_71 : decode cX6_need 71 = .ok (.ireturn, 1) := by decide +kernel
theorem dX6_sets_0 : decode cX6_sets 0 = .ok (.aload_n 0, 1) := by decide +kernel
theorem dX6_sets_1 : decode cX6_sets 1 = .ok (.invokevirtual 154, 3) := by decide +kernel
theorem dX6_sets_4 : decode cX6_sets 4 = .ok (.ifCond .eq 6, 3) := by decide +kernel
theorem dX6_sets_7 : decode cX6_sets 7 = .ok (.ldc 134, 2) := by decide +kernel
theorem dX6_sets_9 : decode cX6_sets 9 = .ok (.ireturn, 1) := by decide +kernel
theorem dX6_sets_10 : decode cX6_sets 10 = .ok (.iload_n 1, 1) := by decide +kernel
theorem dX6_sets_11 : decode cX6_sets 11 = .ok (.ifCond .lt 19, 3) := by decide +kernel
theorem dX6_sets_14 : decode cX6_sets 14 = .ok (.iload_n 1, 1) := by decide +kernel
theorem dX6_sets_15 : decode cX6_sets 15 = .ok (.sipush 792, 3) := by decide +kernel
theorem dX6_sets_18 : decode cX6_sets 18 = .ok (.if_icmp .gt 12, 3) := by decide +kernel
theorem dX6_sets_21 : decode cX6_sets 21 = .ok (.iload_n 2, 1) := by decide +kernel
theorem dX6_sets_22 : decode cX6_sets 22 = .ok (.ifCond .lt 8, 3) := by decide +kernel
theorem dX6_sets_25 : decode cX6_sets 25 = .ok (.iload_n 2, 1) := by decide +kernel
theorem dX6_sets_26 : decode cX6_sets 26 = .ok (.iconst 2, 1) := by decide +kernel
theorem dX6_sets_27 : decode cX6_sets 27 = .ok (.if_icmp .le 6, 3) := by decide +kernel
theorem dX6_sets_30 : decode cX6_sets 30 = .ok (.ldc 62, 2) := by decide +kernel
theorem dX6_sets_32 : decode cX6_sets 32 = .ok (.ireturn, 1) := by decide +kernel
theorem dX6_sets_33 : decode cX6_sets 33 = .ok (.iconst 0, 1) := by decide +kernel
theorem dX6_sets_34 : decode cX6_sets 34 = .ok (.istore_n 3, 1) := by decide +kernel
theorem dX6_sets_35 : decode cX6_sets 35 = .ok (.iconst (-1), 1) := by decide +kernel
theorem dX6_sets_36 : decode cX6_sets 36 = .ok (.istore 4, 2) := by decide +kernel
theorem dX6_sets_38 : decode cX6_sets 38 = .ok (.iconst 0, 1) := by decide +kernel
theorem dX6_sets_39 : decode cX6_sets 39 = .ok (.istore 5, 2) := by decide +kernel
theorem dX6_sets_41 : decode cX6_sets 41 = .ok (.iconst 0, 1) := by decide +kernel
theorem dX6_sets_42 : decode cX6_sets 42 = .ok (.istore 6, 2) := by decide +kernel
theorem dX6_sets_44 : decode cX6_sets 44 = .ok (.iload 6, 2) := by decide +kernel
theorem dX6_sets_46 : decode cX6_sets 46 = .ok (.iconst 1, 1) := by decide +kernel
theorem dX6_sets_47 : decode cX6_sets 47 = .ok (.aload_n 0, 1) := by decide +kernel
theorem dX6_sets_48 : decode cX6_sets 48 = .ok (.getfield 25, 3) := by decide +kernel
theorem dX6_sets_51 : decode cX6_sets 51 = .ok (.getfield 211, 3) := by decide +kernel
theorem dX6_sets_54 : decode cX6_sets 54 = .ok (.ishl, 1) := by decide +kernel
theorem dX6_sets_55 : decode cX6_sets 55 = .ok (.if_icmp .ge 39, 3) := by decide +kernel
theorem dX6_sets_58 : decode cX6_sets 58 = .ok (.aload_n 0, 1) := by decide +kernel
theorem dX6_sets_59 : decode cX6_sets 59 = .ok (.getfield 25, 3) := by decide +kernel
theorem dX6_sets_62 : decode cX6_sets 62 = .ok (.iload 6, 2) := by decide +kernel
theorem dX6_sets_64 : decode cX6_sets 64 = .ok (.invokevirtual 226, 3) := by decide +kernel
theorem dX6_sets_67 : decode cX6_sets 67 = .ok (.iload_n 1, 1) := by decide +kernel
theorem dX6_sets_68 : decode cX6_sets 68 = .ok (.if_icmp .ne 20, 3) := by decide +kernel
theorem dX6_sets_71 : decode cX6_sets 71 = .ok (.iinc 3 1, 3) := by decide +kernel
theorem dX6_sets_74 : decode cX6_sets 74 = .ok (.iload 4, 2) := by decide +kernel
theorem dX6_sets_76 : decode cX6_sets 76 = .ok (.iload 6, 2) := by decide +kernel
theorem dX6_sets_78 : decode cX6_sets 78 = .ok (.iand, 1) := by decide +kernel
theorem dX6_sets_79 : decode cX6_sets 79 = .ok (.istore 4, 2) := by decide +kernel
theorem dX6_sets_81 : decode cX6_sets 81 = .ok (.iload 5, 2) := by decide +kernel
theorem dX6_sets_83 : decode cX6_sets 83 = .ok (.iload 6, 2) := by decide +kernel
theorem dX6_sets_85 : decode cX6_sets 85 = .ok (.ior, 1) := by decide +kernel
theorem dX6_sets_86 : decode cX6_sets 86 = .ok (.istore 5, 2) := by decide +kernel
theorem dX6_sets_88 : decode cX6_sets 88 = .ok (.iinc 6 1, 3) := by decide +kernel
theorem dX6_sets_91 : decode cX6_sets 91 = .ok (.goto (-47), 3) := by decide +kernel
theorem dX6_sets_94 : decode cX6_sets 94 = .ok (.iload_n 2, 1) := by decide +kernel
theorem dX6_sets_95 : decode cX6_sets 95 = .ok (.lookupswitch 38 #[(0, 25), (1, 27)], 25) := by decide +kernel
theorem dX6_sets_120 : decode cX6_sets 120 = .ok (.iload_n 3, 1) := by decide +kernel
theorem dX6_sets_121 : decode cX6_sets 121 = .ok (.ireturn, 1) := by decide +kernel
theorem dX6_sets_122 : decode cX6_sets 122 = .ok (.iload_n 3, 1) := by decide +kernel
theorem dX6_sets_123 : decode cX6_sets 123 = .ok (.ifCond .ne 7, 3) := by decide +kernel
theorem dX6_sets_126 : decode cX6_sets 126 = .ok (.iconst 0, 1) := by decide +kernel
theorem dX6_sets_127 : decode cX6_sets 127 = .ok (.goto 5, 3) := by decide +kernel
theorem dX6_sets_130 : decode cX6_sets 130 = .ok (.iload 4, 2) := by decide +kernel
theorem dX6_sets_132 : decode cX6_sets 132 = .ok (.ireturn, 1) := by decide +kernel
theorem dX6_sets_133 : decode cX6_sets 133 = .ok (.iload 5, 2) := by decide +kernel
theorem dX6_sets_135 : decode cX6_sets 135 = .ok (.ireturn, 1) := by decide +kernel
theorem dX6_share_0 : decode cX6_share 0 = .ok (.aload_n 0, 1) := by decide +kernel
theorem dX6_share_1 : decode cX6_share 1 = .ok (.iload_n 1, 1) := by decide +kernel
theorem dX6_share_2 : decode cX6_share 2 = .ok (.invokevirtual 138, 3) := by decide +kernel
theorem dX6_share_5 : decode cX6_share 5 = .ok (.ifCond .eq 14, 3) := by decide +kernel
theorem dX6_share_8 : decode cX6_share 8 = .ok (.iload_n 2, 1) := by decide +kernel
theorem dX6_share_9 : decode cX6_share 9 = .ok (.ifCond .lt 10, 3) := by decide +kernel
theorem dX6_share_12 : decode cX6_share 12 = .ok (.iload_n 2, 1) := by decide +kernel
theorem dX6_share_13 : decode cX6_share 13 = .ok (.sipush 999, 3) := by decide +kernel
theorem dX6_share_16 : decode cX6_share 16 = .ok (.if_icmp .le 6, 3) := by decide +kernel
theorem dX6_share_19 : decode cX6_share 19 = .ok (.ldc 62, 2) := by decide +kernel
theorem dX6_share_21 : decode cX6_share 21 = .ok (.ireturn, 1) := by decide +kernel
theorem dX6_share_22 : decode cX6_share 22 = .ok (.aload_n 0, 1) := by decide +kernel
theorem dX6_share_23 : decode cX6_share 23 = .ok (.getfield 25, 3) := by decide +kernel
theorem dX6_share_26 : decode cX6_share 26 = .ok (.iconst 3, 1) := by decide +kernel
theorem dX6_share_27 : decode cX6_share 27 = .ok (.invokevirtual 214, 3) := by decide +kernel
theorem dX6_share_30 : decode cX6_share 30 = .ok (.istore_n 3, 1) := by decide +kernel
theorem dX6_share_31 : decode cX6_share 31 = .ok (.iload_n 3, 1) := by decide +kernel
theorem dX6_share_32 : decode cX6_share 32 = .ok (.ifCond .eq 16, 3) := by decide +kernel
theorem dX6_share_35 : decode cX6_share 35 = .ok (.aload_n 0, 1) := by decide +kernel
theorem dX6_share_36 : decode cX6_share 36 = .ok (.getfield 25, 3) := by decide +kernel
theorem dX6_share_39 : decode cX6_share 39 = .ok (.getfield 144, 3) := by decide +kernel
theorem dX6_share_42 : decode cX6_share 42 = .ok (.iload_n 1, 1) := by decide +kernel
theorem dX6_share_43 : decode cX6_share 43 = .ok (.iaload, 1) := by decide +kernel
theorem dX6_share_44 : decode cX6_share 44 = .ok (.iconst (-1), 1) := by decide +kernel
theorem dX6_share_45 : decode cX6_share 45 = .ok (.if_icmp .ne 5, 3) := by decide +kernel
theorem dX6_share_48 : decode cX6_share 48 = .ok (.iconst 0, 1) := by decide +kernel
theorem dX6_share_49 : decode cX6_share 49 = .ok (.ireturn, 1) := by decide +kernel
theorem dX6_share_50 : decode cX6_share 50 = .ok (.iload_n 2, 1) := by decide +kernel
theorem dX6_share_51 : decode cX6_share 51 = .ok (.istore 4, 2) := by decide +kernel
theorem dX6_share_53 : decode cX6_share 53 = .ok (.iconst 0, 1) := by decide +kernel
theorem dX6_share_54 : decode cX6_share 54 = .ok (.istore 5, 2) := by decide +kernel
theorem dX6_share_56 : decode cX6_share 56 = .ok (.iconst 0, 1) := by decide +kernel
theorem dX6_share_57 : decode cX6_share 57 = .ok (.istore 6, 2) := by decide +kernel
theorem dX6_share_59 : decode cX6_share 59 = .ok (.iload 6, 2) := by decide +kernel
theorem dX6_share_61 : decode cX6_share 61 = .ok (.aload_n 0, 1) := by decide +kernel
theorem dX6_share_62 : decode cX6_share 62 = .ok (.getfield 25, 3) := by decide +kernel
theorem dX6_share_65 : decode cX6_share 65 = .ok (.getfield 211, 3) := by decide +kernel
theorem dX6_share_68 : decode cX6_share 68 = .ok (.if_icmp .ge 51, 3) := by decide +kernel
theorem dX6_share_71 : decode cX6_share 71 = .ok (.iload 4, 2) := by decide +kernel
theorem dX6_share_73 : decode cX6_share 73 = .ok (.iload_n 2, 1) := by decide +kernel
theorem dX6_share_74 : decode cX6_share 74 = .ok (.aload_n 0, 1) := by decide +kernel
theorem dX6_share_75 : decode cX6_share 75 = .ok (.getfield 25, 3) := by decide +kernel
theorem dX6_share_78 : decode cX6_share 78 = .ok (.iload 6, 2) := by decide +kernel
theorem dX6_share_80 : decode cX6_share 80 = .ok (.iconst 3, 1) := by decide +kernel
theorem dX6_share_81 : decode cX6_share 81 = .ok (.invokevirtual 229, 3) := by decide +kernel
theorem dX6_share_84 : decode cX6_share 84 = .ok (.imul, 1) := by decide +kernel
theorem dX6_share_85 : decode cX6_share 85 = .ok (.iload_n 3, 1) := by decide +kernel
theorem dX6_share_86 : decode cX6_share 86 = .ok (.idiv, 1) := by decide +kernel
theorem dX6_share_87 : decode cX6_share 87 = .ok (.isub, 1) := by decide +kernel
theorem dX6_share_88 : decode cX6_share 88 = .ok (.istore 4, 2) := by decide +kernel
theorem dX6_share_90 : decode cX6_share 90 = .ok (.iload 6, 2) := by decide +kernel
theorem dX6_share_92 : decode cX6_share 92 = .ok (.iload_n 1, 1) := by decide +kernel
theorem dX6_share_93 : decode cX6_share 93 = .ok (.if_icmp .ge 20, 3) := by decide +kernel
theorem dX6_share_96 : decode cX6_share 96 = .ok (.aload_n 0, 1) := by decide +kernel
theorem dX6_share_97 : decode cX6_share 97 = .ok (.getfield 25, 3) := by decide +kernel
theorem dX6_share_100 : decode cX6_share 100 = .ok (.getfield 144, 3) := by decide +kernel
theorem dX6_share_103 : decode cX6_share 103 = .ok (.iload 6, 2) := by decide +kernel
theorem dX6_share_105 : decode cX6_share 105 = .ok (.iaload, 1) := by decide +kernel
theorem dX6_share_106 : decode cX6_share 106 = .ok (.iconst (-1), 1) := by decide +kernel
theorem dX6_share_107 : decode cX6_share 107 = .ok (.if_icmp .eq 6, 3) := by decide +kernel
theorem dX6_share_110 : decode cX6_share 110 = .ok (.iinc 5 1, 3) := by decide +kernel
theorem dX6_share_113 : decode cX6_share 113 = .ok (.iinc 6 1, 3) := by decide +kernel
theorem dX6_share_116 : decode cX6_share 116 = .ok (.goto (-57), 3) := by decide +kernel
theorem dX6_share_119 : decode cX6_share 119 = .ok (.iload_n 2, 1) := by decide +kernel
theorem dX6_share_120 : decode cX6_share 120 = .ok (.aload_n 0, 1) := by decide +kernel
theorem dX6_share_121 : decode cX6_share 121 = .ok (.getfield 25, 3) := by decide +kernel
theorem dX6_share_124 : decode cX6_share 124 = .ok (.iload_n 1, 1) := by decide +kernel
theorem dX6_share_125 : decode cX6_share 125 = .ok (.iconst 3, 1) := by decide +kernel
theorem dX6_share_126 : decode cX6_share 126 = .ok (.invokevirtual 229, 3) := by decide +kernel
theorem dX6_share_129 : decode cX6_share 129 = .ok (.imul, 1) := by decide +kernel
theorem dX6_share_130 : decode cX6_share 130 = .ok (.iload_n 3, 1) := by decide +kernel
theorem dX6_share_131 : decode cX6_share 131 = .ok (.idiv, 1) := by decide +kernel
theorem dX6_share_132 : decode cX6_share 132 = .ok (.iload 5, 2) := by decide +kernel
theorem dX6_share_134 : decode cX6_share 134 = .ok (.iload 4, 2) := by decide +kernel
theorem dX6_share_136 : decode cX6_share 136 = .ok (.if_icmp .ge 7, 3) := by decide +kernel
theorem dX6_share_139 : decode cX6_share 139 = .ok (.iconst 1, 1) := by decide +kernel
theorem dX6_share_140 : decode cX6_share 140 = .ok (.goto 4, 3) := by decide +kernel
theorem dX6_share_143 : decode cX6_share 143 = .ok (.iconst 0, 1) := by decide +kernel
theorem dX6_share_144 : decode cX6_share 144 = .ok (.iadd, 1) := by decide +kernel
theorem dX6_share_145 : decode cX6_share 145 = .ok (.ireturn, 1) := by decide +kernel
theorem dX6_byTurns_0 : decode cX6_byTurns 0 = .ok (.aload_n 0, 1) := by decide +kernel
theorem dX6_byTurns_1 : decode cX6_byTurns 1 = .ok (.invokevirtual 154, 3) := by decide +kernel
theorem dX6_byTurns_4 : decode cX6_byTurns 4 = .ok (.ifCond .eq 6, 3) := by decide +kernel
theorem dX6_byTurns_7 : decode cX6_byTurns 7 = .ok (.ldc 134, 2) := by decide +kernel
theorem dX6_byTurns_9 : decode cX6_byTurns 9 = .ok (.ireturn, 1) := by decide +kernel
theorem dX6_byTurns_10 : decode cX6_byTurns 10 = .ok (.iload_n 1, 1) := by decide +kernel
theorem dX6_byTurns_11 : decode cX6_byTurns 11 = .ok (.ifCond .lt 19, 3) := by decide +kernel
theorem dX6_byTurns_14 : decode cX6_byTurns 14 = .ok (.iload_n 1, 1) := by decide +kernel
theorem dX6_byTurns_15 : decode cX6_byTurns 15 = .ok (.iconst 4, 1) := by decide +kernel
theorem dX6_byTurns_16 : decode cX6_byTurns 16 = .ok (.if_icmp .gt 14, 3) := by decide +kernel
theorem dX6_byTurns_19 : decode cX6_byTurns 19 = .ok (.iload_n 1, 1) := by decide +kernel
theorem dX6_byTurns_20 : decode cX6_byTurns 20 = .ok (.aload_n 0, 1) := by decide +kernel
theorem dX6_byTurns_21 : decode cX6_byTurns 21 = .ok (.getfield 25, 3) := by decide +kernel
theorem dX6_byTurns_24 : decode cX6_byTurns 24 = .ok (.getfield 211, 3) := by decide +kernel
theorem dX6_byTurns_27 : decode cX6_byTurns 27 = .ok (.if_icmp .le 6, 3) := by decide +kernel
theorem dX6_byTurns_30 : decode cX6_byTurns 30 = .ok (.ldc 62, 2) := by decide +kernel
theorem dX6_byTurns_32 : decode cX6_byTurns 32 = .ok (.ireturn, 1) := by decide +kernel
theorem dX6_byTurns_33 : decode cX6_byTurns 33 = .ok (.aload_n 0, 1) := by decide +kernel
theorem dX6_byTurns_34 : decode cX6_byTurns 34 = .ok (.getfield 25, 3) := by decide +kernel
theorem dX6_byTurns_37 : decode cX6_byTurns 37 = .ok (.iload_n 1, 1) := by decide +kernel
theorem dX6_byTurns_38 : decode cX6_byTurns 38 = .ok (.aload_n 0, 1) := by decide +kernel
theorem dX6_byTurns_39 : decode cX6_byTurns 39 = .ok (.getfield 25, 3) := by decide +kernel
theorem dX6_byTurns_42 : decode cX6_byTurns 42 = .ok (.getfield 211, 3) := by decide +kernel
theorem dX6_byTurns_45 : decode cX6_byTurns 45 = .ok (.iconst 1, 1) := by decide +kernel
theorem dX6_byTurns_46 : decode cX6_byTurns 46 = .ok (.isub, 1) := by decide +kernel
theorem dX6_byTurns_47 : decode cX6_byTurns 47 = .ok (.iconst 0, 1) := by decide +kernel
theorem dX6_byTurns_48 : decode cX6_byTurns 48 = .ok (.iconst 1, 1) := by decide +kernel
theorem dX6_byTurns_49 : decode cX6_byTurns 49 = .ok (.invokestatic 232, 3) := by decide +kernel
theorem dX6_byTurns_52 : decode cX6_byTurns 52 = .ok (.ireturn, 1) := by decide +kernel
theorem dX6_who_0 : decode cX6_who 0 = .ok (.aload_n 0, 1) := by decide +kernel
theorem dX6_who_1 : decode cX6_who 1 = .ok (.iload_n 1, 1) := by decide +kernel
theorem dX6_who_2 : decode cX6_who 2 = .ok (.invokevirtual 141, 3) := by decide +kernel
theorem dX6_who_5 : decode cX6_who 5 = .ok (.ifCond .eq 19, 3) := by decide +kernel
theorem dX6_who_8 : decode cX6_who 8 = .ok (.iload_n 2, 1) := by decide +kernel
theorem dX6_who_9 : decode cX6_who 9 = .ok (.ifCond .lt 15, 3) := by decide +kernel
theorem dX6_who_12 : decode cX6_who 12 = .ok (.iload_n 2, 1) := by decide +kernel
theorem dX6_who_13 : decode cX6_who 13 = .ok (.iconst 1, 1) := by decide +kernel
theorem dX6_who_14 : decode cX6_who 14 = .ok (.if_icmp .gt 10, 3) := by decide +kernel
theorem dX6_who_17 : decode cX6_who 17 = .ok (.iload_n 3, 1) := by decide +kernel
theorem dX6_who_18 : decode cX6_who 18 = .ok (.invokestatic 58, 3) := by decide +kernel
theorem dX6_who_21 : decode cX6_who 21 = .ok (.ifCond .ne 6, 3) := by decide +kernel
theorem dX6_who_24 : decode cX6_who 24 = .ok (.ldc 62, 2) := by decide +kernel
theorem dX6_who_26 : decode cX6_who 26 = .ok (.ireturn, 1) := by decide +kernel
theorem dX6_who_27 : decode cX6_who 27 = .ok (.aload_n 0, 1) := by decide +kernel
theorem dX6_who_28 : decode cX6_who 28 = .ok (.getfield 11, 3) := by decide +kernel
theorem dX6_who_31 : decode cX6_who 31 = .ok (.iload_n 3, 1) := by decide +kernel
theorem dX6_who_32 : decode cX6_who 32 = .ok (.aaload, 1) := by decide +kernel
theorem dX6_who_33 : decode cX6_who 33 = .ok (.astore 5, 2) := by decide +kernel
theorem dX6_who_35 : decode cX6_who 35 = .ok (.aload 5, 2) := by decide +kernel
theorem dX6_who_37 : decode cX6_who 37 = .ok (.invokevirtual 74, 3) := by decide +kernel
theorem dX6_who_40 : decode cX6_who 40 = .ok (.ifCond .eq 9, 3) := by decide +kernel
theorem dX6_who_43 : decode cX6_who 43 = .ok (.aload_n 0, 1) := by decide +kernel
theorem dX6_who_44 : decode cX6_who 44 = .ok (.iconst 1, 1) := by decide +kernel
theorem dX6_who_45 : decode cX6_who 45 = .ok (.invokevirtual 63, 3) := by decide +kernel
theorem dX6_who_48 : decode cX6_who 48 = .ok (.ireturn, 1) := by decide +kernel
theorem dX6_who_49 : decode cX6_who 49 = .ok (.aload 5, 2) := by decide +kernel
theorem dX6_who_51 : decode cX6_who 51 = .ok (.iload 4, 2) := by decide +kernel
theorem dX6_who_53 : decode cX6_who 53 = .ok (.aload_n 0, 1) := by decide +kernel
theorem dX6_who_54 : decode cX6_who 54 = .ok (.getfield 25, 3) := by decide +kernel
theorem dX6_who_57 : decode cX6_who 57 = .ok (.getfield 211, 3) := by decide +kernel
theorem dX6_who_60 : decode cX6_who 60 = .ok (.invokevirtual 78, 3) := by decide +kernel
theorem dX6_who_63 : decode cX6_who 63 = .ok (.ifCond .ne 9, 3) := by decide +kernel
theorem dX6_who_66 : decode cX6_who 66 = .ok (.aload_n 0, 1) := by decide +kernel
theorem dX6_who_67 : decode cX6_who 67 = .ok (.iconst 2, 1) := by decide +kernel
theorem dX6_who_68 : decode cX6_who 68 = .ok (.invokevirtual 63, 3) := by decide +kernel
theorem dX6_who_71 : decode cX6_who 71 = .ok (.ireturn, 1) := by decide +kernel
theorem dX6_who_72 : decode cX6_who 72 = .ok (.aload_n 0, 1) := by decide +kernel
theorem dX6_who_73 : decode cX6_who 73 = .ok (.getfield 29, 3) := by decide +kernel
theorem dX6_who_76 : decode cX6_who 76 = .ok (.aload_n 0, 1) := by decide +kernel
theorem dX6_who_77 : decode cX6_who 77 = .ok (.getfield 25, 3) := by decide +kernel
theorem dX6_who_80 : decode cX6_who 80 = .ok (.invokevirtual 118, 3) := by decide +kernel
theorem dX6_who_83 : decode cX6_who 83 = .ok (.iconst 0, 1) := by decide +kernel
theorem dX6_who_84 : decode cX6_who 84 = .ok (.istore 6, 2) := by decide +kernel
theorem dX6_who_86 : decode cX6_who 86 = .ok (.iconst 1, 1) := by decide +kernel
theorem dX6_who_87 : decode cX6_who 87 = .ok (.istore 7, 2) := by decide +kernel
theorem dX6_who_89 : decode cX6_who 89 = .ok (.iload 7, 2) := by decide +kernel
theorem dX6_who_91 : decode cX6_who 91 = .ok (.iload_n 2, 1) := by decide +kernel
theorem dX6_who_92 : decode cX6_who 92 = .ok (.ifCond .ne 7, 3) := by decide +kernel
theorem dX6_who_95 : decode cX6_who 95 = .ok (.iconst 5, 1) := by decide +kernel
theorem dX6_who_96 : decode cX6_who 96 = .ok (.goto 8, 3) := by decide +kernel
theorem dX6_who_99 : decode cX6_who 99 = .ok (.getstatic 171, 3) := by decide +kernel
theorem dX6_who_102 : decode cX6_who 102 = .ok (.iconst 3, 1) := by decide +kernel
theorem dX6_who_103 : decode cX6_who 103 = .ok (.iaload, 1) := by decide +kernel
theorem dX6_who_104 : decode cX6_who 104 = .ok (.if_icmp .gt 62, 3) := by decide +kernel
theorem dX6_who_107 : decode cX6_who 107 = .ok (.iload_n 2, 1) := by decide +kernel
theorem dX6_who_108 : decode cX6_who 108 = .ok (.ifCond .ne 17, 3) := by decide +kernel
theorem dX6_who_111 : decode cX6_who 111 = .ok (.aload_n 0, 1) := by decide +kernel
theorem dX6_who_112 : decode cX6_who 112 = .ok (.getfield 29, 3) := by decide +kernel
theorem dX6_who_115 : decode cX6_who 115 = .ok (.getfield 236, 3) := by decide +kernel
theorem dX6_who_118 : decode cX6_who 118 = .ok (.iload_n 1, 1) := by decide +kernel
theorem dX6_who_119 : decode cX6_who 119 = .ok (.iload 7, 2) := by decide +kernel
theorem dX6_who_121 : decode cX6_who 121 = .ok (.iastore, 1) := by decide +kernel
theorem dX6_who_122 : decode cX6_who 122 = .ok (.goto 14, 3) := by decide +kernel
theorem dX6_who_125 : decode cX6_who 125 = .ok (.aload_n 0, 1) := by decide +kernel
theorem dX6_who_126 : decode cX6_who 126 = .ok (.getfield 29, 3) := by decide +kernel
theorem dX6_who_129 : decode cX6_who 129 = .ok (.getfield 174, 3) := by decide +kernel
theorem dX6_who_132 : decode cX6_who 132 = .ok (.iconst 3, 1) := by decide +kernel
theorem dX6_who_133 : decode cX6_who 133 = .ok (.iload 7, 2) := by decide +kernel
theorem dX6_who_135 : decode cX6_who 135 = .ok (.iastore, 1) := by decide +kernel
theorem dX6_who_136 : decode cX6_who 136 = .ok (.aload_n 0, 1) := by decide +kernel
theorem dX6_who_137 : decode cX6_who 137 = .ok (.aload_n 0, 1) := by decide +kernel
theorem dX6_who_138 : decode cX6_who 138 = .ok (.getfield 29, 3) := by decide +kernel
theorem dX6_who_141 : decode cX6_who 141 = .ok (.aload 5, 2) := by decide +kernel
theorem dX6_who_143 : decode cX6_who 143 = .ok (.iload 4, 2) := by decide +kernel
theorem dX6_who_145 : decode cX6_who 145 = .ok (.invokevirtual 239, 3) := by decide +kernel
theorem dX6_who_148 : decode cX6_who 148 = .ok (.ifCond .eq 12, 3) := by decide +kernel
theorem dX6_who_151 : decode cX6_who 151 = .ok (.iload 6, 2) := by decide +kernel
theorem dX6_who_153 : decode cX6_who 153 = .ok (.iconst 1, 1) := by decide +kernel
theorem dX6_who_154 : decode cX6_who 154 = .ok (.iload 7, 2) := by decide +kernel
theorem dX6_who_156 : decode cX6_who 156 = .ok (.ishl, 1) := by decide +kernel
theorem dX6_who_157 : decode cX6_who 157 = .ok (.ior, 1) := by decide +kernel
theorem dX6_who_158 : decode cX6_who 158 = .ok (.istore 6, 2) := by decide +kernel
theorem dX6_who_160 : decode cX6_who 160 = .ok (.iinc 7 1, 3) := by decide +kernel
theorem dX6_who_163 : decode cX6_who 163 = .ok (.goto (-74), 3) := by decide +kernel
theorem dX6_who_166 : decode cX6_who 166 = .ok (.aload_n 0, 1) := by decide +kernel
theorem dX6_who_167 : decode cX6_who 167 = .ok (.iload 6, 2) := by decide +kernel
theorem dX6_who_169 : decode cX6_who 169 = .ok (.invokevirtual 71, 3) := by decide +kernel
theorem dX6_who_172 : decode cX6_who 172 = .ok (.ireturn, 1) := by decide +kernel
theorem dX6_flaws_0 : decode cX6_flaws 0 = .ok (.aload_n 0, 1) := by decide +kernel
theorem dX6_flaws_1 : decode cX6_flaws 1 = .ok (.invokevirtual 154, 3) := by decide +kernel
theorem dX6_flaws_4 : decode cX6_flaws 4 = .ok (.ifCond .eq 7, 3) := by decide +kernel
theorem dX6_flaws_7 : decode cX6_flaws 7 = .ok (.ldc2_w 243, 3) := by decide +kernel
theorem dX6_flaws_10 : decode cX6_flaws 10 = .ok (.lreturn, 1) := by decide +kernel
theorem dX6_flaws_11 : decode cX6_flaws 11 = .ok (.iload_n 1, 1) := by decide +kernel
theorem dX6_flaws_12 : decode cX6_flaws 12 = .ok (.ifCond .lt 18, 3) := by decide +kernel
theorem dX6_flaws_15 : decode cX6_flaws 15 = .ok (.iload_n 1, 1) := by decide +kernel
theorem dX6_flaws_16 : decode cX6_flaws 16 = .ok (.bipush 10, 2) := by decide +kernel
theorem dX6_flaws_18 : decode cX6_flaws 18 = .ok (.if_icmp .gt 12, 3) := by decide +kernel
theorem dX6_flaws_21 : decode cX6_flaws 21 = .ok (.iload_n 2, 1) := by decide +kernel
theorem dX6_flaws_22 : decode cX6_flaws 22 = .ok (.ifCond .lt 8, 3) := by decide +kernel
theorem dX6_flaws_25 : decode cX6_flaws 25 = .ok (.iload_n 2, 1) := by decide +kernel
theorem dX6_flaws_26 : decode cX6_flaws 26 = .ok (.iconst 1, 1) := by decide +kernel
theorem dX6_flaws_27 : decode cX6_flaws 27 = .ok (.if_icmp .le 7, 3) := by decide +kernel
theorem dX6_flaws_30 : decode cX6_flaws 30 = .ok (.ldc2_w 245, 3) := by decide +kernel
theorem dX6_flaws_33 : decode cX6_flaws 33 = .ok (.lreturn, 1) := by decide +kernel
theorem dX6_flaws_34 : decode cX6_flaws 34 = .ok (.aload_n 0, 1) := by decide +kernel
theorem dX6_flaws_35 : decode cX6_flaws 35 = .ok (.getfield 25, 3) := by decide +kernel
theorem dX6_flaws_38 : decode cX6_flaws 38 = .ok (.invokevirtual 217, 3) := by decide +kernel
theorem dX6_flaws_41 : decode cX6_flaws 41 = .ok (.ldc 157, 2) := by decide +kernel
theorem dX6_flaws_43 : decode cX6_flaws 43 = .ok (.if_icmp .ne 7, 3) := by decide +kernel
theorem dX6_flaws_46 : decode cX6_flaws 46 = .ok (.lconst 1, 1) := by decide +kernel
theorem dX6_flaws_47 : decode cX6_flaws 47 = .ok (.goto 4, 3) := by decide +kernel
theorem dX6_flaws_50 : decode cX6_flaws 50 = .ok (.lconst 0, 1) := by decide +kernel
theorem dX6_flaws_51 : decode cX6_flaws 51 = .ok (.lstore_n 3, 1) := by decide +kernel
theorem dX6_flaws_52 : decode cX6_flaws 52 = .ok (.lconst 1, 1) := by decide +kernel
theorem dX6_flaws_53 : decode cX6_flaws 53 = .ok (.lstore 5, 2) := by decide +kernel
theorem dX6_flaws_55 : decode cX6_flaws 55 = .ok (.iconst 0, 1) := by decide +kernel
theorem dX6_flaws_56 : decode cX6_flaws 56 = .ok (.istore 7, 2) := by decide +kernel
theorem dX6_flaws_58 : decode cX6_flaws 58 = .ok (.iload 7, 2) := by decide +kernel
theorem dX6_flaws_60 : decode cX6_flaws 60 = .ok (.aload_n 0, 1) := by decide +kernel
theorem dX6_flaws_61 : decode cX6_flaws 61 = .ok (.getfield 25, 3) := by decide +kernel
theorem dX6_flaws_64 : decode cX6_flaws 64 = .ok (.getfield 211, 3) := by decide +kernel
theorem dX6_flaws_67 : decode cX6_flaws 67 = .ok (.if_icmp .ge 43, 3) := by decide +kernel
theorem dX6_flaws_70 : decode cX6_flaws 70 = .ok (.lload_n 3, 1) := by decide +kernel
theorem dX6_flaws_71 : decode cX6_flaws 71 = .ok (.lconst 0, 1) := by decide +kernel
theorem dX6_flaws_72 : decode cX6_flaws 72 = .ok (.lcmp, 1) := by decide +kernel
theorem dX6_flaws_73 : decode cX6_flaws 73 = .ok (.ifCond .eq 31, 3) := by decide +kernel
theorem dX6_flaws_76 : decode cX6_flaws 76 = .ok (.aload_n 0, 1) := by decide +kernel
theorem dX6_flaws_77 : decode cX6_flaws 77 = .ok (.getfield 25, 3) := by decide +kernel
theorem dX6_flaws_80 : decode cX6_flaws 80 = .ok (.iload 7, 2) := by decide +kernel
theorem dX6_flaws_82 : decode cX6_flaws 82 = .ok (.invokevirtual 247, 3) := by decide +kernel
theorem dX6_flaws_85 : decode cX6_flaws 85 = .ok (.ifCond .ne 19, 3) := by decide +kernel
theorem dX6_flaws_88 : decode cX6_flaws 88 = .ok (.lload_n 3, 1) := by decide +kernel
theorem dX6_flaws_89 : decode cX6_flaws 89 = .ok (.bipush 10, 2) := by decide +kernel
theorem dX6_flaws_91 : decode cX6_flaws 91 = .ok (.iload_n 1, 1) := by decide +kernel
theorem dX6_flaws_92 : decode cX6_flaws 92 = .ok (.isub, 1) := by decide +kernel
theorem dX6_flaws_93 : decode cX6_flaws 93 = .ok (.i2l, 1) := by decide +kernel
theorem dX6_flaws_94 : decode cX6_flaws 94 = .ok (.lmul, 1) := by decide +kernel
theorem dX6_flaws_95 : decode cX6_flaws 95 = .ok (.lstore_n 3, 1) := by decide +kernel
theorem dX6_flaws_96 : decode cX6_flaws 96 = .ok (.lload 5, 2) := by decide +kernel
theorem dX6_flaws_98 : decode cX6_flaws 98 = .ok (.ldc2_w 250, 3) := by decide +kernel
theorem dX6_flaws_101 : decode cX6_flaws 101 = .ok (.lmul, 1) := by decide +kernel
theorem dX6_flaws_102 : decode cX6_flaws 102 = .ok (.lstore 5, 2) := by decide +kernel
theorem dX6_flaws_104 : decode cX6_flaws 104 = .ok (.iinc 7 1, 3) := by decide +kernel
theorem dX6_flaws_107 : decode cX6_flaws 107 = .ok (.goto (-49), 3) := by decide +kernel
theorem dX6_flaws_110 : decode cX6_flaws 110 = .ok (.lconst 1, 1) := by decide +kernel
theorem dX6_flaws_111 : decode cX6_flaws 111 = .ok (.lload_n 3, 1) := by decide +kernel
theorem dX6_flaws_112 : decode cX6_flaws 112 = .ok (.lload 5, 2) := by decide +kernel
theorem dX6_flaws_114 : decode cX6_flaws 114 = .ok (.invokestatic 252, 3) := by decide +kernel
theorem dX6_flaws_117 : decode cX6_flaws 117 = .ok (.invokestatic 256, 3) := by decide +kernel
theorem dX6_flaws_120 : decode cX6_flaws 120 = .ok (.lstore 7, 2) := by decide +kernel
theorem dX6_flaws_122 : decode cX6_flaws 122 = .ok (.iload_n 2, 1) := by decide +kernel
theorem dX6_flaws_123 : decode cX6_flaws 123 = .ok (.ifCond .ne 7, 3) := by decide +kernel
theorem dX6_flaws_126 : decode cX6_flaws 126 = .ok (.lload_n 3, 1) := by decide +kernel
theorem dX6_flaws_127 : decode cX6_flaws 127 = .ok (.goto 5, 3) := by decide +kernel
theorem dX6_flaws_130 : decode cX6_flaws 130 = .ok (.lload 5, 2) := by decide +kernel
theorem dX6_flaws_132 : decode cX6_flaws 132 = .ok (.lload 7, 2) := by decide +kernel
theorem dX6_flaws_134 : decode cX6_flaws 134 = .ok (.ldiv, 1) := by decide +kernel
theorem dX6_flaws_135 : decode cX6_flaws 135 = .ok (.lreturn, 1) := by decide +kernel
theorem dX6_drawn_0 : decode cX6_drawn 0 = .ok (.aload_n 0, 1) := by decide +kernel
theorem dX6_drawn_1 : decode cX6_drawn 1 = .ok (.invokevirtual 154, 3) := by decide +kernel
theorem dX6_drawn_4 : decode cX6_drawn 4 = .ok (.ifCond .eq 6, 3) := by decide +kernel
theorem dX6_drawn_7 : decode cX6_drawn 7 = .ok (.ldc 134, 2) := by decide +kernel
theorem dX6_drawn_9 : decode cX6_drawn 9 = .ok (.ireturn, 1) := by decide +kernel
theorem dX6_drawn_10 : decode cX6_drawn 10 = .ok (.iload_n 1, 1) := by decide +kernel
theorem dX6_drawn_11 : decode cX6_drawn 11 = .ok (.ifCond .lt 30, 3) := by decide +kernel
theorem dX6_drawn_14 : decode cX6_drawn 14 = .ok (.iload_n 1, 1) := by decide +kernel
theorem dX6_drawn_15 : decode cX6_drawn 15 = .ok (.bipush 60, 2) := by decide +kernel
theorem dX6_drawn_17 : decode cX6_drawn 17 = .ok (.if_icmp .gt 24, 3) := by decide +kernel
theorem dX6_drawn_20 : decode cX6_drawn 20 = .ok (.iload_n 2, 1) := by decide +kernel
theorem dX6_drawn_21 : decode cX6_drawn 21 = .ok (.iconst 1, 1) := by decide +kernel
theorem dX6_drawn_22 : decode cX6_drawn 22 = .ok (.if_icmp .lt 19, 3) := by decide +kernel
theorem dX6_drawn_25 : decode cX6_drawn 25 = .ok (.iload_n 2, 1) := by decide +kernel
theorem dX6_drawn_26 : decode cX6_drawn 26 = .ok (.ldc_w 261, 3) := by decide +kernel
theorem dX6_drawn_29 : decode cX6_drawn 29 = .ok (.if_icmp .gt 12, 3) := by decide +kernel
theorem dX6_drawn_32 : decode cX6_drawn 32 = .ok (.iload_n 3, 1) := by decide +kernel
theorem dX6_drawn_33 : decode cX6_drawn 33 = .ok (.ifCond .lt 8, 3) := by decide +kernel
theorem dX6_drawn_36 : decode cX6_drawn 36 = .ok (.iload_n 3, 1) := by decide +kernel
theorem dX6_drawn_37 : decode cX6_drawn 37 = .ok (.iconst 1, 1) := by decide +kernel
theorem dX6_drawn_38 : decode cX6_drawn 38 = .ok (.if_icmp .le 6, 3) := by decide +kernel
theorem dX6_drawn_41 : decode cX6_drawn 41 = .ok (.ldc 62, 2) := by decide +kernel
theorem dX6_drawn_43 : decode cX6_drawn 43 = .ok (.ireturn, 1) := by decide +kernel
theorem dX6_drawn_44 : decode cX6_drawn 44 = .ok (.aload_n 0, 1) := by decide +kernel
theorem dX6_drawn_45 : decode cX6_drawn 45 = .ok (.getfield 29, 3) := by decide +kernel
theorem dX6_drawn_48 : decode cX6_drawn 48 = .ok (.aload_n 0, 1) := by decide +kernel
theorem dX6_drawn_49 : decode cX6_drawn 49 = .ok (.getfield 25, 3) := by decide +kernel
theorem dX6_drawn_52 : decode cX6_drawn 52 = .ok (.invokevirtual 118, 3) := by decide +kernel
theorem dX6_drawn_55 : decode cX6_drawn 55 = .ok (.iload_n 2, 1) := by decide +kernel
theorem dX6_drawn_56 : decode cX6_drawn 56 = .ok (.istore 4, 2) := by decide +kernel
theorem dX6_drawn_58 : decode cX6_drawn 58 = .ok (.iconst 0, 1) := by decide +kernel
theorem dX6_drawn_59 : decode cX6_drawn 59 = .ok (.istore 5, 2) := by decide +kernel
theorem dX6_drawn_61 : decode cX6_drawn 61 = .ok (.iconst 0, 1) := by decide +kernel
theorem dX6_drawn_62 : decode cX6_drawn 62 = .ok (.istore 6, 2) := by decide +kernel
theorem dX6_drawn_64 : decode cX6_drawn 64 = .ok (.iload 6, 2) := by decide +kernel
theorem dX6_drawn_66 : decode cX6_drawn 66 = .ok (.iload_n 1, 1) := by decide +kernel
theorem dX6_drawn_67 : decode cX6_drawn 67 = .ok (.if_icmp .ge 44, 3) := by decide +kernel
theorem dX6_drawn_70 : decode cX6_drawn 70 = .ok (.iload 4, 2) := by decide +kernel
theorem dX6_drawn_72 : decode cX6_drawn 72 = .ok (.i2l, 1) := by decide +kernel
theorem dX6_drawn_73 : decode cX6_drawn 73 = .ok (.ldc2_w 262, 3) := by decide +kernel
theorem dX6_drawn_76 : decode cX6_drawn 76 = .ok (.lmul, 1) := by decide +kernel
theorem dX6_drawn_77 : decode cX6_drawn 77 = .ok (.ldc2_w 264, 3) := by decide +kernel
theorem dX6_drawn_80 : decode cX6_drawn 80 = .ok (.lrem, 1) := by decide +kernel
theorem dX6_drawn_81 : decode cX6_drawn 81 = .ok (.l2i, 1) := by decide +kernel
theorem dX6_drawn_82 : decode cX6_drawn 82 = .ok (.istore 4, 2) := by decide +kernel
theorem dX6_drawn_84 : decode cX6_drawn 84 = .ok (.aload_n 0, 1) := by decide +kernel
theorem dX6_drawn_85 : decode cX6_drawn 85 = .ok (.getfield 29, 3) := by decide +kernel
theorem dX6_drawn_88 : decode cX6_drawn 88 = .ok (.iload 4, 2) := by decide +kernel
theorem dX6_drawn_90 : decode cX6_drawn 90 = .ok (.invokevirtual 266, 3) := by decide +kernel
theorem dX6_drawn_93 : decode cX6_drawn 93 = .ok (.iload 5, 2) := by decide +kernel
theorem dX6_drawn_95 : decode cX6_drawn 95 = .ok (.aload_n 0, 1) := by decide +kernel
theorem dX6_drawn_96 : decode cX6_drawn 96 = .ok (.getfield 29, 3) := by decide +kernel
theorem dX6_drawn_99 : decode cX6_drawn 99 = .ok (.invokevirtual 270, 3) := by decide +kernel
theorem dX6_drawn_102 : decode cX6_drawn 102 = .ok (.iadd, 1) := by decide +kernel
theorem dX6_drawn_103 : decode cX6_drawn 103 = .ok (.istore 5, 2) := by decide +kernel
theorem dX6_drawn_105 : decode cX6_drawn 105 = .ok (.iinc 6 1, 3) := by decide +kernel
theorem dX6_drawn_108 : decode cX6_drawn 108 = .ok (.goto (-44), 3) := by decide +kernel
theorem dX6_drawn_111 : decode cX6_drawn 111 = .ok (.iload_n 3, 1) := by decide +kernel
theorem dX6_drawn_112 : decode cX6_drawn 112 = .ok (.ifCond .ne 8, 3) := by decide +kernel
theorem dX6_drawn_115 : decode cX6_drawn 115 = .ok (.iload 5, 2) := by decide +kernel
theorem dX6_drawn_117 : decode cX6_drawn 117 = .ok (.goto 11, 3) := by decide +kernel
theorem dX6_drawn_120 : decode cX6_drawn 120 = .ok (.aload_n 0, 1) := by decide +kernel
theorem dX6_drawn_121 : decode cX6_drawn 121 = .ok (.getfield 29, 3) := by decide +kernel
theorem dX6_drawn_124 : decode cX6_drawn 124 = .ok (.iconst 4, 1) := by decide +kernel
theorem dX6_drawn_125 : decode cX6_drawn 125 = .ok (.invokevirtual 214, 3) := by decide +kernel
theorem dX6_drawn_128 : decode cX6_drawn 128 = .ok (.ireturn, 1) := by decide +kernel
theorem dX6_image_0 : decode cX6_image 0 = .ok (.iload_n 1, 1) := by decide +kernel
theorem dX6_image_1 : decode cX6_image 1 = .ok (.ifCond .lt 8, 3) := by decide +kernel
theorem dX6_image_4 : decode cX6_image 4 = .ok (.iload_n 1, 1) := by decide +kernel
theorem dX6_image_5 : decode cX6_image 5 = .ok (.iconst 2, 1) := by decide +kernel
theorem dX6_image_6 : decode cX6_image 6 = .ok (.if_icmp .lt 6, 3) := by decide +kernel
theorem dX6_image_9 : decode cX6_image 9 = .ok (.ldc 62, 2) := by decide +kernel
theorem dX6_image_11 : decode cX6_image 11 = .ok (.ireturn, 1) := by decide +kernel
theorem dX6_image_12 : decode cX6_image 12 = .ok (.aload_n 0, 1) := by decide +kernel
theorem dX6_image_13 : decode cX6_image 13 = .ok (.invokevirtual 154, 3) := by decide +kernel
theorem dX6_image_16 : decode cX6_image 16 = .ok (.ifCond .eq 6, 3) := by decide +kernel
theorem dX6_image_19 : decode cX6_image 19 = .ok (.ldc 134, 2) := by decide +kernel
theorem dX6_image_21 : decode cX6_image 21 = .ok (.ireturn, 1) := by decide +kernel
theorem dX6_image_22 : decode cX6_image 22 = .ok (.aload_n 0, 1) := by decide +kernel
theorem dX6_image_23 : decode cX6_image 23 = .ok (.getfield 32, 3) := by decide +kernel
theorem dX6_image_26 : decode cX6_image 26 = .ok (.iload_n 1, 1) := by decide +kernel
theorem dX6_image_27 : decode cX6_image 27 = .ok (.aaload, 1) := by decide +kernel
theorem dX6_image_28 : decode cX6_image 28 = .ok (.aload_n 0, 1) := by decide +kernel
theorem dX6_image_29 : decode cX6_image 29 = .ok (.getfield 25, 3) := by decide +kernel
theorem dX6_image_32 : decode cX6_image 32 = .ok (.invokevirtual 118, 3) := by decide +kernel
theorem dX6_image_35 : decode cX6_image 35 = .ok (.iconst 1, 1) := by decide +kernel
theorem dX6_image_36 : decode cX6_image 36 = .ok (.ireturn, 1) := by decide +kernel
theorem dX6_restore_0 : decode cX6_restore 0 = .ok (.iload_n 1, 1) := by decide +kernel
theorem dX6_restore_1 : decode cX6_restore 1 = .ok (.ifCond .lt 8, 3) := by decide +kernel
theorem dX6_restore_4 : decode cX6_restore 4 = .ok (.iload_n 1, 1) := by decide +kernel
theorem dX6_restore_5 : decode cX6_restore 5 = .ok (.iconst 2, 1) := by decide +kernel
theorem dX6_restore_6 : decode cX6_restore 6 = .ok (.if_icmp .lt 6, 3) := by decide +kernel
theorem dX6_restore_9 : decode cX6_restore 9 = .ok (.ldc 62, 2) := by decide +kernel
theorem dX6_restore_11 : decode cX6_restore 11 = .ok (.ireturn, 1) := by decide +kernel
theorem dX6_restore_12 : decode cX6_restore 12 = .ok (.aload_n 0, 1) := by decide +kernel
theorem dX6_restore_13 : decode cX6_restore 13 = .ok (.getfield 32, 3) := by decide +kernel
theorem dX6_restore_16 : decode cX6_restore 16 = .ok (.iload_n 1, 1) := by decide +kernel
theorem dX6_restore_17 : decode cX6_restore 17 = .ok (.aaload, 1) := by decide +kernel
theorem dX6_restore_18 : decode cX6_restore 18 = .ok (.getfield 211, 3) := by decide +kernel
theorem dX6_restore_21 : decode cX6_restore 21 = .ok (.ifCond .ne 6, 3) := by decide +kernel
theorem dX6_restore_24 : decode cX6_restore 24 = .ok (.ldc 134, 2) := by decide +kernel
theorem dX6_restore_26 : decode cX6_restore 26 = .ok (.ireturn, 1) := by decide +kernel
theorem dX6_restore_27 : decode cX6_restore 27 = .ok (.aload_n 0, 1) := by decide +kernel
theorem dX6_restore_28 : decode cX6_restore 28 = .ok (.getfield 25, 3) := by decide +kernel
theorem dX6_restore_31 : decode cX6_restore 31 = .ok (.aload_n 0, 1) := by decide +kernel
theorem dX6_restore_32 : decode cX6_restore 32 = .ok (.getfield 32, 3) := by decide +kernel
theorem dX6_restore_35 : decode cX6_restore 35 = .ok (.iload_n 1, 1) := by decide +kernel
theorem dX6_restore_36 : decode cX6_restore 36 = .ok (.aaload, 1) := by decide +kernel
theorem dX6_restore_37 : decode cX6_restore 37 = .ok (.invokevirtual 118, 3) := by decide +kernel
theorem dX6_restore_40 : decode cX6_restore 40 = .ok (.aload_n 0, 1) := by decide +kernel
theorem dX6_restore_41 : decode cX6_restore 41 = .ok (.getfield 46, 3) := by decide +kernel
theorem dX6_restore_44 : decode cX6_restore 44 = .ok (.invokevirtual 122, 3) := by decide +kernel
theorem dX6_restore_47 : decode cX6_restore 47 = .ok (.iconst 1, 1) := by decide +kernel
theorem dX6_restore_48 : decode cX6_restore 48 = .ok (.ireturn, 1) := by decide +kernel
theorem dX6_kind_0 : decode cX6_kind 0 = .ok (.aload_n 0, 1) := by decide +kernel
theorem dX6_kind_1 : decode cX6_kind 1 = .ok (.iload_n 1, 1) := by decide +kernel
theorem dX6_kind_2 : decode cX6_kind 2 = .ok (.invokevirtual 141, 3) := by decide +kernel
theorem dX6_kind_5 : decode cX6_kind 5 = .ok (.ifCond .eq 15, 3) := by decide +kernel
theorem dX6_kind_8 : decode cX6_kind 8 = .ok (.aload_n 0, 1) := by decide +kernel
theorem dX6_kind_9 : decode cX6_kind 9 = .ok (.getfield 25, 3) := by decide +kernel
theorem dX6_kind_12 : decode cX6_kind 12 = .ok (.getfield 236, 3) := by decide +kernel
theorem dX6_kind_15 : decode cX6_kind 15 = .ok (.iload_n 1, 1) := by decide +kernel
theorem dX6_kind_16 : decode cX6_kind 16 = .ok (.iaload, 1) := by decide +kernel
theorem dX6_kind_17 : decode cX6_kind 17 = .ok (.goto 5, 3) := by decide +kernel
theorem dX6_kind_20 : decode cX6_kind 20 = .ok (.ldc 62, 2) := by decide +kernel
theorem dX6_kind_22 : decode cX6_kind 22 = .ok (.ireturn, 1) := by decide +kernel
theorem dX6_as_0 : decode cX6_as 0 = .ok (.aload_n 0, 1) := by decide +kernel
theorem dX6_as_1 : decode cX6_as 1 = .ok (.iload_n 1, 1) := by decide +kernel
theorem dX6_as_2 : decode cX6_as 2 = .ok (.invokevirtual 141, 3) := by decide +kernel
theorem dX6_as_5 : decode cX6_as 5 = .ok (.ifCond .eq 12, 3) := by decide +kernel
theorem dX6_as_8 : decode cX6_as 8 = .ok (.iload_n 2, 1) := by decide +kernel
theorem dX6_as_9 : decode cX6_as 9 = .ok (.ifCond .lt 8, 3) := by decide +kernel
theorem dX6_as_12 : decode cX6_as 12 = .ok (.iload_n 2, 1) := by decide +kernel
theorem dX6_as_13 : decode cX6_as 13 = .ok (.iconst 5, 1) := by decide +kernel
theorem dX6_as_14 : decode cX6_as 14 = .ok (.if_icmp .le 6, 3) := by decide +kernel
theorem dX6_as_17 : decode cX6_as 17 = .ok (.ldc 62, 2) := by decide +kernel
theorem dX6_as_19 : decode cX6_as 19 = .ok (.ireturn, 1) := by decide +kernel
theorem dX6_as_20 : decode cX6_as 20 = .ok (.aload_n 0, 1) := by decide +kernel
theorem dX6_as_21 : decode cX6_as 21 = .ok (.getfield 25, 3) := by decide +kernel
theorem dX6_as_24 : decode cX6_as 24 = .ok (.getfield 236, 3) := by decide +kernel
theorem dX6_as_27 : decode cX6_as 27 = .ok (.iload_n 1, 1) := by decide +kernel
theorem dX6_as_28 : decode cX6_as 28 = .ok (.iaload, 1) := by decide +kernel
theorem dX6_as_29 : decode cX6_as 29 = .ok (.istore_n 3, 1) := by decide +kernel
theorem dX6_as_30 : decode cX6_as 30 = .ok (.iload_n 2, 1) := by decide +kernel
theorem dX6_as_31 : decode cX6_as 31 = .ok (.ifCond .eq 23, 3) := by decide +kernel
theorem dX6_as_34 : decode cX6_as 34 = .ok (.iload_n 2, 1) := by decide +kernel
theorem dX6_as_35 : decode cX6_as 35 = .ok (.iload_n 3, 1) := by decide +kernel
theorem dX6_as_36 : decode cX6_as 36 = .ok (.if_icmp .eq 18, 3) := by decide +kernel
theorem dX6_as_39 : decode cX6_as 39 = .ok (.iload_n 2, 1) := by decide +kernel
theorem dX6_as_40 : decode cX6_as 40 = .ok (.getstatic 273, 3) := by decide +kernel
theorem dX6_as_43 : decode cX6_as 43 = .ok (.iload_n 3, 1) := by decide +kernel
theorem dX6_as_44 : decode cX6_as 44 = .ok (.iaload, 1) := by decide +kernel
theorem dX6_as_45 : decode cX6_as 45 = .ok (.if_icmp .eq 9, 3) := by decide +kernel
theorem dX6_as_48 : decode cX6_as 48 = .ok (.aload_n 0, 1) := by decide +kernel
theorem dX6_as_49 : decode cX6_as 49 = .ok (.iconst 3, 1) := by decide +kernel
theorem dX6_as_50 : decode cX6_as 50 = .ok (.invokevirtual 63, 3) := by decide +kernel
theorem dX6_as_53 : decode cX6_as 53 = .ok (.ireturn, 1) := by decide +kernel
theorem dX6_as_54 : decode cX6_as 54 = .ok (.aload_n 0, 1) := by decide +kernel
theorem dX6_as_55 : decode cX6_as 55 = .ok (.iload_n 1, 1) := by decide +kernel
theorem dX6_as_56 : decode cX6_as 56 = .ok (.invokevirtual 71, 3) := by decide +kernel
theorem dX6_as_59 : decode cX6_as 59 = .ok (.ireturn, 1) := by decide +kernel
theorem dX6_ask_0 : decode cX6_ask 0 = .ok (.aload_n 0, 1) := by decide +kernel
theorem dX6_ask_1 : decode cX6_ask 1 = .ok (.iload_n 1, 1) := by decide +kernel
theorem dX6_ask_2 : decode cX6_ask 2 = .ok (.invokevirtual 141, 3) := by decide +kernel
theorem dX6_ask_5 : decode cX6_ask 5 = .ok (.ifCond .eq 12, 3) := by decide +kernel
theorem dX6_ask_8 : decode cX6_ask 8 = .ok (.iload_n 2, 1) := by decide +kernel
theorem dX6_ask_9 : decode cX6_ask 9 = .ok (.ifCond .lt 8, 3) := by decide +kernel
theorem dX6_ask_12 : decode cX6_ask 12 = .ok (.iload_n 2, 1) := by decide +kernel
theorem dX6_ask_13 : decode cX6_ask 13 = .ok (.iconst 1, 1) := by decide +kernel
theorem dX6_ask_14 : decode cX6_ask 14 = .ok (.if_icmp .le 6, 3) := by decide +kernel
theorem dX6_ask_17 : decode cX6_ask 17 = .ok (.ldc 62, 2) := by decide +kernel
theorem dX6_ask_19 : decode cX6_ask 19 = .ok (.ireturn, 1) := by decide +kernel
theorem dX6_ask_20 : decode cX6_ask 20 = .ok (.aload_n 0, 1) := by decide +kernel
theorem dX6_ask_21 : decode cX6_ask 21 = .ok (.getfield 53, 3) := by decide +kernel
theorem dX6_ask_24 : decode cX6_ask 24 = .ok (.aload_n 0, 1) := by decide +kernel
theorem dX6_ask_25 : decode cX6_ask 25 = .ok (.getfield 25, 3) := by decide +kernel
theorem dX6_ask_28 : decode cX6_ask 28 = .ok (.iload_n 1, 1) := by decide +kernel
theorem dX6_ask_29 : decode cX6_ask 29 = .ok (.iload_n 2, 1) := by decide +kernel
theorem dX6_ask_30 : decode cX6_ask 30 = .ok (.invokevirtual 276, 3) := by decide +kernel
theorem dX6_ask_33 : decode cX6_ask 33 = .ok (.ireturn, 1) := by decide +kernel
theorem dX6_trace_0 : decode cX6_trace 0 = .ok (.iload_n 1, 1) := by decide +kernel
theorem dX6_trace_1 : decode cX6_trace 1 = .ok (.ifCond .lt 26, 3) := by decide +kernel
theorem dX6_trace_4 : decode cX6_trace 4 = .ok (.iload_n 1, 1) := by decide +kernel
theorem dX6_trace_5 : decode cX6_trace 5 = .ok (.aload_n 0, 1) := by decide +kernel
theorem dX6_trace_6 : decode cX6_trace 6 = .ok (.getfield 53, 3) := by decide +kernel
theorem dX6_trace_9 : decode cX6_trace 9 = .ok (.getfield 280, 3) := by decide +kernel
theorem dX6_trace_12 : decode cX6_trace 12 = .ok (.if_icmp .ge 15, 3) := by decide +kernel
theorem dX6_trace_15 : decode cX6_trace 15 = .ok (.aload_n 0, 1) := by decide +kernel
theorem dX6_trace_16 : decode cX6_trace 16 = .ok (.getfield 53, 3) := by decide +kernel
theorem dX6_trace_19 : decode cX6_trace 19 = .ok (.getfield 283, 3) := by decide +kernel
theorem dX6_trace_22 : decode cX6_trace 22 = .ok (.iload_n 1, 1) := by decide +kernel
theorem dX6_trace_23 : decode cX6_trace 23 = .ok (.iaload, 1) := by decide +kernel
theorem dX6_trace_24 : decode cX6_trace 24 = .ok (.goto 5, 3) := by decide +kernel
theorem dX6_trace_27 : decode cX6_trace 27 = .ok (.ldc 157, 2) := by decide +kernel
theorem dX6_trace_29 : decode cX6_trace 29 = .ok (.ireturn, 1) := by decide +kernel
theorem dX6_count_0 : decode cX6_count 0 = .ok (.iload_n 1, 1) := by decide +kernel
theorem dX6_count_1 : decode cX6_count 1 = .ok (.tableswitch 96 0 6 #[43, 48, 56, 64, 72, 80, 88], 43) := by decide +kernel
theorem dX6_count_44 : decode cX6_count 44 = .ok (.aload_n 0, 1) := by decide +kernel
theorem dX6_count_45 : decode cX6_count 45 = .ok (.invokevirtual 286, 3) := by decide +kernel
theorem dX6_count_48 : decode cX6_count 48 = .ok (.ireturn, 1) := by decide +kernel
theorem dX6_count_49 : decode cX6_count 49 = .ok (.aload_n 0, 1) := by decide +kernel
theorem dX6_count_50 : decode cX6_count 50 = .ok (.getfield 25, 3) := by decide +kernel
theorem dX6_count_53 : decode cX6_count 53 = .ok (.getfield 125, 3) := by decide +kernel
theorem dX6_count_56 : decode cX6_count 56 = .ok (.ireturn, 1) := by decide +kernel
theorem dX6_count_57 : decode cX6_count 57 = .ok (.aload_n 0, 1) := by decide +kernel
theorem dX6_count_58 : decode cX6_count 58 = .ok (.getfield 25, 3) := by decide +kernel
theorem dX6_count_61 : decode cX6_count 61 = .ok (.getfield 211, 3) := by decide +kernel
theorem dX6_count_64 : decode cX6_count 64 = .ok (.ireturn, 1) := by decide +kernel
theorem dX6_count_65 : decode cX6_count 65 = .ok (.aload_n 0, 1) := by decide +kernel
theorem dX6_count_66 : decode cX6_count 66 = .ok (.getfield 25, 3) := by decide +kernel
theorem dX6_count_69 : decode cX6_count 69 = .ok (.invokevirtual 289, 3) := by decide +kernel
theorem dX6_count_72 : decode cX6_count 72 = .ok (.ireturn, 1) := by decide +kernel
theorem dX6_count_73 : decode cX6_count 73 = .ok (.aload_n 0, 1) := by decide +kernel
theorem dX6_count_74 : decode cX6_count 74 = .ok (.getfield 25, 3) := by decide +kernel
theorem dX6_count_77 : decode cX6_count 77 = .ok (.invokevirtual 292, 3) := by decide +kernel
theorem dX6_count_80 : decode cX6_count 80 = .ok (.ireturn, 1) := by decide +kernel
theorem dX6_count_81 : decode cX6_count 81 = .ok (.aload_n 0, 1) := by decide +kernel
theorem dX6_count_82 : decode cX6_count 82 = .ok (.getfield 46, 3) := by decide +kernel
theorem dX6_count_85 : decode cX6_count 85 = .ok (.getfield 131, 3) := by decide +kernel
theorem dX6_count_88 : decode cX6_count 88 = .ok (.ireturn, 1) := by decide +kernel
theorem dX6_count_89 : decode cX6_count 89 = .ok (.aload_n 0, 1) := by decide +kernel
theorem dX6_count_90 : decode cX6_count 90 = .ok (.getfield 18, 3) := by decide +kernel
theorem dX6_count_93 : decode cX6_count 93 = .ok (.getfield 106, 3) := by decide +kernel
theorem dX6_count_96 : decode cX6_count 96 = .ok (.ireturn, 1) := by decide +kernel
theorem dX6_count_97 : decode cX6_count 97 = .ok (.ldc 62, 2) := by decide +kernel
theorem dX6_count_99 : decode cX6_count 99 = .ok (.ireturn, 1) := by decide +kernel
theorem dX6_status_0 : decode cX6_status 0 = .ok (.aload_n 0, 1) := by decide +kernel
theorem dX6_status_1 : decode cX6_status 1 = .ok (.getfield 295, 3) := by decide +kernel
theorem dX6_status_4 : decode cX6_status 4 = .ok (.ireturn, 1) := by decide +kernel
theorem dX6_found_0 : decode cX6_found 0 = .ok (.aload_n 0, 1) := by decide +kernel
theorem dX6_found_1 : decode cX6_found 1 = .ok (.iload_n 1, 1) := by decide +kernel
theorem dX6_found_2 : decode cX6_found 2 = .ok (.putfield 295, 3) := by decide +kernel
theorem dX6_found_5 : decode cX6_found 5 = .ok (.ldc_w 298, 3) := by decide +kernel
theorem dX6_found_8 : decode cX6_found 8 = .ok (.iload_n 1, 1) := by decide +kernel
theorem dX6_found_9 : decode cX6_found 9 = .ok (.isub, 1) := by decide +kernel
theorem dX6_found_10 : decode cX6_found 10 = .ok (.ireturn, 1) := by decide +kernel
theorem dX6_passed_0 : decode cX6_passed 0 = .ok (.aload_n 0, 1) := by decide +kernel
theorem dX6_passed_1 : decode cX6_passed 1 = .ok (.iconst 0, 1) := by decide +kernel
theorem dX6_passed_2 : decode cX6_passed 2 = .ok (.putfield 295, 3) := by decide +kernel
theorem dX6_passed_5 : decode cX6_passed 5 = .ok (.iload_n 1, 1) := by decide +kernel
theorem dX6_passed_6 : decode cX6_passed 6 = .ok (.ireturn, 1) := by decide +kernel
theorem dX6_isRow_0 : decode cX6_isRow 0 = .ok (.iload_n 0, 1) := by decide +kernel
theorem dX6_isRow_1 : decode cX6_isRow 1 = .ok (.ifCond .lt 13, 3) := by decide +kernel
theorem dX6_isRow_4 : decode cX6_isRow 4 = .ok (.iload_n 0, 1) := by decide +kernel
theorem dX6_isRow_5 : decode cX6_isRow 5 = .ok (.bipush 8, 2) := by decide +kernel
theorem dX6_isRow_7 : decode cX6_isRow 7 = .ok (.if_icmp .ge 7, 3) := by decide +kernel
theorem dX6_isRow_10 : decode cX6_isRow 10 = .ok (.iconst 1, 1) := by decide +kernel
theorem dX6_isRow_11 : decode cX6_isRow 11 = .ok (.goto 4, 3) := by decide +kernel
theorem dX6_isRow_14 : decode cX6_isRow 14 = .ok (.iconst 0, 1) := by decide +kernel
theorem dX6_isRow_15 : decode cX6_isRow 15 = .ok (.ireturn, 1) := by decide +kernel
theorem dX6_isStep_0 : decode cX6_isStep 0 = .ok (.iload_n 1, 1) := by decide +kernel
theorem dX6_isStep_1 : decode cX6_isStep 1 = .ok (.ifCond .lt 18, 3) := by decide +kernel
theorem dX6_isStep_4 : decode cX6_isStep 4 = .ok (.iload_n 1, 1) := by decide +kernel
theorem dX6_isStep_5 : decode cX6_isStep 5 = .ok (.aload_n 0, 1) := by decide +kernel
theorem dX6_isStep_6 : decode cX6_isStep 6 = .ok (.getfield 25, 3) := by decide +kernel
theorem dX6_isStep_9 : decode cX6_isStep 9 = .ok (.getfield 211, 3) := by decide +kernel
theorem dX6_isStep_12 : decode cX6_isStep 12 = .ok (.if_icmp .ge 7, 3) := by decide +kernel
theorem dX6_isStep_15 : decode cX6_isStep 15 = .ok (.iconst 1, 1) := by decide +kernel
theorem dX6_isStep_16 : decode cX6_isStep 16 = .ok (.goto 4, 3) := by decide +kernel
theorem dX6_isStep_19 : decode cX6_isStep 19 = .ok (.iconst 0, 1) := by decide +kernel
theorem dX6_isStep_20 : decode cX6_isStep 20 = .ok (.ireturn, 1) := by decide +kernel
theorem dX6_isGrade_0 : decode cX6_isGrade 0 = .ok (.iload_n 1, 1) := by decide +kernel
theorem dX6_isGrade_1 : decode cX6_isGrade 1 = .ok (.ifCond .lt 18, 3) := by decide +kernel
theorem dX6_isGrade_4 : decode cX6_isGrade 4 = .ok (.iload_n 1, 1) := by decide +kernel
theorem dX6_isGrade_5 : decode cX6_isGrade 5 = .ok (.aload_n 0, 1) := by decide +kernel
theorem dX6_isGrade_6 : decode cX6_isGrade 6 = .ok (.getfield 25, 3) := by decide +kernel
theorem dX6_isGrade_9 : decode cX6_isGrade 9 = .ok (.getfield 125, 3) := by decide +kernel
theorem dX6_isGrade_12 : decode cX6_isGrade 12 = .ok (.if_icmp .ge 7, 3) := by decide +kernel
theorem dX6_isGrade_15 : decode cX6_isGrade 15 = .ok (.iconst 1, 1) := by decide +kernel
theorem dX6_isGrade_16 : decode cX6_isGrade 16 = .ok (.goto 4, 3) := by decide +kernel
theorem dX6_isGrade_19 : decode cX6_isGrade 19 = .ok (.iconst 0, 1) := by decide +kernel
theorem dX6_isGrade_20 : decode cX6_isGrade 20 = .ok (.ireturn, 1) := by decide +kernel
theorem dX6_hasNoWell_0 : decode cX6_hasNoWell 0 = .ok (.aload_n 0, 1) := by decide +kernel
theorem dX6_hasNoWell_1 : decode cX6_hasNoWell 1 = .ok (.getfield 25, 3) := by decide +kernel
theorem dX6_hasNoWell_4 : decode cX6_hasNoWell 4 = .ok (.getfield 211, 3) := by decide +kernel
theorem dX6_hasNoWell_7 : decode cX6_hasNoWell 7 = .ok (.ifCond .ne 7, 3) := by decide +kernel
theorem dX6_hasNoWell_10 : decode cX6_hasNoWell 10 = .ok (.iconst 1, 1) := by decide +kernel
theorem dX6_hasNoWell_11 : decode cX6_hasNoWell 11 = .ok (.goto 4, 3) := by decide +kernel
theorem dX6_hasNoWell_14 : decode cX6_hasNoWell 14 = .ok (.iconst 0, 1) := by decide +kernel
theorem dX6_hasNoWell_15 : decode cX6_hasNoWell 15 = .ok (.ireturn, 1) := by decide +kernel
theorem dX6_howManyRows_0 : decode cX6_howManyRows 0 = .ok (.iconst 0, 1) := by decide +kernel
theorem dX6_howManyRows_1 : decode cX6_howManyRows 1 = .ok (.istore_n 1, 1) := by decide +kernel
theorem dX6_howManyRows_2 : decode cX6_howManyRows 2 = .ok (.iconst 0, 1) := by decide +kernel
theorem dX6_howManyRows_3 : decode cX6_howManyRows 3 = .ok (.istore_n 2, 1) := by decide +kernel
theorem dX6_howManyRows_4 : decode cX6_howManyRows 4 = .ok (.iload_n 2, 1) := by decide +kernel
theorem dX6_howManyRows_5 : decode cX6_howManyRows 5 = .ok (.bipush 8, 2) := by decide +kernel
theorem dX6_howManyRows_7 : decode cX6_howManyRows 7 = .ok (.if_icmp .ge 24, 3) := by decide +kernel
theorem dX6_howManyRows_10 : decode cX6_howManyRows 10 = .ok (.aload_n 0, 1) := by decide +kernel
theorem dX6_howManyRows_11 : decode cX6_howManyRows 11 = .ok (.getfield 11, 3) := by decide +kernel
theorem dX6_howManyRows_14 : decode cX6_howManyRows 14 = .ok (.iload_n 2, 1) := by decide +kernel
theorem dX6_howManyRows_15 : decode cX6_howManyRows 15 = .ok (.aaload, 1) := by decide +kernel
theorem dX6_howManyRows_16 : decode cX6_howManyRows 16 = .ok (.invokevirtual 74, 3) := by decide +kernel
theorem dX6_howManyRows_19 : decode cX6_howManyRows 19 = .ok (.ifCond .ne 6, 3) := by decide +kernel
theorem dX6_howManyRows_22 : decode cX6_howManyRows 22 = .ok (.iinc 1 1, 3) := by decide +kernel
theorem dX6_howManyRows_25 : decode cX6_howManyRows 25 = .ok (.iinc 2 1, 3) := by decide +kernel
theorem dX6_howManyRows_28 : decode cX6_howManyRows 28 = .ok (.goto (-24), 3) := by decide +kernel
theorem dX6_howManyRows_31 : decode cX6_howManyRows 31 = .ok (.iload_n 1, 1) := by decide +kernel
theorem dX6_howManyRows_32 : decode cX6_howManyRows 32 = .ok (.ireturn, 1) := by decide +kernel
theorem dX6_isBest_0 : decode cX6_isBest 0 = .ok (.aload_n 0, 1) := by decide +kernel
theorem dX6_isBest_1 : decode cX6_isBest 1 = .ok (.getfield 39, 3) := by decide +kernel
theorem dX6_isBest_4 : decode cX6_isBest 4 = .ok (.aload_n 1, 1) := by decide +kernel
theorem dX6_isBest_5 : decode cX6_isBest 5 = .ok (.ldc 157, 2) := by decide +kernel
theorem dX6_isBest_7 : decode cX6_isBest 7 = .ok (.invokevirtual 158, 3) := by decide +kernel
theorem dX6_isBest_10 : decode cX6_isBest 10 = .ok (.ifCond .ne 5, 3) := by decide +kernel
theorem dX6_isBest_13 : decode cX6_isBest 13 = .ok (.iconst 0, 1) := by decide +kernel
theorem dX6_isBest_14 : decode cX6_isBest 14 = .ok (.ireturn, 1) := by decide +kernel
theorem dX6_isBest_15 : decode cX6_isBest 15 = .ok (.iconst 0, 1) := by decide +kernel
theorem dX6_isBest_16 : decode cX6_isBest 16 = .ok (.istore 4, 2) := by decide +kernel
theorem dX6_isBest_18 : decode cX6_isBest 18 = .ok (.iload 4, 2) := by decide +kernel
theorem dX6_isBest_20 : decode cX6_isBest 20 = .ok (.aload_n 1, 1) := by decide +kernel
theorem dX6_isBest_21 : decode cX6_isBest 21 = .ok (.getfield 211, 3) := by decide +kernel
theorem dX6_isBest_24 : decode cX6_isBest 24 = .ok (.if_icmp .ge 33, 3) := by decide +kernel
theorem dX6_isBest_27 : decode cX6_isBest 27 = .ok (.aload_n 2, 1) := by decide +kernel
theorem dX6_isBest_28 : decode cX6_isBest 28 = .ok (.getfield 90, 3) := by decide +kernel
theorem dX6_isBest_31 : decode cX6_isBest 31 = .ok (.iload_n 3, 1) := by decide +kernel
theorem dX6_isBest_32 : decode cX6_isBest 32 = .ok (.iload 4, 2) := by decide +kernel
theorem dX6_isBest_34 : decode cX6_isBest 34 = .ok (.iadd, 1) := by decide +kernel
theorem dX6_isBest_35 : decode cX6_isBest 35 = .ok (.iaload, 1) := by decide +kernel
theorem dX6_isBest_36 : decode cX6_isBest 36 = .ok (.aload_n 0, 1) := by decide +kernel
theorem dX6_isBest_37 : decode cX6_isBest 37 = .ok (.getfield 39, 3) := by decide +kernel
theorem dX6_isBest_40 : decode cX6_isBest 40 = .ok (.getfield 162, 3) := by decide +kernel
theorem dX6_isBest_43 : decode cX6_isBest 43 = .ok (.iload 4, 2) := by decide +kernel
theorem dX6_isBest_45 : decode cX6_isBest 45 = .ok (.iaload, 1) := by decide +kernel
theorem dX6_isBest_46 : decode cX6_isBest 46 = .ok (.if_icmp .eq 5, 3) := by decide +kernel
theorem dX6_isBest_49 : decode cX6_isBest 49 = .ok (.iconst 0, 1) := by decide +kernel
theorem dX6_isBest_50 : decode cX6_isBest 50 = .ok (.ireturn, 1) := by decide +kernel
theorem dX6_isBest_51 : decode cX6_isBest 51 = .ok (.iinc 4 1, 3) := by decide +kernel
theorem dX6_isBest_54 : decode cX6_isBest 54 = .ok (.goto (-36), 3) := by decide +kernel
theorem dX6_isBest_57 : decode cX6_isBest 57 = .ok (.iconst 1, 1) := by decide +kernel
theorem dX6_isBest_58 : decode cX6_isBest 58 = .ok (.ireturn, 1) := by decide +kernel
theorem dX6_costByTurns_0 : decode cX6_costByTurns 0 = .ok (.iload_n 1, 1) := by decide +kernel
theorem dX6_costByTurns_1 : decode cX6_costByTurns 1 = .ok (.iconst 1, 1) := by decide +kernel
theorem dX6_costByTurns_2 : decode cX6_costByTurns 2 = .ok (.if_icmp .lt 7, 3) := by decide +kernel
theorem dX6_costByTurns_5 : decode cX6_costByTurns 5 = .ok (.iload_n 2, 1) := by decide +kernel
theorem dX6_costByTurns_6 : decode cX6_costByTurns 6 = .ok (.ifCond .ge 5, 3) := by decide +kernel
theorem dX6_costByTurns_9 : decode cX6_costByTurns 9 = .ok (.iconst 0, 1) := by decide +kernel
theorem dX6_costByTurns_10 : decode cX6_costByTurns 10 = .ok (.ireturn, 1) := by decide +kernel
theorem dX6_costByTurns_11 : decode cX6_costByTurns 11 = .ok (.ldc 157, 2) := by decide +kernel
theorem dX6_costByTurns_13 : decode cX6_costByTurns 13 = .ok (.istore 5, 2) := by decide +kernel
theorem dX6_costByTurns_15 : decode cX6_costByTurns 15 = .ok (.iconst 0, 1) := by decide +kernel
theorem dX6_costByTurns_16 : decode cX6_costByTurns 16 = .ok (.istore 6, 2) := by decide +kernel
theorem dX6_costByTurns_18 : decode cX6_costByTurns 18 = .ok (.iload 6, 2) := by decide +kernel
theorem dX6_costByTurns_20 : decode cX6_costByTurns 20 = .ok (.aload_n 0, 1) := by decide +kernel
theorem dX6_costByTurns_21 : decode cX6_costByTurns 21 = .ok (.getfield 125, 3) := by decide +kernel
theorem dX6_costByTurns_24 : decode cX6_costByTurns 24 = .ok (.if_icmp .ge 97, 3) := by decide +kernel
theorem dX6_costByTurns_27 : decode cX6_costByTurns 27 = .ok (.iload_n 3, 1) := by decide +kernel
theorem dX6_costByTurns_28 : decode cX6_costByTurns 28 = .ok (.aload_n 0, 1) := by decide +kernel
theorem dX6_costByTurns_29 : decode cX6_costByTurns 29 = .ok (.iload 6, 2) := by decide +kernel
theorem dX6_costByTurns_31 : decode cX6_costByTurns 31 = .ok (.iconst 3, 1) := by decide +kernel
theorem dX6_costByTurns_32 : decode cX6_costByTurns 32 = .ok (.invokevirtual 180, 3) := by decide +kernel
theorem dX6_costByTurns_35 : decode cX6_costByTurns 35 = .ok (.iadd, 1) := by decide +kernel
theorem dX6_costByTurns_36 : decode cX6_costByTurns 36 = .ok (.istore 7, 2) := by decide +kernel
theorem dX6_costByTurns_38 : decode cX6_costByTurns 38 = .ok (.aload_n 0, 1) := by decide +kernel
theorem dX6_costByTurns_39 : decode cX6_costByTurns 39 = .ok (.iload_n 2, 1) := by decide +kernel
theorem dX6_costByTurns_40 : decode cX6_costByTurns 40 = .ok (.iload 6, 2) := by decide +kernel
theorem dX6_costByTurns_42 : decode cX6_costByTurns 42 = .ok (.iload 7, 2) := by decide +kernel
theorem dX6_costByTurns_44 : decode cX6_costByTurns 44 = .ok (.invokevirtual 299, 3) := by decide +kernel
theorem dX6_costByTurns_47 : decode cX6_costByTurns 47 = .ok (.ifCond .eq 68, 3) := by decide +kernel
theorem dX6_costByTurns_50 : decode cX6_costByTurns 50 = .ok (.aload_n 0, 1) := by decide +kernel
theorem dX6_costByTurns_51 : decode cX6_costByTurns 51 = .ok (.iload 6, 2) := by decide +kernel
theorem dX6_costByTurns_53 : decode cX6_costByTurns 53 = .ok (.iconst 4, 1) := by decide +kernel
theorem dX6_costByTurns_54 : decode cX6_costByTurns 54 = .ok (.invokevirtual 180, 3) := by decide +kernel
theorem dX6_costByTurns_57 : decode cX6_costByTurns 57 = .ok (.aload_n 0, 1) := by decide +kernel
theorem dX6_costByTurns_58 : decode cX6_costByTurns 58 = .ok (.iload_n 1, 1) := by decide +kernel
theorem dX6_costByTurns_59 : decode cX6_costByTurns 59 = .ok (.iconst 1, 1) := by decide +kernel
theorem dX6_costByTurns_60 : decode cX6_costByTurns 60 = .ok (.isub, 1) := by decide +kernel
theorem dX6_costByTurns_61 : decode cX6_costByTurns 61 = .ok (.iload_n 2, 1) := by decide +kernel
theorem dX6_costByTurns_62 : decode cX6_costByTurns 62 = .ok (.iconst 1, 1) := by decide +kernel
theorem dX6_costByTurns_63 : decode cX6_costByTurns 63 = .ok (.isub, 1) := by decide +kernel
theorem dX6_costByTurns_64 : decode cX6_costByTurns 64 = .ok (.iload 7, 2) := by decide +kernel
theorem dX6_costByTurns_66 : decode cX6_costByTurns 66 = .ok (.iload 4, 2) := by decide +kernel
theorem dX6_costByTurns_68 : decode cX6_costByTurns 68 = .ok (.ifCond .ne 7, 3) := by decide +kernel
theorem dX6_costByTurns_71 : decode cX6_costByTurns 71 = .ok (.iconst 1, 1) := by decide +kernel
theorem dX6_costByTurns_72 : decode cX6_costByTurns 72 = .ok (.goto 4, 3) := by decide +kernel
theorem dX6_costByTurns_75 : decode cX6_costByTurns 75 = .ok (.iconst 0, 1) := by decide +kernel
theorem dX6_costByTurns_76 : decode cX6_costByTurns 76 = .ok (.invokestatic 232, 3) := by decide +kernel
theorem dX6_costByTurns_79 : decode cX6_costByTurns 79 = .ok (.iadd, 1) := by decide +kernel
theorem dX6_costByTurns_80 : decode cX6_costByTurns 80 = .ok (.istore 8, 2) := by decide +kernel
theorem dX6_costByTurns_82 : decode cX6_costByTurns 82 = .ok (.iload 5, 2) := by decide +kernel
theorem dX6_costByTurns_84 : decode cX6_costByTurns 84 = .ok (.ldc 157, 2) := by decide +kernel
theorem dX6_costByTurns_86 : decode cX6_costByTurns 86 = .ok (.if_icmp .eq 25, 3) := by decide +kernel
theorem dX6_costByTurns_89 : decode cX6_costByTurns 89 = .ok (.iload 4, 2) := by decide +kernel
theorem dX6_costByTurns_91 : decode cX6_costByTurns 91 = .ok (.ifCond .eq 13, 3) := by decide +kernel
theorem dX6_costByTurns_94 : decode cX6_costByTurns 94 = .ok (.iload 8, 2) := by decide +kernel
theorem dX6_costByTurns_96 : decode cX6_costByTurns 96 = .ok (.iload 5, 2) := by decide +kernel
theorem dX6_costByTurns_98 : decode cX6_costByTurns 98 = .ok (.if_icmp .ge 17, 3) := by decide +kernel
theorem dX6_costByTurns_101 : decode cX6_costByTurns 101 = .ok (.goto 10, 3) := by decide +kernel
theorem dX6_costByTurns_104 : decode cX6_costByTurns 104 = .ok (.iload 8, 2) := by decide +kernel
theorem dX6_costByTurns_106 : decode cX6_costByTurns 106 = .ok (.iload 5, 2) := by decide +kernel
theorem dX6_costByTurns_108 : decode cX6_costByTurns 108 = .ok (.if_icmp .le 7, 3) := by decide +kernel
theorem dX6_costByTurns_111 : decode cX6_costByTurns 111 = .ok (.iload 8, 2) := by decide +kernel
theorem dX6_costByTurns_113 : decode cX6_costByTurns 113 = .ok (.istore 5, 2) := by decide +kernel
theorem dX6_costByTurns_115 : decode cX6_costByTurns 115 = .ok (.iinc 6 1, 3) := by decide +kernel
theorem dX6_costByTurns_118 : decode cX6_costByTurns 118 = .ok (.goto (-100), 3) := by decide +kernel
theorem dX6_costByTurns_121 : decode cX6_costByTurns 121 = .ok (.iload 5, 2) := by decide +kernel
theorem dX6_costByTurns_123 : decode cX6_costByTurns 123 = .ok (.ldc 157, 2) := by decide +kernel
theorem dX6_costByTurns_125 : decode cX6_costByTurns 125 = .ok (.if_icmp .ne 7, 3) := by decide +kernel
theorem dX6_costByTurns_128 : decode cX6_costByTurns 128 = .ok (.iconst 0, 1) := by decide +kernel
theorem dX6_costByTurns_129 : decode cX6_costByTurns 129 = .ok (.goto 5, 3) := by decide +kernel
theorem dX6_costByTurns_132 : decode cX6_costByTurns 132 = .ok (.iload 5, 2) := by decide +kernel
theorem dX6_costByTurns_134 : decode cX6_costByTurns 134 = .ok (.ireturn, 1) := by decide +kernel
theorem dX6_greatestDivisor_0 : decode cX6_greatestDivisor 0 = .ok (.lload_n 2, 1) := by decide +kernel
theorem dX6_greatestDivisor_1 : decode cX6_greatestDivisor 1 = .ok (.lstore 4, 2) := by decide +kernel
theorem dX6_greatestDivisor_3 : decode cX6_greatestDivisor 3 = .ok (.lload_n 0, 1) := by decide +kernel
theorem dX6_greatestDivisor_4 : decode cX6_greatestDivisor 4 = .ok (.lstore 6, 2) := by decide +kernel
theorem dX6_greatestDivisor_6 : decode cX6_greatestDivisor 6 = .ok (.iconst 0, 1) := by decide +kernel
theorem dX6_greatestDivisor_7 : decode cX6_greatestDivisor 7 = .ok (.istore 8, 2) := by decide +kernel
theorem dX6_greatestDivisor_9 : decode cX6_greatestDivisor 9 = .ok (.iload 8, 2) := by decide +kernel
theorem dX6_greatestDivisor_11 : decode cX6_greatestDivisor 11 = .ok (.sipush 128, 3) := by decide +kernel
theorem dX6_greatestDivisor_14 : decode cX6_greatestDivisor 14 = .ok (.if_icmp .ge 31, 3) := by decide +kernel
theorem dX6_greatestDivisor_17 : decode cX6_greatestDivisor 17 = .ok (.lload 6, 2) := by decide +kernel
theorem dX6_greatestDivisor_19 : decode cX6_greatestDivisor 19 = .ok (.lconst 0, 1) := by decide +kernel
theorem dX6_greatestDivisor_20 : decode cX6_greatestDivisor 20 = .ok (.lcmp, 1) := by decide +kernel
theorem dX6_greatestDivisor_21 : decode cX6_greatestDivisor 21 = .ok (.ifCond .eq 24, 3) := by decide +kernel
theorem dX6_greatestDivisor_24 : decode cX6_greatestDivisor 24 = .ok (.lload 4, 2) := by decide +kernel
theorem dX6_greatestDivisor_26 : decode cX6_greatestDivisor 26 = .ok (.lload 6, 2) := by decide +kernel
theorem dX6_greatestDivisor_28 : decode cX6_greatestDivisor 28 = .ok (.lrem, 1) := by decide +kernel
theorem dX6_greatestDivisor_29 : decode cX6_greatestDivisor 29 = .ok (.lstore 9, 2) := by decide +kernel
theorem dX6_greatestDivisor_31 : decode cX6_greatestDivisor 31 = .ok (.lload 6, 2) := by decide +kernel
theorem dX6_greatestDivisor_33 : decode cX6_greatestDivisor 33 = .ok (.lstore 4, 2) := by decide +kernel
theorem dX6_greatestDivisor_35 : decode cX6_greatestDivisor 35 = .ok (.lload 9, 2) := by decide +kernel
theorem dX6_greatestDivisor_37 : decode cX6_greatestDivisor 37 = .ok (.lstore 6, 2) := by decide +kernel
theorem dX6_greatestDivisor_39 : decode cX6_greatestDivisor 39 = .ok (.iinc 8 1, 3) := by decide +kernel
theorem dX6_greatestDivisor_42 : decode cX6_greatestDivisor 42 = .ok (.goto (-33), 3) := by decide +kernel
theorem dX6_greatestDivisor_45 : decode cX6_greatestDivisor 45 = .ok (.lload 4, 2) := by decide +kernel
theorem dX6_greatestDivisor_47 : decode cX6_greatestDivisor 47 = .ok (.lreturn, 1) := by decide +kernel
end
section
theorem dX7_init_0 : decode cX7_init 0 = .ok (.aload_n 0, 1) := by decide +kernel
theorem dX7_init_1 : decode cX7_init 1 = .ok (.invokespecial 1, 3) := by decide +kernel
theorem dX7_init_4 : decode cX7_init 4 = .ok (.aload_n 0, 1) := by decide +kernel
theorem dX7_init_5 : decode cX7_init 5 = .ok (.bipush 8, 2) := by decide +kernel
theorem dX7_init_7 : decode cX7_init 7 = .ok (.newarray .int, 2) := by decide +kernel
theorem dX7_init_9 : decode cX7_init 9 = .ok (.dup, 1) := by decide +kernel
theorem dX7_init_10 : decode cX7_init 10 = .ok (.iconst 0, 1) := by decide +kernel
theorem dX7_init_11 : decode cX7_init 11 = .ok (.iconst (-1), 1) := by decide +kernel
theorem dX7_init_12 : decode cX7_init 12 = .ok (.iastore, 1) := by decide +kernel
theorem dX7_init_13 : decode cX7_init 13 = .ok (.dup, 1) := by decide +kernel
theorem dX7_init_14 : decode cX7_init 14 = .ok (.iconst 1, 1) := by decide +kernel
theorem dX7_init_15 : decode cX7_init 15 = .ok (.iconst (-1), 1) := by decide +kernel
theorem dX7_init_16 : decode cX7_init 16 = .ok (.iastore, 1) := by decide +kernel
theorem dX7_init_17 : decode cX7_init 17 = .ok (.dup, 1) := by decide +kernel
theorem dX7_init_18 : decode cX7_init 18 = .ok (.iconst 2, 1) := by decide +kernel
theorem dX7_init_19 : decode cX7_init 19 = .ok (.iconst (-1), 1) := by decide +kernel
theorem dX7_init_20 : decode cX7_init 20 = .ok (.iastore, 1) := by decide +kernel
theorem dX7_init_21 : decode cX7_init 21 = .ok (.dup, 1) := by decide +kernel
theorem dX7_init_22 : decode cX7_init 22 = .ok (.iconst 3, 1) := by decide +kernel
theorem dX7_init_23 : decode cX7_init 23 = .ok (.iconst (-1), 1) := by decide +kernel
theorem dX7_init_24 : decode cX7_init 24 = .ok (.iastore, 1) := by decide +kernel
theorem dX7_init_25 : decode cX7_init 25 = .ok (.dup, 1) := by decide +kernel
theorem dX7_init_26 : decode cX7_init 26 = .ok (.iconst 4, 1) := by decide +kernel
theorem dX7_init_27 : decode cX7_init 27 = .ok (.iconst (-1), 1) := by decide +kernel
theorem dX7_init_28 : decode cX7_init 28 = .ok (.iastore, 1) := by decide +kernel
theorem dX7_init_29 : decode cX7_init 29 = .ok (.dup, 1) := by decide +kernel
theorem dX7_init_30 : decode cX7_init 30 = .ok (.iconst 5, 1) := by decide +kernel
theorem dX7_init_31 : decode cX7_init 31 = .ok (.iconst (-1), 1) := by decide +kernel
theorem dX7_init_32 : decode cX7_init 32 = .ok (.iastore, 1) := by decide +kernel
theorem dX7_init_33 : decode cX7_init 33 = .ok (.dup, 1) := by decide +kernel
theorem dX7_init_34 : decode cX7_init 34 = .ok (.bipush 6, 2) := by decide +kernel
theorem dX7_init_36 : decode cX7_init 36 = .ok (.iconst (-1), 1) := by decide +kernel
theorem dX7_init_37 : decode cX7_init 37 = .ok (.iastore, 1) := by decide +kernel
theorem dX7_init_38 : decode cX7_init 38 = .ok (.dup, 1) := by decide +kernel
theorem dX7_init_39 : decode cX7_init 39 = .ok (.bipush 7, 2) := by decide +kernel
theorem dX7_init_41 : decode cX7_init 41 = .ok (.iconst (-1), 1) := by decide +kernel
theorem dX7_init_42 : decode cX7_init 42 = .ok (.iastore, 1) := by decide +kernel
theorem dX7_init_43 : decode cX7_init 43 = .ok (.putfield 7, 3) := by decide +kernel
theorem dX7_init_46 : decode cX7_init 46 = .ok (.aload_n 0, 1) := by decide +kernel
theorem dX7_init_47 : decode cX7_init 47 = .ok (.bipush 8, 2) := by decide +kernel
theorem dX7_init_49 : decode cX7_init 49 = .ok (.newarray .int, 2) := by decide +kernel
theorem dX7_init_51 : decode cX7_init 51 = .ok (.putfield 13, 3) := by decide +kernel
theorem dX7_init_54 : decode cX7_init 54 = .ok (.aload_n 0, 1) := by decide +kernel
theorem dX7_init_55 : decode cX7_init 55 = .ok (.sipush 320, 3) := by decide +kernel
theorem dX7_init_58 : decode cX7_init 58 = .ok (.newarray .int, 2) := by decide +kernel
theorem dX7_init_60 : decode cX7_init 60 = .ok (.putfield 16, 3) := by decide +kernel
theorem dX7_init_63 : decode cX7_init 63 = .ok (.aload_n 0, 1) := by decide +kernel
theorem dX7_init_64 : decode cX7_init 64 = .ok (.bipush 44, 2) := by decide +kernel
theorem dX7_init_66 : decode cX7_init 66 = .ok (.newarray .int, 2) := by decide +kernel
theorem dX7_init_68 : decode cX7_init 68 = .ok (.putfield 19, 3) := by decide +kernel
theorem dX7_init_71 : decode cX7_init 71 = .ok (.aload_n 0, 1) := by decide +kernel
theorem dX7_init_72 : decode cX7_init 72 = .ok (.bipush 44, 2) := by decide +kernel
theorem dX7_init_74 : decode cX7_init 74 = .ok (.newarray .int, 2) := by decide +kernel
theorem dX7_init_76 : decode cX7_init 76 = .ok (.putfield 22, 3) := by decide +kernel
theorem dX7_init_79 : decode cX7_init 79 = .ok (.aload_n 0, 1) := by decide +kernel
theorem dX7_init_80 : decode cX7_init 80 = .ok (.bipush 44, 2) := by decide +kernel
theorem dX7_init_82 : decode cX7_init 82 = .ok (.newarray .int, 2) := by decide +kernel
theorem dX7_init_84 : decode cX7_init 84 = .ok (.putfield 25, 3) := by decide +kernel
theorem dX7_init_87 : decode cX7_init 87 = .ok (.aload_n 0, 1) := by decide +kernel
theorem dX7_init_88 : decode cX7_init 88 = .ok (.sipush 1056, 3) := by decide +kernel
theorem dX7_init_91 : decode cX7_init 91 = .ok (.newarray .int, 2) := by decide +kernel
theorem dX7_init_93 : decode cX7_init 93 = .ok (.putfield 28, 3) := by decide +kernel
theorem dX7_init_96 : decode cX7_init 96 = .ok (.aload_n 0, 1) := by decide +kernel
theorem dX7_init_97 : decode cX7_init 97 = .ok (.sipush 130, 3) := by decide +kernel
theorem dX7_init_100 : decode cX7_init 100 = .ok (.newarray .int, 2) := by decide +kernel
theorem dX7_init_102 : decode cX7_init 102 = .ok (.putfield 31, 3) := by decide +kernel
theorem dX7_init_105 : decode cX7_init 105 = .ok (.aload_n 0, 1) := by decide +kernel
theorem dX7_init_106 : decode cX7_init 106 = .ok (.sipush 14016, 3) := by decide +kernel
theorem dX7_init_109 : decode cX7_init 109 = .ok (.newarray .int, 2) := by decide +kernel
theorem dX7_init_111 : decode cX7_init 111 = .ok (.putfield 34, 3) := by decide +kernel
theorem dX7_init_114 : decode cX7_init 114 = .ok (.aload_n 0, 1) := by decide +kernel
theorem dX7_init_115 : decode cX7_init 115 = .ok (.bipush 8, 2) := by decide +kernel
theorem dX7_init_117 : decode cX7_init 117 = .ok (.newarray .int, 2) := by decide +kernel
theorem dX7_init_119 : decode cX7_init 119 = .ok (.putfield 37, 3) := by decide +kernel
theorem dX7_init_122 : decode cX7_init 122 = .ok (.aload_n 0, 1) := by decide +kernel
theorem dX7_init_123 : decode cX7_init 123 = .ok (.sipush 200, 3) := by decide +kernel
theorem dX7_init_126 : decode cX7_init 126 = .ok (.newarray .int, 2) := by decide +kernel
theorem dX7_init_128 : decode cX7_init 128 = .ok (.putfield 40, 3) := by decide +kernel
theorem dX7_init_131 : decode cX7_init 131 = .ok (.aload_n 0, 1) := by decide +kernel
theorem dX7_init_132 : decode cX7_init 132 = .ok (.iconst 2, 1) := by decide +kernel
theorem dX7_init_133 : decode cX7_init 133 = .ok (.newarray .boolean, 2) := by decide +kernel
theorem dX7_init_135 : decode cX7_init 135 = .ok (.putfield 43, 3) := by decide +kernel
theorem dX7_init_138 : decode cX7_init 138 = .ok (.aload_n 0, 1) := by decide +kernel
theorem dX7_init_139 : decode cX7_init 139 = .ok (.bipush 88, 2) := by decide +kernel
theorem dX7_init_141 : decode cX7_init 141 = .ok (.newarray .int, 2) := by decide +kernel
theorem dX7_init_143 : decode cX7_init 143 = .ok (.putfield 47, 3) := by decide +kernel
theorem dX7_init_146 : decode cX7_init 146 = .ok (.aload_n 0, 1) := by decide +kernel
theorem dX7_init_147 : decode cX7_init 147 = .ok (.bipush 16, 2) := by decide +kernel
theorem dX7_init_149 : decode cX7_init 149 = .ok (.newarray .int, 2) := by decide +kernel
theorem dX7_init_151 : decode cX7_init 151 = .ok (.putfield 50, 3) := by decide +kernel
theorem dX7_init_154 : decode cX7_init 154 = .ok (.return_, 1) := by decide +kernel
theorem dX7_in_0 : decode cX7_in 0 = .ok (.lload_n 0, 1) := by decide +kernel
theorem dX7_in_1 : decode cX7_in 1 = .ok (.lload_n 2, 1) := by decide +kernel
theorem dX7_in_2 : decode cX7_in 2 = .ok (.lcmp, 1) := by decide +kernel
theorem dX7_in_3 : decode cX7_in 3 = .ok (.ifCond .lt 14, 3) := by decide +kernel
theorem dX7_in_6 : decode cX7_in 6 = .ok (.lload_n 0, 1) := by decide +kernel
theorem dX7_in_7 : decode cX7_in 7 = .ok (.lload 4, 2) := by decide +kernel
theorem dX7_in_9 : decode cX7_in 9 = .ok (.lcmp, 1) := by decide +kernel
theorem dX7_in_10 : decode cX7_in 10 = .ok (.ifCond .gt 7, 3) := by decide +kernel
theorem dX7_in_13 : decode cX7_in 13 = .ok (.iconst 1, 1) := by decide +kernel
theorem dX7_in_14 : decode cX7_in 14 = .ok (.goto 4, 3) := by decide +kernel
theorem dX7_in_17 : decode cX7_in 17 = .ok (.iconst 0, 1) := by decide +kernel
theorem dX7_in_18 : decode cX7_in 18 = .ok (.ireturn, 1) := by decide +kernel
theorem dX7_finding_0 : decode cX7_finding 0 = .ok (.aload_n 0, 1) := by decide +kernel
theorem dX7_finding_1 : decode cX7_finding 1 = .ok (.iload_n 1, 1) := by decide +kernel
theorem dX7_finding_2 : decode cX7_finding 2 = .ok (.putfield 57, 3) := by decide +kernel
theorem dX7_finding_5 : decode cX7_finding 5 = .ok (.ldc 60, 2) := by decide +kernel
theorem dX7_finding_7 : decode cX7_finding 7 = .ok (.iload_n 1, 1) := by decide +kernel
theorem dX7_finding_8 : decode cX7_finding 8 = .ok (.isub, 1) := by decide +kernel
theorem dX7_finding_9 : decode cX7_finding 9 = .ok (.ireturn, 1) := by decide +kernel
theorem dX7_isRow_0 : decode cX7_isRow 0 = .ok (.iload_n 0, 1) := by decide +kernel
theorem dX7_isRow_1 : decode cX7_isRow 1 = .ok (.i2l, 1) := by decide +kernel
theorem dX7_isRow_2 : decode cX7_isRow 2 = .ok (.lconst 0, 1) := by decide +kernel
theorem dX7_isRow_3 : decode cX7_isRow 3 = .ok (.ldc2_w 61, 3) := by decide +kernel
theorem dX7_isRow_6 : decode cX7_isRow 6 = .ok (.invokestatic 63, 3) := by decide +kernel
theorem dX7_isRow_9 : decode cX7_isRow 9 = .ok (.ireturn, 1) := by decide +kernel
theorem dX7_row_0 : decode cX7_row 0 = .ok (.aload_n 0, 1) := by decide +kernel
theorem dX7_row_1 : decode cX7_row 1 = .ok (.iconst 0, 1) := by decide +kernel
theorem dX7_row_2 : decode cX7_row 2 = .ok (.putfield 53, 3) := by decide +kernel
theorem dX7_row_5 : decode cX7_row 5 = .ok (.iload_n 1, 1) := by decide +kernel
theorem dX7_row_6 : decode cX7_row 6 = .ok (.invokestatic 67, 3) := by decide +kernel
theorem dX7_row_9 : decode cX7_row 9 = .ok (.ifCond .eq 21, 3) := by decide +kernel
theorem dX7_row_12 : decode cX7_row 12 = .ok (.iload_n 2, 1) := by decide +kernel
theorem dX7_row_13 : decode cX7_row 13 = .ok (.i2l, 1) := by decide +kernel
theorem dX7_row_14 : decode cX7_row 14 = .ok (.lconst 0, 1) := by decide +kernel
theorem dX7_row_15 : decode cX7_row 15 = .ok (.ldc2_w 71, 3) := by decide +kernel
theorem dX7_row_18 : decode cX7_row 18 = .ok (.invokestatic 63, 3) := by decide +kernel
theorem dX7_row_21 : decode cX7_row 21 = .ok (.ifCond .eq 9, 3) := by decide +kernel
theorem dX7_row_24 : decode cX7_row 24 = .ok (.iload_n 3, 1) := by decide +kernel
theorem dX7_row_25 : decode cX7_row 25 = .ok (.bipush 40, 2) := by decide +kernel
theorem dX7_row_27 : decode cX7_row 27 = .ok (.if_icmp .le 6, 3) := by decide +kernel
theorem dX7_row_30 : decode cX7_row 30 = .ok (.ldc 73, 2) := by decide +kernel
theorem dX7_row_32 : decode cX7_row 32 = .ok (.ireturn, 1) := by decide +kernel
theorem dX7_row_33 : decode cX7_row 33 = .ok (.aload_n 0, 1) := by decide +kernel
theorem dX7_row_34 : decode cX7_row 34 = .ok (.iconst 0, 1) := by decide +kernel
theorem dX7_row_35 : decode cX7_row 35 = .ok (.putfield 57, 3) := by decide +kernel
theorem dX7_row_38 : decode cX7_row 38 = .ok (.iload_n 3, 1) := by decide +kernel
theorem dX7_row_39 : decode cX7_row 39 = .ok (.ifCond .ge 9, 3) := by decide +kernel
theorem dX7_row_42 : decode cX7_row 42 = .ok (.aload_n 0, 1) := by decide +kernel
theorem dX7_row_43 : decode cX7_row 43 = .ok (.iconst 4, 1) := by decide +kernel
theorem dX7_row_44 : decode cX7_row 44 = .ok (.invokevirtual 74, 3) := by decide +kernel
theorem dX7_row_47 : decode cX7_row 47 = .ok (.ireturn, 1) := by decide +kernel
theorem dX7_row_48 : decode cX7_row 48 = .ok (.aload_n 0, 1) := by decide +kernel
theorem dX7_row_49 : decode cX7_row 49 = .ok (.getfield 7, 3) := by decide +kernel
theorem dX7_row_52 : decode cX7_row 52 = .ok (.iload_n 1, 1) := by decide +kernel
theorem dX7_row_53 : decode cX7_row 53 = .ok (.iload_n 2, 1) := by decide +kernel
theorem dX7_row_54 : decode cX7_row 54 = .ok (.iastore, 1) := by decide +kernel
theorem dX7_row_55 : decode cX7_row 55 = .ok (.aload_n 0, 1) := by decide +kernel
theorem dX7_row_56 : decode cX7_row 56 = .ok (.getfield 13, 3) := by decide +kernel
theorem dX7_row_59 : decode cX7_row 59 = .ok (.iload_n 1, 1) := by decide +kernel
theorem dX7_row_60 : decode cX7_row 60 = .ok (.iload_n 3, 1) := by decide +kernel
theorem dX7_row_61 : decode cX7_row 61 = .ok (.iastore, 1) := by decide +kernel
theorem dX7_row_62 : decode cX7_row 62 = .ok (.iconst 0, 1) := by decide +kernel
theorem dX7_row_63 : decode cX7_row 63 = .ok (.istore 4, 2) := by decide +kernel
theorem dX7_row_65 : decode cX7_row 65 = .ok (.iload 4, 2) := by decide +kernel
theorem dX7_row_67 : decode cX7_row 67 = .ok (.bipush 40, 2) := by decide +kernel
theorem dX7_row_69 : decode cX7_row 69 = .ok (.if_icmp .ge 22, 3) := by decide +kernel
theorem dX7_row_72 : decode cX7_row 72 = .ok (.aload_n 0, 1) := by decide +kernel
theorem dX7_row_73 : decode cX7_row 73 = .ok (.getfield 16, 3) := by decide +kernel
theorem dX7_row_76 : decode cX7_row 76 = .ok (.bipush 40, 2) := by decide +kernel
theorem dX7_row_78 : decode cX7_row 78 = .ok (.iload_n 1, 1) := by decide +kernel
theorem dX7_row_79 : decode cX7_row 79 = .ok (.imul, 1) := by decide +kernel
theorem dX7_row_80 : decode cX7_row 80 = .ok (.iload 4, 2) := by decide +kernel
theorem dX7_row_82 : decode cX7_row 82 = .ok (.iadd, 1) := by decide +kernel
theorem dX7_row_83 : decode cX7_row 83 = .ok (.iconst 0, 1) := by decide +kernel
theorem dX7_row_84 : decode cX7_row 84 = .ok (.iastore, 1) := by decide +kernel
theorem dX7_row_85 : decode cX7_row 85 = .ok (.iinc 4 1, 3) := by decide +kernel
theorem dX7_row_88 : decode cX7_row 88 = .ok (.goto (-23), 3) := by decide +kernel
theorem dX7_row_91 : decode cX7_row 91 = .ok (.iload_n 3, 1) := by decide +kernel
theorem dX7_row_92 : decode cX7_row 92 = .ok (.ireturn, 1) := by decide +kernel
theorem dX7_set_0 : decode cX7_set 0 = .ok (.aload_n 0, 1) := by decide +kernel
theorem dX7_set_1 : decode cX7_set 1 = .ok (.iconst 0, 1) := by decide +kernel
theorem dX7_set_2 : decode cX7_set 2 = .ok (.putfield 53, 3) := by decide +kernel
theorem dX7_set_5 : decode cX7_set 5 = .ok (.iload_n 1, 1) := by decide +kernel
theorem dX7_set_6 : decode cX7_set 6 = .ok (.invokestatic 67, 3) := by decide +kernel
theorem dX7_set_9 : decode cX7_set 9 = .ok (.ifCond .ne 6, 3) := by decide +kernel
theorem dX7_set_12 : decode cX7_set 12 = .ok (.ldc 73, 2) := by decide +kernel
theorem dX7_set_14 : decode cX7_set 14 = .ok (.ireturn, 1) := by decide +kernel
theorem dX7_set_15 : decode cX7_set 15 = .ok (.aload_n 0, 1) := by decide +kernel
theorem dX7_set_16 : decode cX7_set 16 = .ok (.iconst 0, 1) := by decide +kernel
theorem dX7_set_17 : decode cX7_set 17 = .ok (.putfield 57, 3) := by decide +kernel
theorem dX7_set_20 : decode cX7_set 20 = .ok (.aload_n 0, 1) := by decide +kernel
theorem dX7_set_21 : decode cX7_set 21 = .ok (.getfield 7, 3) := by decide +kernel
theorem dX7_set_24 : decode cX7_set 24 = .ok (.iload_n 1, 1) := by decide +kernel
theorem dX7_set_25 : decode cX7_set 25 = .ok (.iaload, 1) := by decide +kernel
theorem dX7_set_26 : decode cX7_set 26 = .ok (.ifCond .ge 9, 3) := by decide +kernel
theorem dX7_set_29 : decode cX7_set 29 = .ok (.aload_n 0, 1) := by decide +kernel
theorem dX7_set_30 : decode cX7_set 30 = .ok (.iconst 1, 1) := by decide +kernel
theorem dX7_set_31 : decode cX7_set 31 = .ok (.invokevirtual 74, 3) := by decide +kernel
theorem dX7_set_34 : decode cX7_set 34 = .ok (.ireturn, 1) := by decide +kernel
theorem dX7_set_35 : decode cX7_set 35 = .ok (.iload_n 2, 1) := by decide +kernel
theorem dX7_set_36 : decode cX7_set 36 = .ok (.i2l, 1) := by decide +kernel
theorem dX7_set_37 : decode cX7_set 37 = .ok (.lconst 0, 1) := by decide +kernel
theorem dX7_set_38 : decode cX7_set 38 = .ok (.aload_n 0, 1) := by decide +kernel
theorem dX7_set_39 : decode cX7_set 39 = .ok (.getfield 13, 3) := by decide +kernel
theorem dX7_set_42 : decode cX7_set 42 = .ok (.iload_n 1, 1) := by decide +kernel
theorem dX7_set_43 : decode cX7_set 43 = .ok (.iaload, 1) := by decide +kernel
theorem dX7_set_44 : decode cX7_set 44 = .ok (.iconst 1, 1) := by decide +kernel
theorem dX7_set_45 : decode cX7_set 45 = .ok (.isub, 1) := by decide +kernel
theorem dX7_set_46 : decode cX7_set 46 = .ok (.i2l, 1) := by decide +kernel
theorem dX7_set_47 : decode cX7_set 47 = .ok (.invokestatic 63, 3) := by decide +kernel
theorem dX7_set_50 : decode cX7_set 50 = .ok (.ifCond .ne 9, 3) := by decide +kernel
theorem dX7_set_53 : decode cX7_set 53 = .ok (.aload_n 0, 1) := by decide +kernel
theorem dX7_set_54 : decode cX7_set 54 = .ok (.iconst 2, 1) := by decide +kernel
theorem dX7_set_55 : decode cX7_set 55 = .ok (.invokevirtual 74, 3) := by decide +kernel
theorem dX7_set_58 : decode cX7_set 58 = .ok (.ireturn, 1) := by decide +kernel
theorem dX7_set_59 : decode cX7_set 59 = .ok (.aload_n 0, 1) := by decide +kernel
theorem dX7_set_60 : decode cX7_set 60 = .ok (.getfield 16, 3) := by decide +kernel
theorem dX7_set_63 : decode cX7_set 63 = .ok (.bipush 40, 2) := by decide +kernel
theorem dX7_set_65 : decode cX7_set 65 = .ok (.iload_n 1, 1) := by decide +kernel
theorem dX7_set_66 : decode cX7_set 66 = .ok (.imul, 1) := by decide +kernel
theorem dX7_set_67 : decode cX7_set 67 = .ok (.iload_n 2, 1) := by decide +kernel
theorem dX7_set_68 : decode cX7_set 68 = .ok (.iadd, 1) := by decide +kernel
theorem dX7_set_69 : decode cX7_set 69 = .ok (.aload_n 0, 1) := by decide +kernel
theorem dX7_set_70 : decode cX7_set 70 = .ok (.getfield 7, 3) := by decide +kernel
theorem dX7_set_73 : decode cX7_set 73 = .ok (.iload_n 1, 1) := by decide +kernel
theorem dX7_set_74 : decode cX7_set 74 = .ok (.iaload, 1) := by decide +kernel
theorem dX7_set_75 : decode cX7_set 75 = .ok (.ifCond .ne 8, 3) := by decide +kernel
theorem dX7_set_78 : decode cX7_set 78 = .ok (.iload_n 3, 1) := by decide +kernel
theorem dX7_set_79 : decode cX7_set 79 = .ok (.i2b, 1) := by decide +kernel
theorem dX7_set_80 : decode cX7_set 80 = .ok (.goto 19, 3) := by decide +kernel
theorem dX7_set_83 : decode cX7_set 83 = .ok (.aload_n 0, 1) := by decide +kernel
theorem dX7_set_84 : decode cX7_set 84 = .ok (.getfield 7, 3) := by decide +kernel
theorem dX7_set_87 : decode cX7_set 87 = .ok (.iload_n 1, 1) := by decide +kernel
theorem dX7_set_88 : decode cX7_set 88 = .ok (.iaload, 1) := by decide +kernel
theorem dX7_set_89 : decode cX7_set 89 = .ok (.iconst 1, 1) := by decide +kernel
theorem dX7_set_90 : decode cX7_set 90 = .ok (.if_icmp .ne 8, 3) := by decide +kernel
theorem dX7_set_93 : decode cX7_set 93 = .ok (.iload_n 3, 1) := by decide +kernel
theorem dX7_set_94 : decode cX7_set 94 = .ok (.i2s, 1) := by decide +kernel
theorem dX7_set_95 : decode cX7_set 95 = .ok (.goto 4, 3) := by decide +kernel
theorem dX7_set_98 : decode cX7_set 98 = .ok (.iload_n 3, 1) := by decide +kernel
theorem dX7_set_99 : decode cX7_set 99 = .ok (.iastore, 1) := by decide +kernel
theorem dX7_set_100 : decode cX7_set 100 = .ok (.aload_n 0, 1) := by decide +kernel
theorem dX7_set_101 : decode cX7_set 101 = .ok (.getfield 16, 3) := by decide +kernel
theorem dX7_set_104 : decode cX7_set 104 = .ok (.bipush 40, 2) := by decide +kernel
theorem dX7_set_106 : decode cX7_set 106 = .ok (.iload_n 1, 1) := by decide +kernel
theorem dX7_set_107 : decode cX7_set 107 = .ok (.imul, 1) := by decide +kernel
theorem dX7_set_108 : decode cX7_set 108 = .ok (.iload_n 2, 1) := by decide +kernel
theorem dX7_set_109 : decode cX7_set 109 = .ok (.iadd, 1) := by decide +kernel
theorem dX7_set_110 : decode cX7_set 110 = .ok (.iaload, 1) := by decide +kernel
theorem dX7_set_111 : decode cX7_set 111 = .ok (.ireturn, 1) := by decide +kernel
theorem dX7_copy_0 : decode cX7_copy 0 = .ok (.aload_n 0, 1) := by decide +kernel
theorem dX7_copy_1 : decode cX7_copy 1 = .ok (.iconst 0, 1) := by decide +kernel
theorem dX7_copy_2 : decode cX7_copy 2 = .ok (.putfield 53, 3) := by decide +kernel
theorem dX7_copy_5 : decode cX7_copy 5 = .ok (.iload_n 1, 1) := by decide +kernel
theorem dX7_copy_6 : decode cX7_copy 6 = .ok (.invokestatic 67, 3) := by decide +kernel
theorem dX7_copy_9 : decode cX7_copy 9 = .ok (.ifCond .eq 10, 3) := by decide +kernel
theorem dX7_copy_12 : decode cX7_copy 12 = .ok (.iload_n 3, 1) := by decide +kernel
theorem dX7_copy_13 : decode cX7_copy 13 = .ok (.invokestatic 67, 3) := by decide +kernel
theorem dX7_copy_16 : decode cX7_copy 16 = .ok (.ifCond .ne 6, 3) := by decide +kernel
theorem dX7_copy_19 : decode cX7_copy 19 = .ok (.ldc 73, 2) := by decide +kernel
theorem dX7_copy_21 : decode cX7_copy 21 = .ok (.ireturn, 1) := by decide +kernel
theorem dX7_copy_22 : decode cX7_copy 22 = .ok (.aload_n 0, 1) := by decide +kernel
theorem dX7_copy_23 : decode cX7_copy 23 = .ok (.iconst 0, 1) := by decide +kernel
theorem dX7_copy_24 : decode cX7_copy 24 = .ok (.putfield 57, 3) := by decide +kernel
theorem dX7_copy_27 : decode cX7_copy 27 = .ok (.aload_n 0, 1) := by decide +kernel
theorem dX7_copy_28 : decode cX7_copy 28 = .ok (.getfield 7, 3) := by decide +kernel
theorem dX7_copy_31 : decode cX7_copy 31 = .ok (.iload_n 1, 1) := by decide +kernel
theorem dX7_copy_32 : decode cX7_copy 32 = .ok (.iaload, 1) := by decide +kernel
theorem dX7_copy_33 : decode cX7_copy 33 = .ok (.ifCond .lt 12, 3) := by decide +kernel
theorem dX7_copy_36 : decode cX7_copy 36 = .ok (.aload_n 0, 1) := by decide +kernel
theorem dX7_copy_37 : decode cX7_copy 37 = .ok (.getfield 7, 3) := by decide +kernel
theorem dX7_copy_40 : decode cX7_copy 40 = .ok (.iload_n 3, 1) := by decide +kernel
theorem dX7_copy_41 : decode cX7_copy 41 = .ok (.iaload, 1) := by decide +kernel
theorem dX7_copy_42 : decode cX7_copy 42 = .ok (.ifCond .ge 9, 3) := by decide +kernel
theorem dX7_copy_45 : decode cX7_copy 45 = .ok (.aload_n 0, 1) := by decide +kernel
theorem dX7_copy_46 : decode cX7_copy 46 = .ok (.iconst 1, 1) := by decide +kernel
theorem dX7_copy_47 : decode cX7_copy 47 = .ok (.invokevirtual 74, 3) := by decide +kernel
theorem dX7_copy_50 : decode cX7_copy 50 = .ok (.ireturn, 1) := by decide +kernel
theorem dX7_copy_51 : decode cX7_copy 51 = .ok (.aload_n 0, 1) := by decide +kernel
theorem dX7_copy_52 : decode cX7_copy 52 = .ok (.getfield 7, 3) := by decide +kernel
theorem dX7_copy_55 : decode cX7_copy 55 = .ok (.iload_n 1, 1) := by decide +kernel
theorem dX7_copy_56 : decode cX7_copy 56 = .ok (.iaload, 1) := by decide +kernel
theorem dX7_copy_57 : decode cX7_copy 57 = .ok (.aload_n 0, 1) := by decide +kernel
theorem dX7_copy_58 : decode cX7_copy 58 = .ok (.getfield 7, 3) := by decide +kernel
theorem dX7_copy_61 : decode cX7_copy 61 = .ok (.iload_n 3, 1) := by decide +kernel
theorem dX7_copy_62 : decode cX7_copy 62 = .ok (.iaload, 1) := by decide +kernel
theorem dX7_copy_63 : decode cX7_copy 63 = .ok (.if_icmp .eq 9, 3) := by decide +kernel
theorem dX7_copy_66 : decode cX7_copy 66 = .ok (.aload_n 0, 1) := by decide +kernel
theorem dX7_copy_67 : decode cX7_copy 67 = .ok (.iconst 5, 1) := by decide +kernel
theorem dX7_copy_68 : decode cX7_copy 68 = .ok (.invokevirtual 74, 3) := by decide +kernel
theorem dX7_copy_71 : decode cX7_copy 71 = .ok (.ireturn, 1) := by decide +kernel
theorem dX7_copy_72 : decode cX7_copy 72 = .ok (.iload_n 2, 1) := by decide +kernel
theorem dX7_copy_73 : decode cX7_copy 73 = .ok (.ifCond .lt 48, 3) := by decide +kernel
theorem dX7_copy_76 : decode cX7_copy 76 = .ok (.iload 4, 2) := by decide +kernel
theorem dX7_copy_78 : decode cX7_copy 78 = .ok (.ifCond .lt 43, 3) := by decide +kernel
theorem dX7_copy_81 : decode cX7_copy 81 = .ok (.iload 5, 2) := by decide +kernel
theorem dX7_copy_83 : decode cX7_copy 83 = .ok (.ifCond .lt 38, 3) := by decide +kernel
theorem dX7_copy_86 : decode cX7_copy 86 = .ok (.iload_n 2, 1) := by decide +kernel
theorem dX7_copy_87 : decode cX7_copy 87 = .ok (.i2l, 1) := by decide +kernel
theorem dX7_copy_88 : decode cX7_copy 88 = .ok (.iload 5, 2) := by decide +kernel
theorem dX7_copy_90 : decode cX7_copy 90 = .ok (.i2l, 1) := by decide +kernel
theorem dX7_copy_91 : decode cX7_copy 91 = .ok (.ladd, 1) := by decide +kernel
theorem dX7_copy_92 : decode cX7_copy 92 = .ok (.aload_n 0, 1) := by decide +kernel
theorem dX7_copy_93 : decode cX7_copy 93 = .ok (.getfield 13, 3) := by decide +kernel
theorem dX7_copy_96 : decode cX7_copy 96 = .ok (.iload_n 1, 1) := by decide +kernel
theorem dX7_copy_97 : decode cX7_copy 97 = .ok (.iaload, 1) := by decide +kernel
theorem dX7_copy_98 : decode cX7_copy 98 = .ok (.i2l, 1) := by decide +kernel
theorem dX7_copy_99 : decode cX7_copy 99 = .ok (.lcmp, 1) := by decide +kernel
theorem dX7_copy_100 : decode cX7_copy 100 = .ok (.ifCond .gt 21, 3) := by decide +kernel
theorem dX7_copy_103 : decode cX7_copy 103 = .ok (.iload 4, 2) := by decide +kernel
theorem dX7_copy_105 : decode cX7_copy 105 = .ok (.i2l, 1) := by decide +kernel
theorem dX7_copy_106 : decode cX7_copy 106 = .ok (.iload 5, 2) := by decide +kernel
theorem dX7_copy_108 : decode cX7_copy 108 = .ok (.i2l, 1) := by decide +kernel
theorem dX7_copy_109 : decode cX7_copy 109 = .ok (.ladd, 1) := by decide +kernel
theorem dX7_copy_110 : decode cX7_copy 110 = .ok (.aload_n 0, 1) := by decide +kernel
theorem dX7_copy_111 : decode cX7_copy 111 = .ok (.getfield 13, 3) := by decide +kernel
theorem dX7_copy_114 : decode cX7_copy 114 = .ok (.iload_n 3, 1) := by decide +kernel
theorem dX7_copy_115 : decode cX7_copy 115 = .ok (.iaload, 1) := by decide +kernel
theorem dX7_copy_116 : decode cX7_copy 116 = .ok (.i2l, 1) := by decide +kernel
theorem dX7_copy_117 : decode cX7_copy 117 = .ok (.lcmp, 1) := by decide +kernel
theorem dX7_copy_118 : decode cX7_copy 118 = .ok (.ifCond .le 9, 3) := by decide +kernel
theorem dX7_copy_121 : decode cX7_copy 121 = .ok (.aload_n 0, 1) := by decide +kernel
theorem dX7_copy_122 : decode cX7_copy 122 = .ok (.iconst 2, 1) := by decide +kernel
theorem dX7_copy_123 : decode cX7_copy 123 = .ok (.invokevirtual 74, 3) := by decide +kernel
theorem dX7_copy_126 : decode cX7_copy 126 = .ok (.ireturn, 1) := by decide +kernel
theorem dX7_copy_127 : decode cX7_copy 127 = .ok (.iload_n 2, 1) := by decide +kernel
theorem dX7_copy_128 : decode cX7_copy 128 = .ok (.iload 4, 2) := by decide +kernel
theorem dX7_copy_130 : decode cX7_copy 130 = .ok (.if_icmp .lt 7, 3) := by decide +kernel
theorem dX7_copy_133 : decode cX7_copy 133 = .ok (.iconst 1, 1) := by decide +kernel
theorem dX7_copy_134 : decode cX7_copy 134 = .ok (.goto 4, 3) := by decide +kernel
theorem dX7_copy_137 : decode cX7_copy 137 = .ok (.iconst 0, 1) := by decide +kernel
theorem dX7_copy_138 : decode cX7_copy 138 = .ok (.istore 6, 2) := by decide +kernel
theorem dX7_copy_140 : decode cX7_copy 140 = .ok (.iconst 0, 1) := by decide +kernel
theorem dX7_copy_141 : decode cX7_copy 141 = .ok (.istore 7, 2) := by decide +kernel
theorem dX7_copy_143 : decode cX7_copy 143 = .ok (.iload 7, 2) := by decide +kernel
theorem dX7_copy_145 : decode cX7_copy 145 = .ok (.iload 5, 2) := by decide +kernel
theorem dX7_copy_147 : decode cX7_copy 147 = .ok (.if_icmp .ge 57, 3) := by decide +kernel
theorem dX7_copy_150 : decode cX7_copy 150 = .ok (.iload 6, 2) := by decide +kernel
theorem dX7_copy_152 : decode cX7_copy 152 = .ok (.ifCond .eq 8, 3) := by decide +kernel
theorem dX7_copy_155 : decode cX7_copy 155 = .ok (.iload 7, 2) := by decide +kernel
theorem dX7_copy_157 : decode cX7_copy 157 = .ok (.goto 10, 3) := by decide +kernel
theorem dX7_copy_160 : decode cX7_copy 160 = .ok (.iload 5, 2) := by decide +kernel
theorem dX7_copy_162 : decode cX7_copy 162 = .ok (.iconst 1, 1) := by decide +kernel
theorem dX7_copy_163 : decode cX7_copy 163 = .ok (.isub, 1) := by decide +kernel
theorem dX7_copy_164 : decode cX7_copy 164 = .ok (.iload 7, 2) := by decide +kernel
theorem dX7_copy_166 : decode cX7_copy 166 = .ok (.isub, 1) := by decide +kernel
theorem dX7_copy_167 : decode cX7_copy 167 = .ok (.istore 8, 2) := by decide +kernel
theorem dX7_copy_169 : decode cX7_copy 169 = .ok (.aload_n 0, 1) := by decide +kernel
theorem dX7_copy_170 : decode cX7_copy 170 = .ok (.getfield 16, 3) := by decide +kernel
theorem dX7_copy_173 : decode cX7_copy 173 = .ok (.bipush 40, 2) := by decide +kernel
theorem dX7_copy_175 : decode cX7_copy 175 = .ok (.iload_n 3, 1) := by decide +kernel
theorem dX7_copy_176 : decode cX7_copy 176 = .ok (.imul, 1) := by decide +kernel
theorem dX7_copy_177 : decode cX7_copy 177 = .ok (.iload 4, 2) := by decide +kernel
theorem dX7_copy_179 : decode cX7_copy 179 = .ok (.iadd, 1) := by decide +kernel
theorem dX7_copy_180 : decode cX7_copy 180 = .ok (.iload 8, 2) := by decide +kernel
theorem dX7_copy_182 : decode cX7_copy 182 = .ok (.iadd, 1) := by decide +kernel
theorem dX7_copy_183 : decode cX7_copy 183 = .ok (.aload_n 0, 1) := by decide +kernel
theorem dX7_copy_184 : decode cX7_copy 184 = .ok (.getfield 16, 3) := by decide +kernel
theorem dX7_copy_187 : decode cX7_copy 187 = .ok (.bipush 40, 2) := by decide +kernel
theorem dX7_copy_189 : decode cX7_copy 189 = .ok (.iload_n 1, 1) := by decide +kernel
theorem dX7_copy_190 : decode cX7_copy 190 = .ok (.imul, 1) := by decide +kernel
theorem dX7_copy_191 : decode cX7_copy 191 = .ok (.iload_n 2, 1) := by decide +kernel
theorem dX7_copy_192 : decode cX7_copy 192 = .ok (.iadd, 1) := by decide +kernel
theorem dX7_copy_193 : decode cX7_copy 193 = .ok (.iload 8, 2) := by decide +kernel
theorem dX7_copy_195 : decode cX7_copy 195 = .ok (.iadd, 1) := by decide +kernel
theorem dX7_copy_196 : decode cX7_copy 196 = .ok (.iaload, 1) := by decide +kernel
theorem dX7_copy_197 : decode cX7_copy 197 = .ok (.iastore, 1) := by decide +kernel
theorem dX7_copy_198 : decode cX7_copy 198 = .ok (.iinc 7 1, 3) := by decide +kernel
theorem dX7_copy_201 : decode cX7_copy 201 = .ok (.goto (-58), 3) := by decide +kernel
theorem dX7_copy_204 : decode cX7_copy 204 = .ok (.iload 5, 2) := by decide +kernel
theorem dX7_copy_206 : decode cX7_copy 206 = .ok (.ireturn, 1) := by decide +kernel
theorem dX7_drop_0 : decode cX7_drop 0 = .ok (.aload_n 0, 1) := by decide +kernel
theorem dX7_drop_1 : decode cX7_drop 1 = .ok (.iconst 0, 1) := by decide +kernel
theorem dX7_drop_2 : decode cX7_drop 2 = .ok (.putfield 53, 3) := by decide +kernel
theorem dX7_drop_5 : decode cX7_drop 5 = .ok (.iload_n 1, 1) := by decide +kernel
theorem dX7_drop_6 : decode cX7_drop 6 = .ok (.invokestatic 67, 3) := by decide +kernel
theorem dX7_drop_9 : decode cX7_drop 9 = .ok (.ifCond .ne 6, 3) := by decide +kernel
theorem dX7_drop_12 : decode cX7_drop 12 = .ok (.ldc 73, 2) := by decide +kernel
theorem dX7_drop_14 : decode cX7_drop 14 = .ok (.ireturn, 1) := by decide +kernel
theorem dX7_drop_15 : decode cX7_drop 15 = .ok (.aload_n 0, 1) := by decide +kernel
theorem dX7_drop_16 : decode cX7_drop 16 = .ok (.iconst 0, 1) := by decide +kernel
theorem dX7_drop_17 : decode cX7_drop 17 = .ok (.putfield 57, 3) := by decide +kernel
theorem dX7_drop_20 : decode cX7_drop 20 = .ok (.aload_n 0, 1) := by decide +kernel
theorem dX7_drop_21 : decode cX7_drop 21 = .ok (.getfield 7, 3) := by decide +kernel
theorem dX7_drop_24 : decode cX7_drop 24 = .ok (.iload_n 1, 1) := by decide +kernel
theorem dX7_drop_25 : decode cX7_drop 25 = .ok (.iaload, 1) := by decide +kernel
theorem dX7_drop_26 : decode cX7_drop 26 = .ok (.ifCond .ge 9, 3) := by decide +kernel
theorem dX7_drop_29 : decode cX7_drop 29 = .ok (.aload_n 0, 1) := by decide +kernel
theorem dX7_drop_30 : decode cX7_drop 30 = .ok (.iconst 1, 1) := by decide +kernel
theorem dX7_drop_31 : decode cX7_drop 31 = .ok (.invokevirtual 74, 3) := by decide +kernel
theorem dX7_drop_34 : decode cX7_drop 34 = .ok (.ireturn, 1) := by decide +kernel
theorem dX7_drop_35 : decode cX7_drop 35 = .ok (.aload_n 0, 1) := by decide +kernel
theorem dX7_drop_36 : decode cX7_drop 36 = .ok (.getfield 7, 3) := by decide +kernel
theorem dX7_drop_39 : decode cX7_drop 39 = .ok (.iload_n 1, 1) := by decide +kernel
theorem dX7_drop_40 : decode cX7_drop 40 = .ok (.iconst (-1), 1) := by decide +kernel
theorem dX7_drop_41 : decode cX7_drop 41 = .ok (.iastore, 1) := by decide +kernel
theorem dX7_drop_42 : decode cX7_drop 42 = .ok (.aload_n 0, 1) := by decide +kernel
theorem dX7_drop_43 : decode cX7_drop 43 = .ok (.getfield 13, 3) := by decide +kernel
theorem dX7_drop_46 : decode cX7_drop 46 = .ok (.iload_n 1, 1) := by decide +kernel
theorem dX7_drop_47 : decode cX7_drop 47 = .ok (.iaload, 1) := by decide +kernel
theorem dX7_drop_48 : decode cX7_drop 48 = .ok (.ireturn, 1) := by decide +kernel
theorem dX7_feed_0 : decode cX7_feed 0 = .ok (.aload_n 0, 1) := by decide +kernel
theorem dX7_feed_1 : decode cX7_feed 1 = .ok (.iconst 0, 1) := by decide +kernel
theorem dX7_feed_2 : decode cX7_feed 2 = .ok (.putfield 53, 3) := by decide +kernel
theorem dX7_feed_5 : decode cX7_feed 5 = .ok (.iload_n 1, 1) := by decide +kernel
theorem dX7_feed_6 : decode cX7_feed 6 = .ok (.i2l, 1) := by decide +kernel
theorem dX7_feed_7 : decode cX7_feed 7 = .ok (.lconst 0, 1) := by decide +kernel
theorem dX7_feed_8 : decode cX7_feed 8 = .ok (.ldc2_w 78, 3) := by decide +kernel
theorem dX7_feed_11 : decode cX7_feed 11 = .ok (.invokestatic 63, 3) := by decide +kernel
theorem dX7_feed_14 : decode cX7_feed 14 = .ok (.ifCond .ne 6, 3) := by decide +kernel
theorem dX7_feed_17 : decode cX7_feed 17 = .ok (.ldc 73, 2) := by decide +kernel
theorem dX7_feed_19 : decode cX7_feed 19 = .ok (.ireturn, 1) := by decide +kernel
theorem dX7_feed_20 : decode cX7_feed 20 = .ok (.aload_n 0, 1) := by decide +kernel
theorem dX7_feed_21 : decode cX7_feed 21 = .ok (.getfield 80, 3) := by decide +kernel
theorem dX7_feed_24 : decode cX7_feed 24 = .ok (.sipush 130, 3) := by decide +kernel
theorem dX7_feed_27 : decode cX7_feed 27 = .ok (.if_icmp .ne 6, 3) := by decide +kernel
theorem dX7_feed_30 : decode cX7_feed 30 = .ok (.ldc 83, 2) := by decide +kernel
theorem dX7_feed_32 : decode cX7_feed 32 = .ok (.ireturn, 1) := by decide +kernel
theorem dX7_feed_33 : decode cX7_feed 33 = .ok (.aload_n 0, 1) := by decide +kernel
theorem dX7_feed_34 : decode cX7_feed 34 = .ok (.getfield 31, 3) := by decide +kernel
theorem dX7_feed_37 : decode cX7_feed 37 = .ok (.aload_n 0, 1) := by decide +kernel
theorem dX7_feed_38 : decode cX7_feed 38 = .ok (.getfield 80, 3) := by decide +kernel
theorem dX7_feed_41 : decode cX7_feed 41 = .ok (.iload_n 1, 1) := by decide +kernel
theorem dX7_feed_42 : decode cX7_feed 42 = .ok (.iastore, 1) := by decide +kernel
theorem dX7_feed_43 : decode cX7_feed 43 = .ok (.aload_n 0, 1) := by decide +kernel
theorem dX7_feed_44 : decode cX7_feed 44 = .ok (.dup, 1) := by decide +kernel
theorem dX7_feed_45 : decode cX7_feed 45 = .ok (.getfield 80, 3) := by decide +kernel
theorem dX7_feed_48 : decode cX7_feed 48 = .ok (.iconst 1, 1) := by decide +kernel
theorem dX7_feed_49 : decode cX7_feed 49 = .ok (.iadd, 1) := by decide +kernel
theorem dX7_feed_50 : decode cX7_feed 50 = .ok (.putfield 80, 3) := by decide +kernel
theorem dX7_feed_53 : decode cX7_feed 53 = .ok (.aload_n 0, 1) := by decide +kernel
theorem dX7_feed_54 : decode cX7_feed 54 = .ok (.getfield 80, 3) := by decide +kernel
theorem dX7_feed_57 : decode cX7_feed 57 = .ok (.ireturn, 1) := by decide +kernel
theorem dX7_bad_0 : decode cX7_bad 0 = .ok (.aload_n 0, 1) := by decide +kernel
theorem dX7_bad_1 : decode cX7_bad 1 = .ok (.getfield 84, 3) := by decide +kernel
theorem dX7_bad_4 : decode cX7_bad 4 = .ok (.ifCond .ne 16, 3) := by decide +kernel
theorem dX7_bad_7 : decode cX7_bad 7 = .ok (.aload_n 0, 1) := by decide +kernel
theorem dX7_bad_8 : decode cX7_bad 8 = .ok (.iload_n 1, 1) := by decide +kernel
theorem dX7_bad_9 : decode cX7_bad 9 = .ok (.putfield 84, 3) := by decide +kernel
theorem dX7_bad_12 : decode cX7_bad 12 = .ok (.aload_n 0, 1) := by decide +kernel
theorem dX7_bad_13 : decode cX7_bad 13 = .ok (.aload_n 0, 1) := by decide +kernel
theorem dX7_bad_14 : decode cX7_bad 14 = .ok (.getfield 87, 3) := by decide +kernel
theorem dX7_bad_17 : decode cX7_bad 17 = .ok (.putfield 90, 3) := by decide +kernel
theorem dX7_bad_20 : decode cX7_bad 20 = .ok (.return_, 1) := by decide +kernel
theorem dX7_nextToken_0 : decode cX7_nextToken 0 = .ok (.aload_n 0, 1) := by decide +kernel
theorem dX7_nextToken_1 : decode cX7_nextToken 1 = .ok (.aload_n 0, 1) := by decide +kernel
theorem dX7_nextToken_2 : decode cX7_nextToken 2 = .ok (.getfield 93, 3) := by decide +kernel
theorem dX7_nextToken_5 : decode cX7_nextToken 5 = .ok (.putfield 87, 3) := by decide +kernel
theorem dX7_nextToken_8 : decode cX7_nextToken 8 = .ok (.aload_n 0, 1) := by decide +kernel
theorem dX7_nextToken_9 : decode cX7_nextToken 9 = .ok (.aload_n 0, 1) := by decide +kernel
theorem dX7_nextToken_10 : decode cX7_nextToken 10 = .ok (.getfield 93, 3) := by decide +kernel
theorem dX7_nextToken_13 : decode cX7_nextToken 13 = .ok (.aload_n 0, 1) := by decide +kernel
theorem dX7_nextToken_14 : decode cX7_nextToken 14 = .ok (.getfield 80, 3) := by decide +kernel
theorem dX7_nextToken_17 : decode cX7_nextToken 17 = .ok (.if_icmp .ge 15, 3) := by decide +kernel
theorem dX7_nextToken_20 : decode cX7_nextToken 20 = .ok (.aload_n 0, 1) := by decide +kernel
theorem dX7_nextToken_21 : decode cX7_nextToken 21 = .ok (.getfield 31, 3) := by decide +kernel
theorem dX7_nextToken_24 : decode cX7_nextToken 24 = .ok (.aload_n 0, 1) := by decide +kernel
theorem dX7_nextToken_25 : decode cX7_nextToken 25 = .ok (.getfield 93, 3) := by decide +kernel
theorem dX7_nextToken_28 : decode cX7_nextToken 28 = .ok (.iaload, 1) := by decide +kernel
theorem dX7_nextToken_29 : decode cX7_nextToken 29 = .ok (.goto 5, 3) := by decide +kernel
theorem dX7_nextToken_32 : decode cX7_nextToken 32 = .ok (.ldc 96, 2) := by decide +kernel
theorem dX7_nextToken_34 : decode cX7_nextToken 34 = .ok (.putfield 97, 3) := by decide +kernel
theorem dX7_nextToken_37 : decode cX7_nextToken 37 = .ok (.aload_n 0, 1) := by decide +kernel
theorem dX7_nextToken_38 : decode cX7_nextToken 38 = .ok (.aload_n 0, 1) := by decide +kernel
theorem dX7_nextToken_39 : decode cX7_nextToken 39 = .ok (.getfield 93, 3) := by decide +kernel
theorem dX7_nextToken_42 : decode cX7_nextToken 42 = .ok (.aload_n 0, 1) := by decide +kernel
theorem dX7_nextToken_43 : decode cX7_nextToken 43 = .ok (.getfield 80, 3) := by decide +kernel
theorem dX7_nextToken_46 : decode cX7_nextToken 46 = .ok (.if_icmp .ne 7, 3) := by decide +kernel
theorem dX7_nextToken_49 : decode cX7_nextToken 49 = .ok (.iconst 1, 1) := by decide +kernel
theorem dX7_nextToken_50 : decode cX7_nextToken 50 = .ok (.goto 68, 3) := by decide +kernel
theorem dX7_nextToken_53 : decode cX7_nextToken 53 = .ok (.aload_n 0, 1) := by decide +kernel
theorem dX7_nextToken_54 : decode cX7_nextToken 54 = .ok (.getfield 97, 3) := by decide +kernel
theorem dX7_nextToken_57 : decode cX7_nextToken 57 = .ok (.i2l, 1) := by decide +kernel
theorem dX7_nextToken_58 : decode cX7_nextToken 58 = .ok (.ldc2_w 100, 3) := by decide +kernel
theorem dX7_nextToken_61 : decode cX7_nextToken 61 = .ok (.ldc2_w 102, 3) := by decide +kernel
theorem dX7_nextToken_64 : decode cX7_nextToken 64 = .ok (.invokestatic 63, 3) := by decide +kernel
theorem dX7_nextToken_67 : decode cX7_nextToken 67 = .ok (.ifCond .eq 7, 3) := by decide +kernel
theorem dX7_nextToken_70 : decode cX7_nextToken 70 = .ok (.iconst 2, 1) := by decide +kernel
theorem dX7_nextToken_71 : decode cX7_nextToken 71 = .ok (.goto 47, 3) := by decide +kernel
theorem dX7_nextToken_74 : decode cX7_nextToken 74 = .ok (.aload_n 0, 1) := by decide +kernel
theorem dX7_nextToken_75 : decode cX7_nextToken 75 = .ok (.getfield 97, 3) := by decide +kernel
theorem dX7_nextToken_78 : decode cX7_nextToken 78 = .ok (.i2l, 1) := by decide +kernel
theorem dX7_nextToken_79 : decode cX7_nextToken 79 = .ok (.ldc2_w 104, 3) := by decide +kernel
theorem dX7_nextToken_82 : decode cX7_nextToken 82 = .ok (.ldc2_w 106, 3) := by decide +kernel
theorem dX7_nextToken_85 : decode cX7_nextToken 85 = .ok (.invokestatic 63, 3) := by decide +kernel
theorem dX7_nextToken_88 : decode cX7_nextToken 88 = .ok (.ifCond .eq 7, 3) := by decide +kernel
theorem dX7_nextToken_91 : decode cX7_nextToken 91 = .ok (.iconst 3, 1) := by decide +kernel
theorem dX7_nextToken_92 : decode cX7_nextToken 92 = .ok (.goto 26, 3) := by decide +kernel
theorem dX7_nextToken_95 : decode cX7_nextToken 95 = .ok (.aload_n 0, 1) := by decide +kernel
theorem dX7_nextToken_96 : decode cX7_nextToken 96 = .ok (.getfield 97, 3) := by decide +kernel
theorem dX7_nextToken_99 : decode cX7_nextToken 99 = .ok (.bipush 44, 2) := by decide +kernel
theorem dX7_nextToken_101 : decode cX7_nextToken 101 = .ok (.if_icmp .eq 12, 3) := by decide +kernel
theorem dX7_nextToken_104 : decode cX7_nextToken 104 = .ok (.aload_n 0, 1) := by decide +kernel
theorem dX7_nextToken_105 : decode cX7_nextToken 105 = .ok (.getfield 97, 3) := by decide +kernel
theorem dX7_nextToken_108 : decode cX7_nextToken 108 = .ok (.bipush 59, 2) := by decide +kernel
theorem dX7_nextToken_110 : decode cX7_nextToken 110 = .ok (.if_icmp .ne 7, 3) := by decide +kernel
theorem dX7_nextToken_113 : decode cX7_nextToken 113 = .ok (.iconst 4, 1) := by decide +kernel
theorem dX7_nextToken_114 : decode cX7_nextToken 114 = .ok (.goto 4, 3) := by decide +kernel
theorem dX7_nextToken_117 : decode cX7_nextToken 117 = .ok (.iconst 0, 1) := by decide +kernel
theorem dX7_nextToken_118 : decode cX7_nextToken 118 = .ok (.putfield 108, 3) := by decide +kernel
theorem dX7_nextToken_121 : decode cX7_nextToken 121 = .ok (.aload_n 0, 1) := by decide +kernel
theorem dX7_nextToken_122 : decode cX7_nextToken 122 = .ok (.dup, 1) := by decide +kernel
theorem dX7_nextToken_123 : decode cX7_nextToken 123 = .ok (.getfield 93, 3) := by decide +kernel
theorem dX7_nextToken_126 : decode cX7_nextToken 126 = .ok (.aload_n 0, 1) := by decide +kernel
theorem dX7_nextToken_127 : decode cX7_nextToken 127 = .ok (.getfield 93, 3) := by decide +kernel
theorem dX7_nextToken_130 : decode cX7_nextToken 130 = .ok (.aload_n 0, 1) := by decide +kernel
theorem dX7_nextToken_131 : decode cX7_nextToken 131 = .ok (.getfield 80, 3) := by decide +kernel
theorem dX7_nextToken_134 : decode cX7_nextToken 134 = .ok (.if_icmp .ge 7, 3) := by decide +kernel
theorem dX7_nextToken_137 : decode cX7_nextToken 137 = .ok (.iconst 1, 1) := by decide +kernel
theorem dX7_nextToken_138 : decode cX7_nextToken 138 = .ok (.goto 4, 3) := by decide +kernel
theorem dX7_nextToken_141 : decode cX7_nextToken 141 = .ok (.iconst 0, 1) := by decide +kernel
theorem dX7_nextToken_142 : decode cX7_nextToken 142 = .ok (.iadd, 1) := by decide +kernel
theorem dX7_nextToken_143 : decode cX7_nextToken 143 = .ok (.putfield 93, 3) := by decide +kernel
theorem dX7_nextToken_146 : decode cX7_nextToken 146 = .ok (.aload_n 0, 1) := by decide +kernel
theorem dX7_nextToken_147 : decode cX7_nextToken 147 = .ok (.getfield 108, 3) := by decide +kernel
theorem dX7_nextToken_150 : decode cX7_nextToken 150 = .ok (.iconst 3, 1) := by decide +kernel
theorem dX7_nextToken_151 : decode cX7_nextToken 151 = .ok (.if_icmp .ne 126, 3) := by decide +kernel
theorem dX7_nextToken_154 : decode cX7_nextToken 154 = .ok (.aload_n 0, 1) := by decide +kernel
theorem dX7_nextToken_155 : decode cX7_nextToken 155 = .ok (.dup, 1) := by decide +kernel
theorem dX7_nextToken_156 : decode cX7_nextToken 156 = .ok (.getfield 97, 3) := by decide +kernel
theorem dX7_nextToken_159 : decode cX7_nextToken 159 = .ok (.bipush 48, 2) := by decide +kernel
theorem dX7_nextToken_161 : decode cX7_nextToken 161 = .ok (.isub, 1) := by decide +kernel
theorem dX7_nextToken_162 : decode cX7_nextToken 162 = .ok (.putfield 97, 3) := by decide +kernel
theorem dX7_nextToken_165 : decode cX7_nextToken 165 = .ok (.aload_n 0, 1) := by decide +kernel
theorem dX7_nextToken_166 : decode cX7_nextToken 166 = .ok (.getfield 93, 3) := by decide +kernel
theorem dX7_nextToken_169 : decode cX7_nextToken 169 = .ok (.aload_n 0, 1) := by decide +kernel
theorem dX7_nextToken_170 : decode cX7_nextToken 170 = .ok (.getfield 80, 3) := by decide +kernel
theorem dX7_nextToken_173 : decode cX7_nextToken 173 = .ok (.if_icmp .ge 82, 3) := by decide +kernel
theorem dX7_nextToken_176 : decode cX7_nextToken 176 = .ok (.aload_n 0, 1) := by decide +kernel
theorem dX7_nextToken_177 : decode cX7_nextToken 177 = .ok (.getfield 31, 3) := by decide +kernel
theorem dX7_nextToken_180 : decode cX7_nextToken 180 = .ok (.aload_n 0, 1) := by decide +kernel
theorem dX7_nextToken_181 : decode cX7_nextToken 181 = .ok (.getfield 93, 3) := by decide +kernel
theorem dX7_nextToken_184 : decode cX7_nextToken 184 = .ok (.iaload, 1) := by decide +kernel
theorem dX7_nextToken_185 : decode cX7_nextToken 185 = .ok (.i2l, 1) := by decide +kernel
theorem dX7_nextToken_186 : decode cX7_nextToken 186 = .ok (.ldc2_w 104, 3) := by decide +kernel
theorem dX7_nextToken_189 : decode cX7_nextToken 189 = .ok (.ldc2_w 106, 3) := by decide +kernel
theorem dX7_nextToken_192 : decode cX7_nextToken 192 = .ok (.invokestatic 63, 3) := by decide +kernel
theorem dX7_nextToken_195 : decode cX7_nextToken 195 = .ok (.ifCond .eq 60, 3) := by decide +kernel
theorem dX7_nextToken_198 : decode cX7_nextToken 198 = .ok (.aload_n 0, 1) := by decide +kernel
theorem dX7_nextToken_199 : decode cX7_nextToken 199 = .ok (.aload_n 0, 1) := by decide +kernel
theorem dX7_nextToken_200 : decode cX7_nextToken 200 = .ok (.getfield 93, 3) := by decide +kernel
theorem dX7_nextToken_203 : decode cX7_nextToken 203 = .ok (.aload_n 0, 1) := by decide +kernel
theorem dX7_nextToken_204 : decode cX7_nextToken 204 = .ok (.getfield 87, 3) := by decide +kernel
theorem dX7_nextToken_207 : decode cX7_nextToken 207 = .ok (.isub, 1) := by decide +kernel
theorem dX7_nextToken_208 : decode cX7_nextToken 208 = .ok (.iconst 2, 1) := by decide +kernel
theorem dX7_nextToken_209 : decode cX7_nextToken 209 = .ok (.if_icmp .ge 26, 3) := by decide +kernel
theorem dX7_nextToken_212 : decode cX7_nextToken 212 = .ok (.bipush 10, 2) := by decide +kernel
theorem dX7_nextToken_214 : decode cX7_nextToken 214 = .ok (.aload_n 0, 1) := by decide +kernel
theorem dX7_nextToken_215 : decode cX7_nextToken 215 = .ok (.getfield 97, 3) := by decide +kernel
theorem dX7_nextToken_218 : decode cX7_nextToken 218 = .ok (.imul, 1) := by decide +kernel
theorem dX7_nextToken_219 : decode cX7_nextToken 219 = .ok (.aload_n 0, 1) := by decide +kernel
theorem dX7_nextToken_220 : decode cX7_nextToken 220 = .ok (.getfield 31, 3) := by decide +kernel
theorem dX7_nextToken_223 : decode cX7_nextToken 223 = .ok (.aload_n 0, 1) := by decide +kernel
theorem dX7_nextToken_224 : decode cX7_nextToken 224 = .ok (.getfield 93, 3) := by decide +kernel
theorem dX7_nextToken_227 : decode cX7_nextToken 227 = .ok (.iaload, 1) := by decide +kernel
theorem dX7_nextToken_228 : decode cX7_nextToken 228 = .ok (.iadd, 1) := by decide +kernel
theorem dX7_nextToken_229 : decode cX7_nextToken 229 = .ok (.bipush 48, 2) := by decide +kernel
theorem dX7_nextToken_231 : decode cX7_nextToken 231 = .ok (.isub, 1) := by decide +kernel
theorem dX7_nextToken_232 : decode cX7_nextToken 232 = .ok (.goto 7, 3) := by decide +kernel
theorem dX7_nextToken_235 : decode cX7_nextToken 235 = .ok (.aload_n 0, 1) := by decide +kernel
theorem dX7_nextToken_236 : decode cX7_nextToken 236 = .ok (.getfield 97, 3) := by decide +kernel
theorem dX7_nextToken_239 : decode cX7_nextToken 239 = .ok (.putfield 97, 3) := by decide +kernel
theorem dX7_nextToken_242 : decode cX7_nextToken 242 = .ok (.aload_n 0, 1) := by decide +kernel
theorem dX7_nextToken_243 : decode cX7_nextToken 243 = .ok (.dup, 1) := by decide +kernel
theorem dX7_nextToken_244 : decode cX7_nextToken 244 = .ok (.getfield 93, 3) := by decide +kernel
theorem dX7_nextToken_247 : decode cX7_nextToken 247 = .ok (.iconst 1, 1) := by decide +kernel
theorem dX7_nextToken_248 : decode cX7_nextToken 248 = .ok (.iadd, 1) := by decide +kernel
theorem dX7_nextToken_249 : decode cX7_nextToken 249 = .ok (.putfield 93, 3) := by decide +kernel
theorem dX7_nextToken_252 : decode cX7_nextToken 252 = .ok (.goto (-87), 3) := by decide +kernel
theorem dX7_nextToken_255 : decode cX7_nextToken 255 = .ok (.aload_n 0, 1) := by decide +kernel
theorem dX7_nextToken_256 : decode cX7_nextToken 256 = .ok (.aload_n 0, 1) := by decide +kernel
theorem dX7_nextToken_257 : decode cX7_nextToken 257 = .ok (.getfield 93, 3) := by decide +kernel
theorem dX7_nextToken_260 : decode cX7_nextToken 260 = .ok (.aload_n 0, 1) := by decide +kernel
theorem dX7_nextToken_261 : decode cX7_nextToken 261 = .ok (.getfield 87, 3) := by decide +kernel
theorem dX7_nextToken_264 : decode cX7_nextToken 264 = .ok (.isub, 1) := by decide +kernel
theorem dX7_nextToken_265 : decode cX7_nextToken 265 = .ok (.iconst 2, 1) := by decide +kernel
theorem dX7_nextToken_266 : decode cX7_nextToken 266 = .ok (.if_icmp .le 7, 3) := by decide +kernel
theorem dX7_nextToken_269 : decode cX7_nextToken 269 = .ok (.iconst 0, 1) := by decide +kernel
theorem dX7_nextToken_270 : decode cX7_nextToken 270 = .ok (.goto 4, 3) := by decide +kernel
theorem dX7_nextToken_273 : decode cX7_nextToken 273 = .ok (.iconst 3, 1) := by decide +kernel
theorem dX7_nextToken_274 : decode cX7_nextToken 274 = .ok (.putfield 108, 3) := by decide +kernel
theorem dX7_nextToken_277 : decode cX7_nextToken 277 = .ok (.return_, 1) := by decide +kernel
theorem dX7_must_0 : decode cX7_must 0 = .ok (.iload_n 1, 1) := by decide +kernel
theorem dX7_must_1 : decode cX7_must 1 = .ok (.ifCond .ne 8, 3) := by decide +kernel
theorem dX7_must_4 : decode cX7_must 4 = .ok (.aload_n 0, 1) := by decide +kernel
theorem dX7_must_5 : decode cX7_must 5 = .ok (.iconst 1, 1) := by decide +kernel
theorem dX7_must_6 : decode cX7_must 6 = .ok (.invokevirtual 111, 3) := by decide +kernel
theorem dX7_must_9 : decode cX7_must 9 = .ok (.aload_n 0, 1) := by decide +kernel
theorem dX7_must_10 : decode cX7_must 10 = .ok (.getfield 84, 3) := by decide +kernel
theorem dX7_must_13 : decode cX7_must 13 = .ok (.ifCond .ne 7, 3) := by decide +kernel
theorem dX7_must_16 : decode cX7_must 16 = .ok (.aload_n 0, 1) := by decide +kernel
theorem dX7_must_17 : decode cX7_must 17 = .ok (.invokevirtual 115, 3) := by decide +kernel
theorem dX7_must_20 : decode cX7_must 20 = .ok (.return_, 1) := by decide +kernel
theorem dX7_isLetter_0 : decode cX7_isLetter 0 = .ok (.aload_n 0, 1) := by decide +kernel
theorem dX7_isLetter_1 : decode cX7_isLetter 1 = .ok (.getfield 84, 3) := by decide +kernel
theorem dX7_isLetter_4 : decode cX7_isLetter 4 = .ok (.ifCond .ne 23, 3) := by decide +kernel
theorem dX7_isLetter_7 : decode cX7_isLetter 7 = .ok (.aload_n 0, 1) := by decide +kernel
theorem dX7_isLetter_8 : decode cX7_isLetter 8 = .ok (.getfield 108, 3) := by decide +kernel
theorem dX7_isLetter_11 : decode cX7_isLetter 11 = .ok (.iconst 2, 1) := by decide +kernel
theorem dX7_isLetter_12 : decode cX7_isLetter 12 = .ok (.if_icmp .ne 15, 3) := by decide +kernel
theorem dX7_isLetter_15 : decode cX7_isLetter 15 = .ok (.aload_n 0, 1) := by decide +kernel
theorem dX7_isLetter_16 : decode cX7_isLetter 16 = .ok (.getfield 97, 3) := by decide +kernel
theorem dX7_isLetter_19 : decode cX7_isLetter 19 = .ok (.iload_n 1, 1) := by decide +kernel
theorem dX7_isLetter_20 : decode cX7_isLetter 20 = .ok (.if_icmp .ne 7, 3) := by decide +kernel
theorem dX7_isLetter_23 : decode cX7_isLetter 23 = .ok (.iconst 1, 1) := by decide +kernel
theorem dX7_isLetter_24 : decode cX7_isLetter 24 = .ok (.goto 4, 3) := by decide +kernel
theorem dX7_isLetter_27 : decode cX7_isLetter 27 = .ok (.iconst 0, 1) := by decide +kernel
theorem dX7_isLetter_28 : decode cX7_isLetter 28 = .ok (.ireturn, 1) := by decide +kernel
theorem dX7_number_0 : decode cX7_number 0 = .ok (.aload_n 0, 1) := by decide +kernel
theorem dX7_number_1 : decode cX7_number 1 = .ok (.getfield 84, 3) := by decide +kernel
theorem dX7_number_4 : decode cX7_number 4 = .ok (.ifCond .ne 16, 3) := by decide +kernel
theorem dX7_number_7 : decode cX7_number 7 = .ok (.aload_n 0, 1) := by decide +kernel
theorem dX7_number_8 : decode cX7_number 8 = .ok (.getfield 108, 3) := by decide +kernel
theorem dX7_number_11 : decode cX7_number 11 = .ok (.iconst 3, 1) := by decide +kernel
theorem dX7_number_12 : decode cX7_number 12 = .ok (.if_icmp .eq 8, 3) := by decide +kernel
theorem dX7_number_15 : decode cX7_number 15 = .ok (.aload_n 0, 1) := by decide +kernel
theorem dX7_number_16 : decode cX7_number 16 = .ok (.iconst 1, 1) := by decide +kernel
theorem dX7_number_17 : decode cX7_number 17 = .ok (.invokevirtual 111, 3) := by decide +kernel
theorem dX7_number_20 : decode cX7_number 20 = .ok (.aload_n 0, 1) := by decide +kernel
theorem dX7_number_21 : decode cX7_number 21 = .ok (.getfield 84, 3) := by decide +kernel
theorem dX7_number_24 : decode cX7_number 24 = .ok (.ifCond .ne 23, 3) := by decide +kernel
theorem dX7_number_27 : decode cX7_number 27 = .ok (.aload_n 0, 1) := by decide +kernel
theorem dX7_number_28 : decode cX7_number 28 = .ok (.getfield 97, 3) := by decide +kernel
theorem dX7_number_31 : decode cX7_number 31 = .ok (.i2l, 1) := by decide +kernel
theorem dX7_number_32 : decode cX7_number 32 = .ok (.iload_n 1, 1) := by decide +kernel
theorem dX7_number_33 : decode cX7_number 33 = .ok (.i2l, 1) := by decide +kernel
theorem dX7_number_34 : decode cX7_number 34 = .ok (.iload_n 2, 1) := by decide +kernel
theorem dX7_number_35 : decode cX7_number 35 = .ok (.i2l, 1) := by decide +kernel
theorem dX7_number_36 : decode cX7_number 36 = .ok (.invokestatic 63, 3) := by decide +kernel
theorem dX7_number_39 : decode cX7_number 39 = .ok (.ifCond .ne 8, 3) := by decide +kernel
theorem dX7_number_42 : decode cX7_number 42 = .ok (.aload_n 0, 1) := by decide +kernel
theorem dX7_number_43 : decode cX7_number 43 = .ok (.iconst 2, 1) := by decide +kernel
theorem dX7_number_44 : decode cX7_number 44 = .ok (.invokevirtual 111, 3) := by decide +kernel
theorem dX7_number_47 : decode cX7_number 47 = .ok (.aload_n 0, 1) := by decide +kernel
theorem dX7_number_48 : decode cX7_number 48 = .ok (.getfield 84, 3) := by decide +kernel
theorem dX7_number_51 : decode cX7_number 51 = .ok (.ifCond .ne 10, 3) := by decide +kernel
theorem dX7_number_54 : decode cX7_number 54 = .ok (.aload_n 0, 1) := by decide +kernel
theorem dX7_number_55 : decode cX7_number 55 = .ok (.getfield 97, 3) := by decide +kernel
theorem dX7_number_58 : decode cX7_number 58 = .ok (.goto 4, 3) := by decide +kernel
theorem dX7_number_61 : decode cX7_number 61 = .ok (.iload_n 1, 1) := by decide +kernel
theorem dX7_number_62 : decode cX7_number 62 = .ok (.istore_n 3, 1) := by decide +kernel
theorem dX7_number_63 : decode cX7_number 63 = .ok (.aload_n 0, 1) := by decide +kernel
theorem dX7_number_64 : decode cX7_number 64 = .ok (.iconst 1, 1) := by decide +kernel
theorem dX7_number_65 : decode cX7_number 65 = .ok (.invokevirtual 118, 3) := by decide +kernel
theorem dX7_number_68 : decode cX7_number 68 = .ok (.iload_n 3, 1) := by decide +kernel
theorem dX7_number_69 : decode cX7_number 69 = .ok (.ireturn, 1) := by decide +kernel
theorem dX7_mustSign_0 : decode cX7_mustSign 0 = .ok (.aload_n 0, 1) := by decide +kernel
theorem dX7_mustSign_1 : decode cX7_mustSign 1 = .ok (.aload_n 0, 1) := by decide +kernel
theorem dX7_mustSign_2 : decode cX7_mustSign 2 = .ok (.getfield 108, 3) := by decide +kernel
theorem dX7_mustSign_5 : decode cX7_mustSign 5 = .ok (.iconst 4, 1) := by decide +kernel
theorem dX7_mustSign_6 : decode cX7_mustSign 6 = .ok (.if_icmp .ne 15, 3) := by decide +kernel
theorem dX7_mustSign_9 : decode cX7_mustSign 9 = .ok (.aload_n 0, 1) := by decide +kernel
theorem dX7_mustSign_10 : decode cX7_mustSign 10 = .ok (.getfield 97, 3) := by decide +kernel
theorem dX7_mustSign_13 : decode cX7_mustSign 13 = .ok (.iload_n 1, 1) := by decide +kernel
theorem dX7_mustSign_14 : decode cX7_mustSign 14 = .ok (.if_icmp .ne 7, 3) := by decide +kernel
theorem dX7_mustSign_17 : decode cX7_mustSign 17 = .ok (.iconst 1, 1) := by decide +kernel
theorem dX7_mustSign_18 : decode cX7_mustSign 18 = .ok (.goto 4, 3) := by decide +kernel
theorem dX7_mustSign_21 : decode cX7_mustSign 21 = .ok (.iconst 0, 1) := by decide +kernel
theorem dX7_mustSign_22 : decode cX7_mustSign 22 = .ok (.invokevirtual 118, 3) := by decide +kernel
theorem dX7_mustSign_25 : decode cX7_mustSign 25 = .ok (.return_, 1) := by decide +kernel
theorem dX7_begin_0 : decode cX7_begin 0 = .ok (.aload_n 0, 1) := by decide +kernel
theorem dX7_begin_1 : decode cX7_begin 1 = .ok (.iconst 0, 1) := by decide +kernel
theorem dX7_begin_2 : decode cX7_begin 2 = .ok (.putfield 93, 3) := by decide +kernel
theorem dX7_begin_5 : decode cX7_begin 5 = .ok (.aload_n 0, 1) := by decide +kernel
theorem dX7_begin_6 : decode cX7_begin 6 = .ok (.iconst 0, 1) := by decide +kernel
theorem dX7_begin_7 : decode cX7_begin 7 = .ok (.putfield 84, 3) := by decide +kernel
theorem dX7_begin_10 : decode cX7_begin 10 = .ok (.aload_n 0, 1) := by decide +kernel
theorem dX7_begin_11 : decode cX7_begin 11 = .ok (.invokevirtual 115, 3) := by decide +kernel
theorem dX7_begin_14 : decode cX7_begin 14 = .ok (.return_, 1) := by decide +kernel
theorem dX7_failed_0 : decode cX7_failed 0 = .ok (.aload_n 0, 1) := by decide +kernel
theorem dX7_failed_1 : decode cX7_failed 1 = .ok (.getfield 84, 3) := by decide +kernel
theorem dX7_failed_4 : decode cX7_failed 4 = .ok (.ifCond .ne 16, 3) := by decide +kernel
theorem dX7_failed_7 : decode cX7_failed 7 = .ok (.aload_n 0, 1) := by decide +kernel
theorem dX7_failed_8 : decode cX7_failed 8 = .ok (.getfield 108, 3) := by decide +kernel
theorem dX7_failed_11 : decode cX7_failed 11 = .ok (.iconst 1, 1) := by decide +kernel
theorem dX7_failed_12 : decode cX7_failed 12 = .ok (.if_icmp .eq 8, 3) := by decide +kernel
theorem dX7_failed_15 : decode cX7_failed 15 = .ok (.aload_n 0, 1) := by decide +kernel
theorem dX7_failed_16 : decode cX7_failed 16 = .ok (.iconst 1, 1) := by decide +kernel
theorem dX7_failed_17 : decode cX7_failed 17 = .ok (.invokevirtual 111, 3) := by decide +kernel
theorem dX7_failed_20 : decode cX7_failed 20 = .ok (.aload_n 0, 1) := by decide +kernel
theorem dX7_failed_21 : decode cX7_failed 21 = .ok (.iconst 0, 1) := by decide +kernel
theorem dX7_failed_22 : decode cX7_failed 22 = .ok (.putfield 80, 3) := by decide +kernel
theorem dX7_failed_25 : decode cX7_failed 25 = .ok (.aload_n 0, 1) := by decide +kernel
theorem dX7_failed_26 : decode cX7_failed 26 = .ok (.aload_n 0, 1) := by decide +kernel
theorem dX7_failed_27 : decode cX7_failed 27 = .ok (.getfield 84, 3) := by decide +kernel
theorem dX7_failed_30 : decode cX7_failed 30 = .ok (.ifCond .le 10, 3) := by decide +kernel
theorem dX7_failed_33 : decode cX7_failed 33 = .ok (.aload_n 0, 1) := by decide +kernel
theorem dX7_failed_34 : decode cX7_failed 34 = .ok (.getfield 84, 3) := by decide +kernel
theorem dX7_failed_37 : decode cX7_failed 37 = .ok (.goto 7, 3) := by decide +kernel
theorem dX7_failed_40 : decode cX7_failed 40 = .ok (.aload_n 0, 1) := by decide +kernel
theorem dX7_failed_41 : decode cX7_failed 41 = .ok (.getfield 122, 3) := by decide +kernel
theorem dX7_failed_44 : decode cX7_failed 44 = .ok (.putfield 122, 3) := by decide +kernel
theorem dX7_failed_47 : decode cX7_failed 47 = .ok (.aload_n 0, 1) := by decide +kernel
theorem dX7_failed_48 : decode cX7_failed 48 = .ok (.getfield 84, 3) := by decide +kernel
theorem dX7_failed_51 : decode cX7_failed 51 = .ok (.ifCond .le 7, 3) := by decide +kernel
theorem dX7_failed_54 : decode cX7_failed 54 = .ok (.iconst 1, 1) := by decide +kernel
theorem dX7_failed_55 : decode cX7_failed 55 = .ok (.goto 4, 3) := by decide +kernel
theorem dX7_failed_58 : decode cX7_failed 58 = .ok (.iconst 0, 1) := by decide +kernel
theorem dX7_failed_59 : decode cX7_failed 59 = .ok (.ireturn, 1) := by decide +kernel
theorem dX7_fault_0 : decode cX7_fault 0 = .ok (.aload_n 0, 1) := by decide +kernel
theorem dX7_fault_1 : decode cX7_fault 1 = .ok (.iconst 0, 1) := by decide +kernel
theorem dX7_fault_2 : decode cX7_fault 2 = .ok (.putfield 53, 3) := by decide +kernel
theorem dX7_fault_5 : decode cX7_fault 5 = .ok (.aload_n 0, 1) := by decide +kernel
theorem dX7_fault_6 : decode cX7_fault 6 = .ok (.getfield 122, 3) := by decide +kernel
theorem dX7_fault_9 : decode cX7_fault 9 = .ok (.ireturn, 1) := by decide +kernel
theorem dX7_kindBy_0 : decode cX7_kindBy 0 = .ok (.iload_n 0, 1) := by decide +kernel
theorem dX7_kindBy_1 : decode cX7_kindBy 1 = .ok (.bipush 112, 2) := by decide +kernel
theorem dX7_kindBy_3 : decode cX7_kindBy 3 = .ok (.if_icmp .ne 7, 3) := by decide +kernel
theorem dX7_kindBy_6 : decode cX7_kindBy 6 = .ok (.iconst 1, 1) := by decide +kernel
theorem dX7_kindBy_7 : decode cX7_kindBy 7 = .ok (.goto 45, 3) := by decide +kernel
theorem dX7_kindBy_10 : decode cX7_kindBy 10 = .ok (.iload_n 0, 1) := by decide +kernel
theorem dX7_kindBy_11 : decode cX7_kindBy 11 = .ok (.bipush 104, 2) := by decide +kernel
theorem dX7_kindBy_13 : decode cX7_kindBy 13 = .ok (.if_icmp .ne 7, 3) := by decide +kernel
theorem dX7_kindBy_16 : decode cX7_kindBy 16 = .ok (.iconst 2, 1) := by decide +kernel
theorem dX7_kindBy_17 : decode cX7_kindBy 17 = .ok (.goto 35, 3) := by decide +kernel
theorem dX7_kindBy_20 : decode cX7_kindBy 20 = .ok (.iload_n 0, 1) := by decide +kernel
theorem dX7_kindBy_21 : decode cX7_kindBy 21 = .ok (.bipush 98, 2) := by decide +kernel
theorem dX7_kindBy_23 : decode cX7_kindBy 23 = .ok (.if_icmp .ne 7, 3) := by decide +kernel
theorem dX7_kindBy_26 : decode cX7_kindBy 26 = .ok (.iconst 3, 1) := by decide +kernel
theorem dX7_kindBy_27 : decode cX7_kindBy 27 = .ok (.goto 25, 3) := by decide +kernel
theorem dX7_kindBy_30 : decode cX7_kindBy 30 = .ok (.iload_n 0, 1) := by decide +kernel
theorem dX7_kindBy_31 : decode cX7_kindBy 31 = .ok (.bipush 116, 2) := by decide +kernel
theorem dX7_kindBy_33 : decode cX7_kindBy 33 = .ok (.if_icmp .ne 7, 3) := by decide +kernel
theorem dX7_kindBy_36 : decode cX7_kindBy 36 = .ok (.iconst 4, 1) := by decide +kernel
theorem dX7_kindBy_37 : decode cX7_kindBy 37 = .ok (.goto 15, 3) := by decide +kernel
theorem dX7_kindBy_40 : decode cX7_kindBy 40 = .ok (.iload_n 0, 1) := by decide +kernel
theorem dX7_kindBy_41 : decode cX7_kindBy 41 = .ok (.bipush 108, 2) := by decide +kernel
theorem dX7_kindBy_43 : decode cX7_kindBy 43 = .ok (.if_icmp .ne 7, 3) := by decide +kernel
theorem dX7_kindBy_46 : decode cX7_kindBy 46 = .ok (.iconst 5, 1) := by decide +kernel
theorem dX7_kindBy_47 : decode cX7_kindBy 47 = .ok (.goto 5, 3) := by decide +kernel
theorem dX7_kindBy_50 : decode cX7_kindBy 50 = .ok (.ldc 96, 2) := by decide +kernel
theorem dX7_kindBy_52 : decode cX7_kindBy 52 = .ok (.ireturn, 1) := by decide +kernel
theorem dX7_isSort_0 : decode cX7_isSort 0 = .ok (.aload_n 0, 1) := by decide +kernel
theorem dX7_isSort_1 : decode cX7_isSort 1 = .ok (.getfield 84, 3) := by decide +kernel
theorem dX7_isSort_4 : decode cX7_isSort 4 = .ok (.ifCond .ne 27, 3) := by decide +kernel
theorem dX7_isSort_7 : decode cX7_isSort 7 = .ok (.aload_n 0, 1) := by decide +kernel
theorem dX7_isSort_8 : decode cX7_isSort 8 = .ok (.getfield 108, 3) := by decide +kernel
theorem dX7_isSort_11 : decode cX7_isSort 11 = .ok (.iconst 2, 1) := by decide +kernel
theorem dX7_isSort_12 : decode cX7_isSort 12 = .ok (.if_icmp .ne 19, 3) := by decide +kernel
theorem dX7_isSort_15 : decode cX7_isSort 15 = .ok (.aload_n 0, 1) := by decide +kernel
theorem dX7_isSort_16 : decode cX7_isSort 16 = .ok (.getfield 97, 3) := by decide +kernel
theorem dX7_isSort_19 : decode cX7_isSort 19 = .ok (.invokestatic 125, 3) := by decide +kernel
theorem dX7_isSort_22 : decode cX7_isSort 22 = .ok (.ldc 96, 2) := by decide +kernel
theorem dX7_isSort_24 : decode cX7_isSort 24 = .ok (.if_icmp .eq 7, 3) := by decide +kernel
theorem dX7_isSort_27 : decode cX7_isSort 27 = .ok (.iconst 1, 1) := by decide +kernel
theorem dX7_isSort_28 : decode cX7_isSort 28 = .ok (.goto 4, 3) := by decide +kernel
theorem dX7_isSort_31 : decode cX7_isSort 31 = .ok (.iconst 0, 1) := by decide +kernel
theorem dX7_isSort_32 : decode cX7_isSort 32 = .ok (.ireturn, 1) := by decide +kernel
theorem dX7_readGrade_0 : decode cX7_readGrade 0 = .ok (.aload_n 0, 1) := by decide +kernel
theorem dX7_readGrade_1 : decode cX7_readGrade 1 = .ok (.getfield 97, 3) := by decide +kernel
theorem dX7_readGrade_4 : decode cX7_readGrade 4 = .ok (.invokestatic 125, 3) := by decide +kernel
theorem dX7_readGrade_7 : decode cX7_readGrade 7 = .ok (.istore_n 1, 1) := by decide +kernel
theorem dX7_readGrade_8 : decode cX7_readGrade 8 = .ok (.aload_n 0, 1) := by decide +kernel
theorem dX7_readGrade_9 : decode cX7_readGrade 9 = .ok (.getfield 22, 3) := by decide +kernel
theorem dX7_readGrade_12 : decode cX7_readGrade 12 = .ok (.iconst 5, 1) := by decide +kernel
theorem dX7_readGrade_13 : decode cX7_readGrade 13 = .ok (.iaload, 1) := by decide +kernel
theorem dX7_readGrade_14 : decode cX7_readGrade 14 = .ok (.iconst 5, 1) := by decide +kernel
theorem dX7_readGrade_15 : decode cX7_readGrade 15 = .ok (.if_icmp .ne 8, 3) := by decide +kernel
theorem dX7_readGrade_18 : decode cX7_readGrade 18 = .ok (.aload_n 0, 1) := by decide +kernel
theorem dX7_readGrade_19 : decode cX7_readGrade 19 = .ok (.iconst 3, 1) := by decide +kernel
theorem dX7_readGrade_20 : decode cX7_readGrade 20 = .ok (.invokevirtual 111, 3) := by decide +kernel
theorem dX7_readGrade_23 : decode cX7_readGrade 23 = .ok (.aload_n 0, 1) := by decide +kernel
theorem dX7_readGrade_24 : decode cX7_readGrade 24 = .ok (.iconst 1, 1) := by decide +kernel
theorem dX7_readGrade_25 : decode cX7_readGrade 25 = .ok (.invokevirtual 118, 3) := by decide +kernel
theorem dX7_readGrade_28 : decode cX7_readGrade 28 = .ok (.aload_n 0, 1) := by decide +kernel
theorem dX7_readGrade_29 : decode cX7_readGrade 29 = .ok (.iconst 1, 1) := by decide +kernel
theorem dX7_readGrade_30 : decode cX7_readGrade 30 = .ok (.bipush 99, 2) := by decide +kernel
theorem dX7_readGrade_32 : decode cX7_readGrade 32 = .ok (.invokevirtual 128, 3) := by decide +kernel
theorem dX7_readGrade_35 : decode cX7_readGrade 35 = .ok (.istore_n 2, 1) := by decide +kernel
theorem dX7_readGrade_36 : decode cX7_readGrade 36 = .ok (.aload_n 0, 1) := by decide +kernel
theorem dX7_readGrade_37 : decode cX7_readGrade 37 = .ok (.bipush 44, 2) := by decide +kernel
theorem dX7_readGrade_39 : decode cX7_readGrade 39 = .ok (.invokevirtual 132, 3) := by decide +kernel
theorem dX7_readGrade_42 : decode cX7_readGrade 42 = .ok (.aload_n 0, 1) := by decide +kernel
theorem dX7_readGrade_43 : decode cX7_readGrade 43 = .ok (.iconst 1, 1) := by decide +kernel
theorem dX7_readGrade_44 : decode cX7_readGrade 44 = .ok (.bipush 99, 2) := by decide +kernel
theorem dX7_readGrade_46 : decode cX7_readGrade 46 = .ok (.invokevirtual 128, 3) := by decide +kernel
theorem dX7_readGrade_49 : decode cX7_readGrade 49 = .ok (.istore_n 3, 1) := by decide +kernel
theorem dX7_readGrade_50 : decode cX7_readGrade 50 = .ok (.aload_n 0, 1) := by decide +kernel
theorem dX7_readGrade_51 : decode cX7_readGrade 51 = .ok (.bipush 44, 2) := by decide +kernel
theorem dX7_readGrade_53 : decode cX7_readGrade 53 = .ok (.invokevirtual 132, 3) := by decide +kernel
theorem dX7_readGrade_56 : decode cX7_readGrade 56 = .ok (.aload_n 0, 1) := by decide +kernel
theorem dX7_readGrade_57 : decode cX7_readGrade 57 = .ok (.iconst 1, 1) := by decide +kernel
theorem dX7_readGrade_58 : decode cX7_readGrade 58 = .ok (.bipush 99, 2) := by decide +kernel
theorem dX7_readGrade_60 : decode cX7_readGrade 60 = .ok (.invokevirtual 128, 3) := by decide +kernel
theorem dX7_readGrade_63 : decode cX7_readGrade 63 = .ok (.istore 4, 2) := by decide +kernel
theorem dX7_readGrade_65 : decode cX7_readGrade 65 = .ok (.aload_n 0, 1) := by decide +kernel
theorem dX7_readGrade_66 : decode cX7_readGrade 66 = .ok (.bipush 44, 2) := by decide +kernel
theorem dX7_readGrade_68 : decode cX7_readGrade 68 = .ok (.invokevirtual 132, 3) := by decide +kernel
theorem dX7_readGrade_71 : decode cX7_readGrade 71 = .ok (.aload_n 0, 1) := by decide +kernel
theorem dX7_readGrade_72 : decode cX7_readGrade 72 = .ok (.iconst 1, 1) := by decide +kernel
theorem dX7_readGrade_73 : decode cX7_readGrade 73 = .ok (.bipush 9, 2) := by decide +kernel
theorem dX7_readGrade_75 : decode cX7_readGrade 75 = .ok (.invokevirtual 128, 3) := by decide +kernel
theorem dX7_readGrade_78 : decode cX7_readGrade 78 = .ok (.istore 5, 2) := by decide +kernel
theorem dX7_readGrade_80 : decode cX7_readGrade 80 = .ok (.aload_n 0, 1) := by decide +kernel
theorem dX7_readGrade_81 : decode cX7_readGrade 81 = .ok (.bipush 44, 2) := by decide +kernel
theorem dX7_readGrade_83 : decode cX7_readGrade 83 = .ok (.invokevirtual 132, 3) := by decide +kernel
theorem dX7_readGrade_86 : decode cX7_readGrade 86 = .ok (.aload_n 0, 1) := by decide +kernel
theorem dX7_readGrade_87 : decode cX7_readGrade 87 = .ok (.iconst 1, 1) := by decide +kernel
theorem dX7_readGrade_88 : decode cX7_readGrade 88 = .ok (.bipush 99, 2) := by decide +kernel
theorem dX7_readGrade_90 : decode cX7_readGrade 90 = .ok (.invokevirtual 128, 3) := by decide +kernel
theorem dX7_readGrade_93 : decode cX7_readGrade 93 = .ok (.istore 6, 2) := by decide +kernel
theorem dX7_readGrade_95 : decode cX7_readGrade 95 = .ok (.aload_n 0, 1) := by decide +kernel
theorem dX7_readGrade_96 : decode cX7_readGrade 96 = .ok (.bipush 59, 2) := by decide +kernel
theorem dX7_readGrade_98 : decode cX7_readGrade 98 = .ok (.invokevirtual 132, 3) := by decide +kernel
theorem dX7_readGrade_101 : decode cX7_readGrade 101 = .ok (.aload_n 0, 1) := by decide +kernel
theorem dX7_readGrade_102 : decode cX7_readGrade 102 = .ok (.getfield 84, 3) := by decide +kernel
theorem dX7_readGrade_105 : decode cX7_readGrade 105 = .ok (.ifCond .ne 90, 3) := by decide +kernel
theorem dX7_readGrade_108 : decode cX7_readGrade 108 = .ok (.bipush 6, 2) := by decide +kernel
theorem dX7_readGrade_110 : decode cX7_readGrade 110 = .ok (.bipush 6, 2) := by decide +kernel
theorem dX7_readGrade_112 : decode cX7_readGrade 112 = .ok (.aload_n 0, 1) := by decide +kernel
theorem dX7_readGrade_113 : decode cX7_readGrade 113 = .ok (.getfield 22, 3) := by decide +kernel
theorem dX7_readGrade_116 : decode cX7_readGrade 116 = .ok (.iconst 5, 1) := by decide +kernel
theorem dX7_readGrade_117 : decode cX7_readGrade 117 = .ok (.iaload, 1) := by decide +kernel
theorem dX7_readGrade_118 : decode cX7_readGrade 118 = .ok (.imul, 1) := by decide +kernel
theorem dX7_readGrade_119 : decode cX7_readGrade 119 = .ok (.iadd, 1) := by decide +kernel
theorem dX7_readGrade_120 : decode cX7_readGrade 120 = .ok (.istore 7, 2) := by decide +kernel
theorem dX7_readGrade_122 : decode cX7_readGrade 122 = .ok (.aload_n 0, 1) := by decide +kernel
theorem dX7_readGrade_123 : decode cX7_readGrade 123 = .ok (.getfield 22, 3) := by decide +kernel
theorem dX7_readGrade_126 : decode cX7_readGrade 126 = .ok (.iload 7, 2) := by decide +kernel
theorem dX7_readGrade_128 : decode cX7_readGrade 128 = .ok (.iconst 0, 1) := by decide +kernel
theorem dX7_readGrade_129 : decode cX7_readGrade 129 = .ok (.iadd, 1) := by decide +kernel
theorem dX7_readGrade_130 : decode cX7_readGrade 130 = .ok (.iload_n 1, 1) := by decide +kernel
theorem dX7_readGrade_131 : decode cX7_readGrade 131 = .ok (.iastore, 1) := by decide +kernel
theorem dX7_readGrade_132 : decode cX7_readGrade 132 = .ok (.aload_n 0, 1) := by decide +kernel
theorem dX7_readGrade_133 : decode cX7_readGrade 133 = .ok (.getfield 22, 3) := by decide +kernel
theorem dX7_readGrade_136 : decode cX7_readGrade 136 = .ok (.iload 7, 2) := by decide +kernel
theorem dX7_readGrade_138 : decode cX7_readGrade 138 = .ok (.iconst 1, 1) := by decide +kernel
theorem dX7_readGrade_139 : decode cX7_readGrade 139 = .ok (.iadd, 1) := by decide +kernel
theorem dX7_readGrade_140 : decode cX7_readGrade 140 = .ok (.iload_n 2, 1) := by decide +kernel
theorem dX7_readGrade_141 : decode cX7_readGrade 141 = .ok (.iastore, 1) := by decide +kernel
theorem dX7_readGrade_142 : decode cX7_readGrade 142 = .ok (.aload_n 0, 1) := by decide +kernel
theorem dX7_readGrade_143 : decode cX7_readGrade 143 = .ok (.getfield 22, 3) := by decide +kernel
theorem dX7_readGrade_146 : decode cX7_readGrade 146 = .ok (.iload 7, 2) := by decide +kernel
theorem dX7_readGrade_148 : decode cX7_readGrade 148 = .ok (.iconst 2, 1) := by decide +kernel
theorem dX7_readGrade_149 : decode cX7_readGrade 149 = .ok (.iadd, 1) := by decide +kernel
theorem dX7_readGrade_150 : decode cX7_readGrade 150 = .ok (.iload_n 3, 1) := by decide +kernel
theorem dX7_readGrade_151 : decode cX7_readGrade 151 = .ok (.iastore, 1) := by decide +kernel
theorem dX7_readGrade_152 : decode cX7_readGrade 152 = .ok (.aload_n 0, 1) := by decide +kernel
theorem dX7_readGrade_153 : decode cX7_readGrade 153 = .ok (.getfield 22, 3) := by decide +kernel
theorem dX7_readGrade_156 : decode cX7_readGrade 156 = .ok (.iload 7, 2) := by decide +kernel
theorem dX7_readGrade_158 : decode cX7_readGrade 158 = .ok (.iconst 3, 1) := by decide +kernel
theorem dX7_readGrade_159 : decode cX7_readGrade 159 = .ok (.iadd, 1) := by decide +kernel
theorem dX7_readGrade_160 : decode cX7_readGrade 160 = .ok (.iload 4, 2) := by decide +kernel
theorem dX7_readGrade_162 : decode cX7_readGrade 162 = .ok (.iastore, 1) := by decide +kernel
theorem dX7_readGrade_163 : decode cX7_readGrade 163 = .ok (.aload_n 0, 1) := by decide +kernel
theorem dX7_readGrade_164 : decode cX7_readGrade 164 = .ok (.getfield 22, 3) := by decide +kernel
theorem dX7_readGrade_167 : decode cX7_readGrade 167 = .ok (.iload 7, 2) := by decide +kernel
theorem dX7_readGrade_169 : decode cX7_readGrade 169 = .ok (.iconst 4, 1) := by decide +kernel
theorem dX7_readGrade_170 : decode cX7_readGrade 170 = .ok (.iadd, 1) := by decide +kernel
theorem dX7_readGrade_171 : decode cX7_readGrade 171 = .ok (.iload 5, 2) := by decide +kernel
theorem dX7_readGrade_173 : decode cX7_readGrade 173 = .ok (.iastore, 1) := by decide +kernel
theorem dX7_readGrade_174 : decode cX7_readGrade 174 = .ok (.aload_n 0, 1) := by decide +kernel
theorem dX7_readGrade_175 : decode cX7_readGrade 175 = .ok (.getfield 22, 3) := by decide +kernel
theorem dX7_readGrade_178 : decode cX7_readGrade 178 = .ok (.iload 7, 2) := by decide +kernel
theorem dX7_readGrade_180 : decode cX7_readGrade 180 = .ok (.iconst 5, 1) := by decide +kernel
theorem dX7_readGrade_181 : decode cX7_readGrade 181 = .ok (.iadd, 1) := by decide +kernel
theorem dX7_readGrade_182 : decode cX7_readGrade 182 = .ok (.iload 6, 2) := by decide +kernel
theorem dX7_readGrade_184 : decode cX7_readGrade 184 = .ok (.iastore, 1) := by decide +kernel
theorem dX7_readGrade_185 : decode cX7_readGrade 185 = .ok (.aload_n 0, 1) := by decide +kernel
theorem dX7_readGrade_186 : decode cX7_readGrade 186 = .ok (.getfield 22, 3) := by decide +kernel
theorem dX7_readGrade_189 : decode cX7_readGrade 189 = .ok (.iconst 5, 1) := by decide +kernel
theorem dX7_readGrade_190 : decode cX7_readGrade 190 = .ok (.dup2, 1) := by decide +kernel
theorem dX7_readGrade_191 : decode cX7_readGrade 191 = .ok (.iaload, 1) := by decide +kernel
theorem dX7_readGrade_192 : decode cX7_readGrade 192 = .ok (.iconst 1, 1) := by decide +kernel
theorem dX7_readGrade_193 : decode cX7_readGrade 193 = .ok (.iadd, 1) := by decide +kernel
theorem dX7_readGrade_194 : decode cX7_readGrade 194 = .ok (.iastore, 1) := by decide +kernel
theorem dX7_readGrade_195 : decode cX7_readGrade 195 = .ok (.return_, 1) := by decide +kernel
theorem dX7_well_0 : decode cX7_well 0 = .ok (.aload_n 0, 1) := by decide +kernel
theorem dX7_well_1 : decode cX7_well 1 = .ok (.iconst 0, 1) := by decide +kernel
theorem dX7_well_2 : decode cX7_well 2 = .ok (.putfield 53, 3) := by decide +kernel
theorem dX7_well_5 : decode cX7_well 5 = .ok (.aload_n 0, 1) := by decide +kernel
theorem dX7_well_6 : decode cX7_well 6 = .ok (.invokevirtual 135, 3) := by decide +kernel
theorem dX7_well_9 : decode cX7_well 9 = .ok (.iconst 0, 1) := by decide +kernel
theorem dX7_well_10 : decode cX7_well 10 = .ok (.istore_n 1, 1) := by decide +kernel
theorem dX7_well_11 : decode cX7_well 11 = .ok (.iload_n 1, 1) := by decide +kernel
theorem dX7_well_12 : decode cX7_well 12 = .ok (.bipush 44, 2) := by decide +kernel
theorem dX7_well_14 : decode cX7_well 14 = .ok (.if_icmp .ge 26, 3) := by decide +kernel
theorem dX7_well_17 : decode cX7_well 17 = .ok (.aload_n 0, 1) := by decide +kernel
theorem dX7_well_18 : decode cX7_well 18 = .ok (.getfield 22, 3) := by decide +kernel
theorem dX7_well_21 : decode cX7_well 21 = .ok (.iload_n 1, 1) := by decide +kernel
theorem dX7_well_22 : decode cX7_well 22 = .ok (.iload_n 1, 1) := by decide +kernel
theorem dX7_well_23 : decode cX7_well 23 = .ok (.bipush 36, 2) := by decide +kernel
theorem dX7_well_25 : decode cX7_well 25 = .ok (.if_icmp .lt 7, 3) := by decide +kernel
theorem dX7_well_28 : decode cX7_well 28 = .ok (.iconst (-1), 1) := by decide +kernel
theorem dX7_well_29 : decode cX7_well 29 = .ok (.goto 4, 3) := by decide +kernel
theorem dX7_well_32 : decode cX7_well 32 = .ok (.iconst 0, 1) := by decide +kernel
theorem dX7_well_33 : decode cX7_well 33 = .ok (.iastore, 1) := by decide +kernel
theorem dX7_well_34 : decode cX7_well 34 = .ok (.iinc 1 1, 3) := by decide +kernel
theorem dX7_well_37 : decode cX7_well 37 = .ok (.goto (-26), 3) := by decide +kernel
theorem dX7_well_40 : decode cX7_well 40 = .ok (.aload_n 0, 1) := by decide +kernel
theorem dX7_well_41 : decode cX7_well 41 = .ok (.aload_n 0, 1) := by decide +kernel
theorem dX7_well_42 : decode cX7_well 42 = .ok (.bipush 119, 2) := by decide +kernel
theorem dX7_well_44 : decode cX7_well 44 = .ok (.invokevirtual 138, 3) := by decide +kernel
theorem dX7_well_47 : decode cX7_well 47 = .ok (.invokevirtual 118, 3) := by decide +kernel
theorem dX7_well_50 : decode cX7_well 50 = .ok (.aload_n 0, 1) := by decide +kernel
theorem dX7_well_51 : decode cX7_well 51 = .ok (.getfield 22, 3) := by decide +kernel
theorem dX7_well_54 : decode cX7_well 54 = .ok (.iconst 0, 1) := by decide +kernel
theorem dX7_well_55 : decode cX7_well 55 = .ok (.aload_n 0, 1) := by decide +kernel
theorem dX7_well_56 : decode cX7_well 56 = .ok (.iconst 2, 1) := by decide +kernel
theorem dX7_well_57 : decode cX7_well 57 = .ok (.bipush 8, 2) := by decide +kernel
theorem dX7_well_59 : decode cX7_well 59 = .ok (.invokevirtual 128, 3) := by decide +kernel
theorem dX7_well_62 : decode cX7_well 62 = .ok (.iastore, 1) := by decide +kernel
theorem dX7_well_63 : decode cX7_well 63 = .ok (.aload_n 0, 1) := by decide +kernel
theorem dX7_well_64 : decode cX7_well 64 = .ok (.bipush 44, 2) := by decide +kernel
theorem dX7_well_66 : decode cX7_well 66 = .ok (.invokevirtual 132, 3) := by decide +kernel
theorem dX7_well_69 : decode cX7_well 69 = .ok (.aload_n 0, 1) := by decide +kernel
theorem dX7_well_70 : decode cX7_well 70 = .ok (.getfield 22, 3) := by decide +kernel
theorem dX7_well_73 : decode cX7_well 73 = .ok (.iconst 1, 1) := by decide +kernel
theorem dX7_well_74 : decode cX7_well 74 = .ok (.aload_n 0, 1) := by decide +kernel
theorem dX7_well_75 : decode cX7_well 75 = .ok (.iconst 1, 1) := by decide +kernel
theorem dX7_well_76 : decode cX7_well 76 = .ok (.iconst 3, 1) := by decide +kernel
theorem dX7_well_77 : decode cX7_well 77 = .ok (.invokevirtual 128, 3) := by decide +kernel
theorem dX7_well_80 : decode cX7_well 80 = .ok (.iastore, 1) := by decide +kernel
theorem dX7_well_81 : decode cX7_well 81 = .ok (.aload_n 0, 1) := by decide +kernel
theorem dX7_well_82 : decode cX7_well 82 = .ok (.bipush 44, 2) := by decide +kernel
theorem dX7_well_84 : decode cX7_well 84 = .ok (.invokevirtual 132, 3) := by decide +kernel
theorem dX7_well_87 : decode cX7_well 87 = .ok (.aload_n 0, 1) := by decide +kernel
theorem dX7_well_88 : decode cX7_well 88 = .ok (.getfield 22, 3) := by decide +kernel
theorem dX7_well_91 : decode cX7_well 91 = .ok (.iconst 2, 1) := by decide +kernel
theorem dX7_well_92 : decode cX7_well 92 = .ok (.aload_n 0, 1) := by decide +kernel
theorem dX7_well_93 : decode cX7_well 93 = .ok (.iconst 0, 1) := by decide +kernel
theorem dX7_well_94 : decode cX7_well 94 = .ok (.bipush 20, 2) := by decide +kernel
theorem dX7_well_96 : decode cX7_well 96 = .ok (.invokevirtual 128, 3) := by decide +kernel
theorem dX7_well_99 : decode cX7_well 99 = .ok (.iastore, 1) := by decide +kernel
theorem dX7_well_100 : decode cX7_well 100 = .ok (.aload_n 0, 1) := by decide +kernel
theorem dX7_well_101 : decode cX7_well 101 = .ok (.bipush 59, 2) := by decide +kernel
theorem dX7_well_103 : decode cX7_well 103 = .ok (.invokevirtual 132, 3) := by decide +kernel
theorem dX7_well_106 : decode cX7_well 106 = .ok (.aload_n 0, 1) := by decide +kernel
theorem dX7_well_107 : decode cX7_well 107 = .ok (.aload_n 0, 1) := by decide +kernel
theorem dX7_well_108 : decode cX7_well 108 = .ok (.bipush 103, 2) := by decide +kernel
theorem dX7_well_110 : decode cX7_well 110 = .ok (.invokevirtual 138, 3) := by decide +kernel
theorem dX7_well_113 : decode cX7_well 113 = .ok (.invokevirtual 118, 3) := by decide +kernel
theorem dX7_well_116 : decode cX7_well 116 = .ok (.aload_n 0, 1) := by decide +kernel
theorem dX7_well_117 : decode cX7_well 117 = .ok (.getfield 22, 3) := by decide +kernel
theorem dX7_well_120 : decode cX7_well 120 = .ok (.iconst 3, 1) := by decide +kernel
theorem dX7_well_121 : decode cX7_well 121 = .ok (.aload_n 0, 1) := by decide +kernel
theorem dX7_well_122 : decode cX7_well 122 = .ok (.iconst 0, 1) := by decide +kernel
theorem dX7_well_123 : decode cX7_well 123 = .ok (.bipush 99, 2) := by decide +kernel
theorem dX7_well_125 : decode cX7_well 125 = .ok (.invokevirtual 128, 3) := by decide +kernel
theorem dX7_well_128 : decode cX7_well 128 = .ok (.iastore, 1) := by decide +kernel
theorem dX7_well_129 : decode cX7_well 129 = .ok (.aload_n 0, 1) := by decide +kernel
theorem dX7_well_130 : decode cX7_well 130 = .ok (.bipush 44, 2) := by decide +kernel
theorem dX7_well_132 : decode cX7_well 132 = .ok (.invokevirtual 132, 3) := by decide +kernel
theorem dX7_well_135 : decode cX7_well 135 = .ok (.aload_n 0, 1) := by decide +kernel
theorem dX7_well_136 : decode cX7_well 136 = .ok (.getfield 22, 3) := by decide +kernel
theorem dX7_well_139 : decode cX7_well 139 = .ok (.iconst 4, 1) := by decide +kernel
theorem dX7_well_140 : decode cX7_well 140 = .ok (.aload_n 0, 1) := by decide +kernel
theorem dX7_well_141 : decode cX7_well 141 = .ok (.iconst 0, 1) := by decide +kernel
theorem dX7_well_142 : decode cX7_well 142 = .ok (.bipush 20, 2) := by decide +kernel
theorem dX7_well_144 : decode cX7_well 144 = .ok (.invokevirtual 128, 3) := by decide +kernel
theorem dX7_well_147 : decode cX7_well 147 = .ok (.iastore, 1) := by decide +kernel
theorem dX7_well_148 : decode cX7_well 148 = .ok (.aload_n 0, 1) := by decide +kernel
theorem dX7_well_149 : decode cX7_well 149 = .ok (.bipush 59, 2) := by decide +kernel
theorem dX7_well_151 : decode cX7_well 151 = .ok (.invokevirtual 132, 3) := by decide +kernel
theorem dX7_well_154 : decode cX7_well 154 = .ok (.aload_n 0, 1) := by decide +kernel
theorem dX7_well_155 : decode cX7_well 155 = .ok (.invokevirtual 141, 3) := by decide +kernel
theorem dX7_well_158 : decode cX7_well 158 = .ok (.ifCond .ne 8, 3) := by decide +kernel
theorem dX7_well_161 : decode cX7_well 161 = .ok (.aload_n 0, 1) := by decide +kernel
theorem dX7_well_162 : decode cX7_well 162 = .ok (.iconst 1, 1) := by decide +kernel
theorem dX7_well_163 : decode cX7_well 163 = .ok (.invokevirtual 111, 3) := by decide +kernel
theorem dX7_well_166 : decode cX7_well 166 = .ok (.aload_n 0, 1) := by decide +kernel
theorem dX7_well_167 : decode cX7_well 167 = .ok (.invokevirtual 141, 3) := by decide +kernel
theorem dX7_well_170 : decode cX7_well 170 = .ok (.ifCond .eq 10, 3) := by decide +kernel
theorem dX7_well_173 : decode cX7_well 173 = .ok (.aload_n 0, 1) := by decide +kernel
theorem dX7_well_174 : decode cX7_well 174 = .ok (.invokevirtual 145, 3) := by decide +kernel
theorem dX7_well_177 : decode cX7_well 177 = .ok (.goto (-11), 3) := by decide +kernel
theorem dX7_well_180 : decode cX7_well 180 = .ok (.aload_n 0, 1) := by decide +kernel
theorem dX7_well_181 : decode cX7_well 181 = .ok (.invokevirtual 148, 3) := by decide +kernel
theorem dX7_well_184 : decode cX7_well 184 = .ok (.ifCond .eq 11, 3) := by decide +kernel
theorem dX7_well_187 : decode cX7_well 187 = .ok (.ldc 151, 2) := by decide +kernel
theorem dX7_well_189 : decode cX7_well 189 = .ok (.aload_n 0, 1) := by decide +kernel
theorem dX7_well_190 : decode cX7_well 190 = .ok (.getfield 90, 3) := by decide +kernel
theorem dX7_well_193 : decode cX7_well 193 = .ok (.isub, 1) := by decide +kernel
theorem dX7_well_194 : decode cX7_well 194 = .ok (.ireturn, 1) := by decide +kernel
theorem dX7_well_195 : decode cX7_well 195 = .ok (.aload_n 0, 1) := by decide +kernel
theorem dX7_well_196 : decode cX7_well 196 = .ok (.iconst 0, 1) := by decide +kernel
theorem dX7_well_197 : decode cX7_well 197 = .ok (.putfield 152, 3) := by decide +kernel
theorem dX7_well_200 : decode cX7_well 200 = .ok (.iconst 0, 1) := by decide +kernel
theorem dX7_well_201 : decode cX7_well 201 = .ok (.istore_n 1, 1) := by decide +kernel
theorem dX7_well_202 : decode cX7_well 202 = .ok (.iload_n 1, 1) := by decide +kernel
theorem dX7_well_203 : decode cX7_well 203 = .ok (.bipush 44, 2) := by decide +kernel
theorem dX7_well_205 : decode cX7_well 205 = .ok (.if_icmp .ge 21, 3) := by decide +kernel
theorem dX7_well_208 : decode cX7_well 208 = .ok (.aload_n 0, 1) := by decide +kernel
theorem dX7_well_209 : decode cX7_well 209 = .ok (.getfield 19, 3) := by decide +kernel
theorem dX7_well_212 : decode cX7_well 212 = .ok (.iload_n 1, 1) := by decide +kernel
theorem dX7_well_213 : decode cX7_well 213 = .ok (.aload_n 0, 1) := by decide +kernel
theorem dX7_well_214 : decode cX7_well 214 = .ok (.getfield 22, 3) := by decide +kernel
theorem dX7_well_217 : decode cX7_well 217 = .ok (.iload_n 1, 1) := by decide +kernel
theorem dX7_well_218 : decode cX7_well 218 = .ok (.iaload, 1) := by decide +kernel
theorem dX7_well_219 : decode cX7_well 219 = .ok (.iastore, 1) := by decide +kernel
theorem dX7_well_220 : decode cX7_well 220 = .ok (.iinc 1 1, 3) := by decide +kernel
theorem dX7_well_223 : decode cX7_well 223 = .ok (.goto (-21), 3) := by decide +kernel
theorem dX7_well_226 : decode cX7_well 226 = .ok (.aload_n 0, 1) := by decide +kernel
theorem dX7_well_227 : decode cX7_well 227 = .ok (.getfield 19, 3) := by decide +kernel
theorem dX7_well_230 : decode cX7_well 230 = .ok (.iconst 5, 1) := by decide +kernel
theorem dX7_well_231 : decode cX7_well 231 = .ok (.iaload, 1) := by decide +kernel
theorem dX7_well_232 : decode cX7_well 232 = .ok (.ireturn, 1) := by decide +kernel
theorem dX7_isThere_0 : decode cX7_isThere 0 = .ok (.aload_n 0, 1) := by decide +kernel
theorem dX7_isThere_1 : decode cX7_isThere 1 = .ok (.getfield 19, 3) := by decide +kernel
theorem dX7_isThere_4 : decode cX7_isThere 4 = .ok (.iconst 0, 1) := by decide +kernel
theorem dX7_isThere_5 : decode cX7_isThere 5 = .ok (.iaload, 1) := by decide +kernel
theorem dX7_isThere_6 : decode cX7_isThere 6 = .ok (.ifCond .le 7, 3) := by decide +kernel
theorem dX7_isThere_9 : decode cX7_isThere 9 = .ok (.iconst 1, 1) := by decide +kernel
theorem dX7_isThere_10 : decode cX7_isThere 10 = .ok (.goto 4, 3) := by decide +kernel
theorem dX7_isThere_13 : decode cX7_isThere 13 = .ok (.iconst 0, 1) := by decide +kernel
theorem dX7_isThere_14 : decode cX7_isThere 14 = .ok (.ireturn, 1) := by decide +kernel
theorem dX7_isStep_0 : decode cX7_isStep 0 = .ok (.iload_n 1, 1) := by decide +kernel
theorem dX7_isStep_1 : decode cX7_isStep 1 = .ok (.i2l, 1) := by decide +kernel
theorem dX7_isStep_2 : decode cX7_isStep 2 = .ok (.lconst 0, 1) := by decide +kernel
theorem dX7_isStep_3 : decode cX7_isStep 3 = .ok (.aload_n 0, 1) := by decide +kernel
theorem dX7_isStep_4 : decode cX7_isStep 4 = .ok (.getfield 19, 3) := by decide +kernel
theorem dX7_isStep_7 : decode cX7_isStep 7 = .ok (.iconst 0, 1) := by decide +kernel
theorem dX7_isStep_8 : decode cX7_isStep 8 = .ok (.iaload, 1) := by decide +kernel
theorem dX7_isStep_9 : decode cX7_isStep 9 = .ok (.iconst 1, 1) := by decide +kernel
theorem dX7_isStep_10 : decode cX7_isStep 10 = .ok (.isub, 1) := by decide +kernel
theorem dX7_isStep_11 : decode cX7_isStep 11 = .ok (.i2l, 1) := by decide +kernel
theorem dX7_isStep_12 : decode cX7_isStep 12 = .ok (.invokestatic 63, 3) := by decide +kernel
theorem dX7_isStep_15 : decode cX7_isStep 15 = .ok (.ireturn, 1) := by decide +kernel
theorem dX7_isGrade_0 : decode cX7_isGrade 0 = .ok (.iload_n 1, 1) := by decide +kernel
theorem dX7_isGrade_1 : decode cX7_isGrade 1 = .ok (.i2l, 1) := by decide +kernel
theorem dX7_isGrade_2 : decode cX7_isGrade 2 = .ok (.lconst 0, 1) := by decide +kernel
theorem dX7_isGrade_3 : decode cX7_isGrade 3 = .ok (.aload_n 0, 1) := by decide +kernel
theorem dX7_isGrade_4 : decode cX7_isGrade 4 = .ok (.getfield 19, 3) := by decide +kernel
theorem dX7_isGrade_7 : decode cX7_isGrade 7 = .ok (.iconst 5, 1) := by decide +kernel
theorem dX7_isGrade_8 : decode cX7_isGrade 8 = .ok (.iaload, 1) := by decide +kernel
theorem dX7_isGrade_9 : decode cX7_isGrade 9 = .ok (.iconst 1, 1) := by decide +kernel
theorem dX7_isGrade_10 : decode cX7_isGrade 10 = .ok (.isub, 1) := by decide +kernel
theorem dX7_isGrade_11 : decode cX7_isGrade 11 = .ok (.i2l, 1) := by decide +kernel
theorem dX7_isGrade_12 : decode cX7_isGrade 12 = .ok (.invokestatic 63, 3) := by decide +kernel
theorem dX7_isGrade_15 : decode cX7_isGrade 15 = .ok (.ireturn, 1) := by decide +kernel
theorem dX7_has_0 : decode cX7_has 0 = .ok (.iload_n 0, 1) := by decide +kernel
theorem dX7_has_1 : decode cX7_has 1 = .ok (.iload_n 1, 1) := by decide +kernel
theorem dX7_has_2 : decode cX7_has 2 = .ok (.ishr, 1) := by decide +kernel
theorem dX7_has_3 : decode cX7_has 3 = .ok (.iconst 1, 1) := by decide +kernel
theorem dX7_has_4 : decode cX7_has 4 = .ok (.iand, 1) := by decide +kernel
theorem dX7_has_5 : decode cX7_has 5 = .ok (.iconst 1, 1) := by decide +kernel
theorem dX7_has_6 : decode cX7_has 6 = .ok (.if_icmp .ne 7, 3) := by decide +kernel
theorem dX7_has_9 : decode cX7_has 9 = .ok (.iconst 1, 1) := by decide +kernel
theorem dX7_has_10 : decode cX7_has 10 = .ok (.goto 4, 3) := by decide +kernel
theorem dX7_has_13 : decode cX7_has 13 = .ok (.iconst 0, 1) := by decide +kernel
theorem dX7_has_14 : decode cX7_has 14 = .ok (.ireturn, 1) := by decide +kernel
theorem dX7_of_0 : decode cX7_of 0 = .ok (.aload_n 0, 1) := by decide +kernel
theorem dX7_of_1 : decode cX7_of 1 = .ok (.bipush 6, 2) := by decide +kernel
theorem dX7_of_3 : decode cX7_of 3 = .ok (.bipush 6, 2) := by decide +kernel
theorem dX7_of_5 : decode cX7_of 5 = .ok (.iload_n 1, 1) := by decide +kernel
theorem dX7_of_6 : decode cX7_of 6 = .ok (.imul, 1) := by decide +kernel
theorem dX7_of_7 : decode cX7_of 7 = .ok (.iadd, 1) := by decide +kernel
theorem dX7_of_8 : decode cX7_of 8 = .ok (.iload_n 2, 1) := by decide +kernel
theorem dX7_of_9 : decode cX7_of 9 = .ok (.iadd, 1) := by decide +kernel
theorem dX7_of_10 : decode cX7_of 10 = .ok (.iaload, 1) := by decide +kernel
theorem dX7_of_11 : decode cX7_of 11 = .ok (.ireturn, 1) := by decide +kernel
theorem dX7_burstLoad_0 : decode cX7_burstLoad 0 = .ok (.aload_n 0, 1) := by decide +kernel
theorem dX7_burstLoad_1 : decode cX7_burstLoad 1 = .ok (.iconst 3, 1) := by decide +kernel
theorem dX7_burstLoad_2 : decode cX7_burstLoad 2 = .ok (.iaload, 1) := by decide +kernel
theorem dX7_burstLoad_3 : decode cX7_burstLoad 3 = .ok (.aload_n 0, 1) := by decide +kernel
theorem dX7_burstLoad_4 : decode cX7_burstLoad 4 = .ok (.iconst 4, 1) := by decide +kernel
theorem dX7_burstLoad_5 : decode cX7_burstLoad 5 = .ok (.iaload, 1) := by decide +kernel
theorem dX7_burstLoad_6 : decode cX7_burstLoad 6 = .ok (.iload_n 1, 1) := by decide +kernel
theorem dX7_burstLoad_7 : decode cX7_burstLoad 7 = .ok (.imul, 1) := by decide +kernel
theorem dX7_burstLoad_8 : decode cX7_burstLoad 8 = .ok (.isub, 1) := by decide +kernel
theorem dX7_burstLoad_9 : decode cX7_burstLoad 9 = .ok (.istore_n 2, 1) := by decide +kernel
theorem dX7_burstLoad_10 : decode cX7_burstLoad 10 = .ok (.iload_n 2, 1) := by decide +kernel
theorem dX7_burstLoad_11 : decode cX7_burstLoad 11 = .ok (.ifCond .ge 7, 3) := by decide +kernel
theorem dX7_burstLoad_14 : decode cX7_burstLoad 14 = .ok (.iconst 0, 1) := by decide +kernel
theorem dX7_burstLoad_15 : decode cX7_burstLoad 15 = .ok (.goto 4, 3) := by decide +kernel
theorem dX7_burstLoad_18 : decode cX7_burstLoad 18 = .ok (.iload_n 2, 1) := by decide +kernel
theorem dX7_burstLoad_19 : decode cX7_burstLoad 19 = .ok (.ireturn, 1) := by decide +kernel
theorem dX7_crushLoad_0 : decode cX7_crushLoad 0 = .ok (.aload_n 0, 1) := by decide +kernel
theorem dX7_crushLoad_1 : decode cX7_crushLoad 1 = .ok (.iconst 2, 1) := by decide +kernel
theorem dX7_crushLoad_2 : decode cX7_crushLoad 2 = .ok (.iaload, 1) := by decide +kernel
theorem dX7_crushLoad_3 : decode cX7_crushLoad 3 = .ok (.iload_n 1, 1) := by decide +kernel
theorem dX7_crushLoad_4 : decode cX7_crushLoad 4 = .ok (.iconst 1, 1) := by decide +kernel
theorem dX7_crushLoad_5 : decode cX7_crushLoad 5 = .ok (.iadd, 1) := by decide +kernel
theorem dX7_crushLoad_6 : decode cX7_crushLoad 6 = .ok (.imul, 1) := by decide +kernel
theorem dX7_crushLoad_7 : decode cX7_crushLoad 7 = .ok (.ireturn, 1) := by decide +kernel
theorem dX7_hangs_0 : decode cX7_hangs 0 = .ok (.iconst 0, 1) := by decide +kernel
theorem dX7_hangs_1 : decode cX7_hangs 1 = .ok (.istore_n 2, 1) := by decide +kernel
theorem dX7_hangs_2 : decode cX7_hangs 2 = .ok (.iload_n 1, 1) := by decide +kernel
theorem dX7_hangs_3 : decode cX7_hangs 3 = .ok (.istore_n 3, 1) := by decide +kernel
theorem dX7_hangs_4 : decode cX7_hangs 4 = .ok (.iload_n 3, 1) := by decide +kernel
theorem dX7_hangs_5 : decode cX7_hangs 5 = .ok (.aload_n 0, 1) := by decide +kernel
theorem dX7_hangs_6 : decode cX7_hangs 6 = .ok (.iconst 0, 1) := by decide +kernel
theorem dX7_hangs_7 : decode cX7_hangs 7 = .ok (.iaload, 1) := by decide +kernel
theorem dX7_hangs_8 : decode cX7_hangs 8 = .ok (.if_icmp .ge 36, 3) := by decide +kernel
theorem dX7_hangs_11 : decode cX7_hangs 11 = .ok (.iload_n 2, 1) := by decide +kernel
theorem dX7_hangs_12 : decode cX7_hangs 12 = .ok (.aload_n 0, 1) := by decide +kernel
theorem dX7_hangs_13 : decode cX7_hangs 13 = .ok (.bipush 36, 2) := by decide +kernel
theorem dX7_hangs_15 : decode cX7_hangs 15 = .ok (.iload_n 3, 1) := by decide +kernel
theorem dX7_hangs_16 : decode cX7_hangs 16 = .ok (.iadd, 1) := by decide +kernel
theorem dX7_hangs_17 : decode cX7_hangs 17 = .ok (.iaload, 1) := by decide +kernel
theorem dX7_hangs_18 : decode cX7_hangs 18 = .ok (.ifCond .ge 7, 3) := by decide +kernel
theorem dX7_hangs_21 : decode cX7_hangs 21 = .ok (.iconst 0, 1) := by decide +kernel
theorem dX7_hangs_22 : decode cX7_hangs 22 = .ok (.goto 14, 3) := by decide +kernel
theorem dX7_hangs_25 : decode cX7_hangs 25 = .ok (.aload_n 0, 1) := by decide +kernel
theorem dX7_hangs_26 : decode cX7_hangs 26 = .ok (.aload_n 0, 1) := by decide +kernel
theorem dX7_hangs_27 : decode cX7_hangs 27 = .ok (.bipush 36, 2) := by decide +kernel
theorem dX7_hangs_29 : decode cX7_hangs 29 = .ok (.iload_n 3, 1) := by decide +kernel
theorem dX7_hangs_30 : decode cX7_hangs 30 = .ok (.iadd, 1) := by decide +kernel
theorem dX7_hangs_31 : decode cX7_hangs 31 = .ok (.iaload, 1) := by decide +kernel
theorem dX7_hangs_32 : decode cX7_hangs 32 = .ok (.iconst 4, 1) := by decide +kernel
theorem dX7_hangs_33 : decode cX7_hangs 33 = .ok (.invokestatic 155, 3) := by decide +kernel
theorem dX7_hangs_36 : decode cX7_hangs 36 = .ok (.iadd, 1) := by decide +kernel
theorem dX7_hangs_37 : decode cX7_hangs 37 = .ok (.istore_n 2, 1) := by decide +kernel
theorem dX7_hangs_38 : decode cX7_hangs 38 = .ok (.iinc 3 1, 3) := by decide +kernel
theorem dX7_hangs_41 : decode cX7_hangs 41 = .ok (.goto (-37), 3) := by decide +kernel
theorem dX7_hangs_44 : decode cX7_hangs 44 = .ok (.iload_n 2, 1) := by decide +kernel
theorem dX7_hangs_45 : decode cX7_hangs 45 = .ok (.ireturn, 1) := by decide +kernel
theorem dX7_bearsBurst_0 : decode cX7_bearsBurst 0 = .ok (.aload_n 0, 1) := by decide +kernel
theorem dX7_bearsBurst_1 : decode cX7_bearsBurst 1 = .ok (.iload_n 1, 1) := by decide +kernel
theorem dX7_bearsBurst_2 : decode cX7_bearsBurst 2 = .ok (.iconst 1, 1) := by decide +kernel
theorem dX7_bearsBurst_3 : decode cX7_bearsBurst 3 = .ok (.invokestatic 155, 3) := by decide +kernel
theorem dX7_bearsBurst_6 : decode cX7_bearsBurst 6 = .ok (.aload_n 0, 1) := by decide +kernel
theorem dX7_bearsBurst_7 : decode cX7_bearsBurst 7 = .ok (.iload_n 1, 1) := by decide +kernel
theorem dX7_bearsBurst_8 : decode cX7_bearsBurst 8 = .ok (.iconst 0, 1) := by decide +kernel
theorem dX7_bearsBurst_9 : decode cX7_bearsBurst 9 = .ok (.invokestatic 155, 3) := by decide +kernel
theorem dX7_bearsBurst_12 : decode cX7_bearsBurst 12 = .ok (.iconst 5, 1) := by decide +kernel
theorem dX7_bearsBurst_13 : decode cX7_bearsBurst 13 = .ok (.if_icmp .ne 8, 3) := by decide +kernel
theorem dX7_bearsBurst_16 : decode cX7_bearsBurst 16 = .ok (.bipush 10, 2) := by decide +kernel
theorem dX7_bearsBurst_18 : decode cX7_bearsBurst 18 = .ok (.goto 4, 3) := by decide +kernel
theorem dX7_bearsBurst_21 : decode cX7_bearsBurst 21 = .ok (.iconst 0, 1) := by decide +kernel
theorem dX7_bearsBurst_22 : decode cX7_bearsBurst 22 = .ok (.iadd, 1) := by decide +kernel
theorem dX7_bearsBurst_23 : decode cX7_bearsBurst 23 = .ok (.ireturn, 1) := by decide +kernel
theorem dX7_bearsPull_0 : decode cX7_bearsPull 0 = .ok (.aload_n 0, 1) := by decide +kernel
theorem dX7_bearsPull_1 : decode cX7_bearsPull 1 = .ok (.iload_n 1, 1) := by decide +kernel
theorem dX7_bearsPull_2 : decode cX7_bearsPull 2 = .ok (.iconst 0, 1) := by decide +kernel
theorem dX7_bearsPull_3 : decode cX7_bearsPull 3 = .ok (.invokestatic 155, 3) := by decide +kernel
theorem dX7_bearsPull_6 : decode cX7_bearsPull 6 = .ok (.iconst 3, 1) := by decide +kernel
theorem dX7_bearsPull_7 : decode cX7_bearsPull 7 = .ok (.if_icmp .ne 16, 3) := by decide +kernel
theorem dX7_bearsPull_10 : decode cX7_bearsPull 10 = .ok (.aload_n 0, 1) := by decide +kernel
theorem dX7_bearsPull_11 : decode cX7_bearsPull 11 = .ok (.iload_n 1, 1) := by decide +kernel
theorem dX7_bearsPull_12 : decode cX7_bearsPull 12 = .ok (.iconst 3, 1) := by decide +kernel
theorem dX7_bearsPull_13 : decode cX7_bearsPull 13 = .ok (.invokestatic 155, 3) := by decide +kernel
theorem dX7_bearsPull_16 : decode cX7_bearsPull 16 = .ok (.iconst 1, 1) := by decide +kernel
theorem dX7_bearsPull_17 : decode cX7_bearsPull 17 = .ok (.iadd, 1) := by decide +kernel
theorem dX7_bearsPull_18 : decode cX7_bearsPull 18 = .ok (.iconst 2, 1) := by decide +kernel
theorem dX7_bearsPull_19 : decode cX7_bearsPull 19 = .ok (.idiv, 1) := by decide +kernel
theorem dX7_bearsPull_20 : decode cX7_bearsPull 20 = .ok (.goto 9, 3) := by decide +kernel
theorem dX7_bearsPull_23 : decode cX7_bearsPull 23 = .ok (.aload_n 0, 1) := by decide +kernel
theorem dX7_bearsPull_24 : decode cX7_bearsPull 24 = .ok (.iload_n 1, 1) := by decide +kernel
theorem dX7_bearsPull_25 : decode cX7_bearsPull 25 = .ok (.iconst 3, 1) := by decide +kernel
theorem dX7_bearsPull_26 : decode cX7_bearsPull 26 = .ok (.invokestatic 155, 3) := by decide +kernel
theorem dX7_bearsPull_29 : decode cX7_bearsPull 29 = .ok (.ireturn, 1) := by decide +kernel
theorem dX7_bearsCrush_0 : decode cX7_bearsCrush 0 = .ok (.aload_n 0, 1) := by decide +kernel
theorem dX7_bearsCrush_1 : decode cX7_bearsCrush 1 = .ok (.iload_n 1, 1) := by decide +kernel
theorem dX7_bearsCrush_2 : decode cX7_bearsCrush 2 = .ok (.iconst 0, 1) := by decide +kernel
theorem dX7_bearsCrush_3 : decode cX7_bearsCrush 3 = .ok (.invokestatic 155, 3) := by decide +kernel
theorem dX7_bearsCrush_6 : decode cX7_bearsCrush 6 = .ok (.istore_n 3, 1) := by decide +kernel
theorem dX7_bearsCrush_7 : decode cX7_bearsCrush 7 = .ok (.iload_n 3, 1) := by decide +kernel
theorem dX7_bearsCrush_8 : decode cX7_bearsCrush 8 = .ok (.iconst 4, 1) := by decide +kernel
theorem dX7_bearsCrush_9 : decode cX7_bearsCrush 9 = .ok (.if_icmp .lt 10, 3) := by decide +kernel
theorem dX7_bearsCrush_12 : decode cX7_bearsCrush 12 = .ok (.aload_n 0, 1) := by decide +kernel
theorem dX7_bearsCrush_13 : decode cX7_bearsCrush 13 = .ok (.iload_n 1, 1) := by decide +kernel
theorem dX7_bearsCrush_14 : decode cX7_bearsCrush 14 = .ok (.iconst 2, 1) := by decide +kernel
theorem dX7_bearsCrush_15 : decode cX7_bearsCrush 15 = .ok (.invokestatic 155, 3) := by decide +kernel
theorem dX7_bearsCrush_18 : decode cX7_bearsCrush 18 = .ok (.ireturn, 1) := by decide +kernel
theorem dX7_bearsCrush_19 : decode cX7_bearsCrush 19 = .ok (.bipush 10, 2) := by decide +kernel
theorem dX7_bearsCrush_21 : decode cX7_bearsCrush 21 = .ok (.iload_n 2, 1) := by decide +kernel
theorem dX7_bearsCrush_22 : decode cX7_bearsCrush 22 = .ok (.imul, 1) := by decide +kernel
theorem dX7_bearsCrush_23 : decode cX7_bearsCrush 23 = .ok (.aload_n 0, 1) := by decide +kernel
theorem dX7_bearsCrush_24 : decode cX7_bearsCrush 24 = .ok (.iload_n 1, 1) := by decide +kernel
theorem dX7_bearsCrush_25 : decode cX7_bearsCrush 25 = .ok (.invokestatic 159, 3) := by decide +kernel
theorem dX7_bearsCrush_28 : decode cX7_bearsCrush 28 = .ok (.idiv, 1) := by decide +kernel
theorem dX7_bearsCrush_29 : decode cX7_bearsCrush 29 = .ok (.istore 4, 2) := by decide +kernel
theorem dX7_bearsCrush_31 : decode cX7_bearsCrush 31 = .ok (.iload 4, 2) := by decide +kernel
theorem dX7_bearsCrush_33 : decode cX7_bearsCrush 33 = .ok (.bipush 10, 2) := by decide +kernel
theorem dX7_bearsCrush_35 : decode cX7_bearsCrush 35 = .ok (.if_icmp .le 8, 3) := by decide +kernel
theorem dX7_bearsCrush_38 : decode cX7_bearsCrush 38 = .ok (.bipush 10, 2) := by decide +kernel
theorem dX7_bearsCrush_40 : decode cX7_bearsCrush 40 = .ok (.goto 5, 3) := by decide +kernel
theorem dX7_bearsCrush_43 : decode cX7_bearsCrush 43 = .ok (.iload 4, 2) := by decide +kernel
theorem dX7_bearsCrush_45 : decode cX7_bearsCrush 45 = .ok (.istore 4, 2) := by decide +kernel
theorem dX7_bearsCrush_47 : decode cX7_bearsCrush 47 = .ok (.iload_n 3, 1) := by decide +kernel
theorem dX7_bearsCrush_48 : decode cX7_bearsCrush 48 = .ok (.iconst 2, 1) := by decide +kernel
theorem dX7_bearsCrush_49 : decode cX7_bearsCrush 49 = .ok (.if_icmp .ne 10, 3) := by decide +kernel
theorem dX7_bearsCrush_52 : decode cX7_bearsCrush 52 = .ok (.iload 4, 2) := by decide +kernel
theorem dX7_bearsCrush_54 : decode cX7_bearsCrush 54 = .ok (.iconst 2, 1) := by decide +kernel
theorem dX7_bearsCrush_55 : decode cX7_bearsCrush 55 = .ok (.idiv, 1) := by decide +kernel
theorem dX7_bearsCrush_56 : decode cX7_bearsCrush 56 = .ok (.goto 5, 3) := by decide +kernel
theorem dX7_bearsCrush_59 : decode cX7_bearsCrush 59 = .ok (.iload 4, 2) := by decide +kernel
theorem dX7_bearsCrush_61 : decode cX7_bearsCrush 61 = .ok (.istore 4, 2) := by decide +kernel
theorem dX7_bearsCrush_63 : decode cX7_bearsCrush 63 = .ok (.aload_n 0, 1) := by decide +kernel
theorem dX7_bearsCrush_64 : decode cX7_bearsCrush 64 = .ok (.iload_n 1, 1) := by decide +kernel
theorem dX7_bearsCrush_65 : decode cX7_bearsCrush 65 = .ok (.iconst 2, 1) := by decide +kernel
theorem dX7_bearsCrush_66 : decode cX7_bearsCrush 66 = .ok (.invokestatic 155, 3) := by decide +kernel
theorem dX7_bearsCrush_69 : decode cX7_bearsCrush 69 = .ok (.bipush 10, 2) := by decide +kernel
theorem dX7_bearsCrush_71 : decode cX7_bearsCrush 71 = .ok (.iload 4, 2) := by decide +kernel
theorem dX7_bearsCrush_73 : decode cX7_bearsCrush 73 = .ok (.isub, 1) := by decide +kernel
theorem dX7_bearsCrush_74 : decode cX7_bearsCrush 74 = .ok (.imul, 1) := by decide +kernel
theorem dX7_bearsCrush_75 : decode cX7_bearsCrush 75 = .ok (.bipush 10, 2) := by decide +kernel
theorem dX7_bearsCrush_77 : decode cX7_bearsCrush 77 = .ok (.idiv, 1) := by decide +kernel
theorem dX7_bearsCrush_78 : decode cX7_bearsCrush 78 = .ok (.ireturn, 1) := by decide +kernel
theorem dX7_wouldHold_0 : decode cX7_wouldHold 0 = .ok (.aload_n 0, 1) := by decide +kernel
theorem dX7_wouldHold_1 : decode cX7_wouldHold 1 = .ok (.iload_n 2, 1) := by decide +kernel
theorem dX7_wouldHold_2 : decode cX7_wouldHold 2 = .ok (.invokestatic 163, 3) := by decide +kernel
theorem dX7_wouldHold_5 : decode cX7_wouldHold 5 = .ok (.aload_n 0, 1) := by decide +kernel
theorem dX7_wouldHold_6 : decode cX7_wouldHold 6 = .ok (.iload_n 1, 1) := by decide +kernel
theorem dX7_wouldHold_7 : decode cX7_wouldHold 7 = .ok (.invokestatic 166, 3) := by decide +kernel
theorem dX7_wouldHold_10 : decode cX7_wouldHold 10 = .ok (.if_icmp .lt 30, 3) := by decide +kernel
theorem dX7_wouldHold_13 : decode cX7_wouldHold 13 = .ok (.aload_n 0, 1) := by decide +kernel
theorem dX7_wouldHold_14 : decode cX7_wouldHold 14 = .ok (.iload_n 2, 1) := by decide +kernel
theorem dX7_wouldHold_15 : decode cX7_wouldHold 15 = .ok (.iload_n 3, 1) := by decide +kernel
theorem dX7_wouldHold_16 : decode cX7_wouldHold 16 = .ok (.invokestatic 169, 3) := by decide +kernel
theorem dX7_wouldHold_19 : decode cX7_wouldHold 19 = .ok (.aload_n 0, 1) := by decide +kernel
theorem dX7_wouldHold_20 : decode cX7_wouldHold 20 = .ok (.iload_n 1, 1) := by decide +kernel
theorem dX7_wouldHold_21 : decode cX7_wouldHold 21 = .ok (.invokestatic 172, 3) := by decide +kernel
theorem dX7_wouldHold_24 : decode cX7_wouldHold 24 = .ok (.if_icmp .lt 16, 3) := by decide +kernel
theorem dX7_wouldHold_27 : decode cX7_wouldHold 27 = .ok (.aload_n 0, 1) := by decide +kernel
theorem dX7_wouldHold_28 : decode cX7_wouldHold 28 = .ok (.iload_n 2, 1) := by decide +kernel
theorem dX7_wouldHold_29 : decode cX7_wouldHold 29 = .ok (.invokestatic 159, 3) := by decide +kernel
theorem dX7_wouldHold_32 : decode cX7_wouldHold 32 = .ok (.iload_n 3, 1) := by decide +kernel
theorem dX7_wouldHold_33 : decode cX7_wouldHold 33 = .ok (.if_icmp .lt 7, 3) := by decide +kernel
theorem dX7_wouldHold_36 : decode cX7_wouldHold 36 = .ok (.iconst 1, 1) := by decide +kernel
theorem dX7_wouldHold_37 : decode cX7_wouldHold 37 = .ok (.goto 4, 3) := by decide +kernel
theorem dX7_wouldHold_40 : decode cX7_wouldHold 40 = .ok (.iconst 0, 1) := by decide +kernel
theorem dX7_wouldHold_41 : decode cX7_wouldHold 41 = .ok (.ireturn, 1) := by decide +kernel
theorem dX7_holds_0 : decode cX7_holds 0 = .ok (.aload_n 0, 1) := by decide +kernel
theorem dX7_holds_1 : decode cX7_holds 1 = .ok (.bipush 36, 2) := by decide +kernel
theorem dX7_holds_3 : decode cX7_holds 3 = .ok (.iload_n 1, 1) := by decide +kernel
theorem dX7_holds_4 : decode cX7_holds 4 = .ok (.iadd, 1) := by decide +kernel
theorem dX7_holds_5 : decode cX7_holds 5 = .ok (.iaload, 1) := by decide +kernel
theorem dX7_holds_6 : decode cX7_holds 6 = .ok (.ifCond .lt 26, 3) := by decide +kernel
theorem dX7_holds_9 : decode cX7_holds 9 = .ok (.aload_n 0, 1) := by decide +kernel
theorem dX7_holds_10 : decode cX7_holds 10 = .ok (.iload_n 1, 1) := by decide +kernel
theorem dX7_holds_11 : decode cX7_holds 11 = .ok (.aload_n 0, 1) := by decide +kernel
theorem dX7_holds_12 : decode cX7_holds 12 = .ok (.bipush 36, 2) := by decide +kernel
theorem dX7_holds_14 : decode cX7_holds 14 = .ok (.iload_n 1, 1) := by decide +kernel
theorem dX7_holds_15 : decode cX7_holds 15 = .ok (.iadd, 1) := by decide +kernel
theorem dX7_holds_16 : decode cX7_holds 16 = .ok (.iaload, 1) := by decide +kernel
theorem dX7_holds_17 : decode cX7_holds 17 = .ok (.aload_n 0, 1) := by decide +kernel
theorem dX7_holds_18 : decode cX7_holds 18 = .ok (.iload_n 1, 1) := by decide +kernel
theorem dX7_holds_19 : decode cX7_holds 19 = .ok (.invokestatic 175, 3) := by decide +kernel
theorem dX7_holds_22 : decode cX7_holds 22 = .ok (.invokestatic 178, 3) := by decide +kernel
theorem dX7_holds_25 : decode cX7_holds 25 = .ok (.ifCond .eq 7, 3) := by decide +kernel
theorem dX7_holds_28 : decode cX7_holds 28 = .ok (.iconst 1, 1) := by decide +kernel
theorem dX7_holds_29 : decode cX7_holds 29 = .ok (.goto 4, 3) := by decide +kernel
theorem dX7_holds_32 : decode cX7_holds 32 = .ok (.iconst 0, 1) := by decide +kernel
theorem dX7_holds_33 : decode cX7_holds 33 = .ok (.ireturn, 1) := by decide +kernel
theorem dX7_manyHold_0 : decode cX7_manyHold 0 = .ok (.iconst 0, 1) := by decide +kernel
theorem dX7_manyHold_1 : decode cX7_manyHold 1 = .ok (.istore_n 1, 1) := by decide +kernel
theorem dX7_manyHold_2 : decode cX7_manyHold 2 = .ok (.iconst 0, 1) := by decide +kernel
theorem dX7_manyHold_3 : decode cX7_manyHold 3 = .ok (.istore_n 2, 1) := by decide +kernel
theorem dX7_manyHold_4 : decode cX7_manyHold 4 = .ok (.iload_n 2, 1) := by decide +kernel
theorem dX7_manyHold_5 : decode cX7_manyHold 5 = .ok (.aload_n 0, 1) := by decide +kernel
theorem dX7_manyHold_6 : decode cX7_manyHold 6 = .ok (.iconst 0, 1) := by decide +kernel
theorem dX7_manyHold_7 : decode cX7_manyHold 7 = .ok (.iaload, 1) := by decide +kernel
theorem dX7_manyHold_8 : decode cX7_manyHold 8 = .ok (.if_icmp .ge 25, 3) := by decide +kernel
theorem dX7_manyHold_11 : decode cX7_manyHold 11 = .ok (.iload_n 1, 1) := by decide +kernel
theorem dX7_manyHold_12 : decode cX7_manyHold 12 = .ok (.aload_n 0, 1) := by decide +kernel
theorem dX7_manyHold_13 : decode cX7_manyHold 13 = .ok (.iload_n 2, 1) := by decide +kernel
theorem dX7_manyHold_14 : decode cX7_manyHold 14 = .ok (.invokestatic 182, 3) := by decide +kernel
theorem dX7_manyHold_17 : decode cX7_manyHold 17 = .ok (.ifCond .eq 7, 3) := by decide +kernel
theorem dX7_manyHold_20 : decode cX7_manyHold 20 = .ok (.iconst 1, 1) := by decide +kernel
theorem dX7_manyHold_21 : decode cX7_manyHold 21 = .ok (.goto 4, 3) := by decide +kernel
theorem dX7_manyHold_24 : decode cX7_manyHold 24 = .ok (.iconst 0, 1) := by decide +kernel
theorem dX7_manyHold_25 : decode cX7_manyHold 25 = .ok (.iadd, 1) := by decide +kernel
theorem dX7_manyHold_26 : decode cX7_manyHold 26 = .ok (.istore_n 1, 1) := by decide +kernel
theorem dX7_manyHold_27 : decode cX7_manyHold 27 = .ok (.iinc 2 1, 3) := by decide +kernel
theorem dX7_manyHold_30 : decode cX7_manyHold 30 = .ok (.goto (-26), 3) := by decide +kernel
theorem dX7_manyHold_33 : decode cX7_manyHold 33 = .ok (.iload_n 1, 1) := by decide +kernel
theorem dX7_manyHold_34 : decode cX7_manyHold 34 = .ok (.ireturn, 1) := by decide +kernel
theorem dX7_costOf_0 : decode cX7_costOf 0 = .ok (.iconst 0, 1) := by decide +kernel
theorem dX7_costOf_1 : decode cX7_costOf 1 = .ok (.istore_n 1, 1) := by decide +kernel
theorem dX7_costOf_2 : decode cX7_costOf 2 = .ok (.iconst 0, 1) := by decide +kernel
theorem dX7_costOf_3 : decode cX7_costOf 3 = .ok (.istore_n 2, 1) := by decide +kernel
theorem dX7_costOf_4 : decode cX7_costOf 4 = .ok (.iload_n 2, 1) := by decide +kernel
theorem dX7_costOf_5 : decode cX7_costOf 5 = .ok (.aload_n 0, 1) := by decide +kernel
theorem dX7_costOf_6 : decode cX7_costOf 6 = .ok (.iconst 0, 1) := by decide +kernel
theorem dX7_costOf_7 : decode cX7_costOf 7 = .ok (.iaload, 1) := by decide +kernel
theorem dX7_costOf_8 : decode cX7_costOf 8 = .ok (.if_icmp .ge 36, 3) := by decide +kernel
theorem dX7_costOf_11 : decode cX7_costOf 11 = .ok (.iload_n 1, 1) := by decide +kernel
theorem dX7_costOf_12 : decode cX7_costOf 12 = .ok (.aload_n 0, 1) := by decide +kernel
theorem dX7_costOf_13 : decode cX7_costOf 13 = .ok (.bipush 36, 2) := by decide +kernel
theorem dX7_costOf_15 : decode cX7_costOf 15 = .ok (.iload_n 2, 1) := by decide +kernel
theorem dX7_costOf_16 : decode cX7_costOf 16 = .ok (.iadd, 1) := by decide +kernel
theorem dX7_costOf_17 : decode cX7_costOf 17 = .ok (.iaload, 1) := by decide +kernel
theorem dX7_costOf_18 : decode cX7_costOf 18 = .ok (.ifCond .ge 7, 3) := by decide +kernel
theorem dX7_costOf_21 : decode cX7_costOf 21 = .ok (.iconst 0, 1) := by decide +kernel
theorem dX7_costOf_22 : decode cX7_costOf 22 = .ok (.goto 14, 3) := by decide +kernel
theorem dX7_costOf_25 : decode cX7_costOf 25 = .ok (.aload_n 0, 1) := by decide +kernel
theorem dX7_costOf_26 : decode cX7_costOf 26 = .ok (.aload_n 0, 1) := by decide +kernel
theorem dX7_costOf_27 : decode cX7_costOf 27 = .ok (.bipush 36, 2) := by decide +kernel
theorem dX7_costOf_29 : decode cX7_costOf 29 = .ok (.iload_n 2, 1) := by decide +kernel
theorem dX7_costOf_30 : decode cX7_costOf 30 = .ok (.iadd, 1) := by decide +kernel
theorem dX7_costOf_31 : decode cX7_costOf 31 = .ok (.iaload, 1) := by decide +kernel
theorem dX7_costOf_32 : decode cX7_costOf 32 = .ok (.iconst 5, 1) := by decide +kernel
theorem dX7_costOf_33 : decode cX7_costOf 33 = .ok (.invokestatic 155, 3) := by decide +kernel
theorem dX7_costOf_36 : decode cX7_costOf 36 = .ok (.iadd, 1) := by decide +kernel
theorem dX7_costOf_37 : decode cX7_costOf 37 = .ok (.istore_n 1, 1) := by decide +kernel
theorem dX7_costOf_38 : decode cX7_costOf 38 = .ok (.iinc 2 1, 3) := by decide +kernel
theorem dX7_costOf_41 : decode cX7_costOf 41 = .ok (.goto (-37), 3) := by decide +kernel
theorem dX7_costOf_44 : decode cX7_costOf 44 = .ok (.iload_n 1, 1) := by decide +kernel
theorem dX7_costOf_45 : decode cX7_costOf 45 = .ok (.ireturn, 1) := by decide +kernel
theorem dX7_sectionOf_0 : decode cX7_sectionOf 0 = .ok (.aload_n 0, 1) := by decide +kernel
theorem dX7_sectionOf_1 : decode cX7_sectionOf 1 = .ok (.bipush 36, 2) := by decide +kernel
theorem dX7_sectionOf_3 : decode cX7_sectionOf 3 = .ok (.iload_n 1, 1) := by decide +kernel
theorem dX7_sectionOf_4 : decode cX7_sectionOf 4 = .ok (.iadd, 1) := by decide +kernel
theorem dX7_sectionOf_5 : decode cX7_sectionOf 5 = .ok (.iaload, 1) := by decide +kernel
theorem dX7_sectionOf_6 : decode cX7_sectionOf 6 = .ok (.istore_n 2, 1) := by decide +kernel
theorem dX7_sectionOf_7 : decode cX7_sectionOf 7 = .ok (.iload_n 2, 1) := by decide +kernel
theorem dX7_sectionOf_8 : decode cX7_sectionOf 8 = .ok (.ifCond .ge 5, 3) := by decide +kernel
theorem dX7_sectionOf_11 : decode cX7_sectionOf 11 = .ok (.iconst 0, 1) := by decide +kernel
theorem dX7_sectionOf_12 : decode cX7_sectionOf 12 = .ok (.ireturn, 1) := by decide +kernel
theorem dX7_sectionOf_13 : decode cX7_sectionOf 13 = .ok (.iload_n 1, 1) := by decide +kernel
theorem dX7_sectionOf_14 : decode cX7_sectionOf 14 = .ok (.istore_n 3, 1) := by decide +kernel
theorem dX7_sectionOf_15 : decode cX7_sectionOf 15 = .ok (.iload_n 3, 1) := by decide +kernel
theorem dX7_sectionOf_16 : decode cX7_sectionOf 16 = .ok (.ifCond .le 21, 3) := by decide +kernel
theorem dX7_sectionOf_19 : decode cX7_sectionOf 19 = .ok (.aload_n 0, 1) := by decide +kernel
theorem dX7_sectionOf_20 : decode cX7_sectionOf 20 = .ok (.bipush 36, 2) := by decide +kernel
theorem dX7_sectionOf_22 : decode cX7_sectionOf 22 = .ok (.iload_n 3, 1) := by decide +kernel
theorem dX7_sectionOf_23 : decode cX7_sectionOf 23 = .ok (.iadd, 1) := by decide +kernel
theorem dX7_sectionOf_24 : decode cX7_sectionOf 24 = .ok (.iconst 1, 1) := by decide +kernel
theorem dX7_sectionOf_25 : decode cX7_sectionOf 25 = .ok (.isub, 1) := by decide +kernel
theorem dX7_sectionOf_26 : decode cX7_sectionOf 26 = .ok (.iaload, 1) := by decide +kernel
theorem dX7_sectionOf_27 : decode cX7_sectionOf 27 = .ok (.iload_n 2, 1) := by decide +kernel
theorem dX7_sectionOf_28 : decode cX7_sectionOf 28 = .ok (.if_icmp .ne 9, 3) := by decide +kernel
theorem dX7_sectionOf_31 : decode cX7_sectionOf 31 = .ok (.iinc 3 (-1), 3) := by decide +kernel
theorem dX7_sectionOf_34 : decode cX7_sectionOf 34 = .ok (.goto (-19), 3) := by decide +kernel
theorem dX7_sectionOf_37 : decode cX7_sectionOf 37 = .ok (.iload_n 1, 1) := by decide +kernel
theorem dX7_sectionOf_38 : decode cX7_sectionOf 38 = .ok (.istore 4, 2) := by decide +kernel
theorem dX7_sectionOf_40 : decode cX7_sectionOf 40 = .ok (.iload 4, 2) := by decide +kernel
theorem dX7_sectionOf_42 : decode cX7_sectionOf 42 = .ok (.iconst 1, 1) := by decide +kernel
theorem dX7_sectionOf_43 : decode cX7_sectionOf 43 = .ok (.iadd, 1) := by decide +kernel
theorem dX7_sectionOf_44 : decode cX7_sectionOf 44 = .ok (.aload_n 0, 1) := by decide +kernel
theorem dX7_sectionOf_45 : decode cX7_sectionOf 45 = .ok (.iconst 0, 1) := by decide +kernel
theorem dX7_sectionOf_46 : decode cX7_sectionOf 46 = .ok (.iaload, 1) := by decide +kernel
theorem dX7_sectionOf_47 : decode cX7_sectionOf 47 = .ok (.if_icmp .ge 22, 3) := by decide +kernel
theorem dX7_sectionOf_50 : decode cX7_sectionOf 50 = .ok (.aload_n 0, 1) := by decide +kernel
theorem dX7_sectionOf_51 : decode cX7_sectionOf 51 = .ok (.bipush 36, 2) := by decide +kernel
theorem dX7_sectionOf_53 : decode cX7_sectionOf 53 = .ok (.iload 4, 2) := by decide +kernel
theorem dX7_sectionOf_55 : decode cX7_sectionOf 55 = .ok (.iadd, 1) := by decide +kernel
theorem dX7_sectionOf_56 : decode cX7_sectionOf 56 = .ok (.iconst 1, 1) := by decide +kernel
theorem dX7_sectionOf_57 : decode cX7_sectionOf 57 = .ok (.iadd, 1) := by decide +kernel
theorem dX7_sectionOf_58 : decode cX7_sectionOf 58 = .ok (.iaload, 1) := by decide +kernel
theorem dX7_sectionOf_59 : decode cX7_sectionOf 59 = .ok (.iload_n 2, 1) := by decide +kernel
theorem dX7_sectionOf_60 : decode cX7_sectionOf 60 = .ok (.if_icmp .ne 9, 3) := by decide +kernel
theorem dX7_sectionOf_63 : decode cX7_sectionOf 63 = .ok (.iinc 4 1, 3) := by decide +kernel
theorem dX7_sectionOf_66 : decode cX7_sectionOf 66 = .ok (.goto (-26), 3) := by decide +kernel
theorem dX7_sectionOf_69 : decode cX7_sectionOf 69 = .ok (.iload 4, 2) := by decide +kernel
theorem dX7_sectionOf_71 : decode cX7_sectionOf 71 = .ok (.iload_n 3, 1) := by decide +kernel
theorem dX7_sectionOf_72 : decode cX7_sectionOf 72 = .ok (.isub, 1) := by decide +kernel
theorem dX7_sectionOf_73 : decode cX7_sectionOf 73 = .ok (.iconst 1, 1) := by decide +kernel
theorem dX7_sectionOf_74 : decode cX7_sectionOf 74 = .ok (.iadd, 1) := by decide +kernel
theorem dX7_sectionOf_75 : decode cX7_sectionOf 75 = .ok (.ireturn, 1) := by decide +kernel
theorem dX7_sections_0 : decode cX7_sections 0 = .ok (.iconst 0, 1) := by decide +kernel
theorem dX7_sections_1 : decode cX7_sections 1 = .ok (.istore_n 1, 1) := by decide +kernel
theorem dX7_sections_2 : decode cX7_sections 2 = .ok (.iconst 0, 1) := by decide +kernel
theorem dX7_sections_3 : decode cX7_sections 3 = .ok (.istore_n 2, 1) := by decide +kernel
theorem dX7_sections_4 : decode cX7_sections 4 = .ok (.iload_n 2, 1) := by decide +kernel
theorem dX7_sections_5 : decode cX7_sections 5 = .ok (.aload_n 0, 1) := by decide +kernel
theorem dX7_sections_6 : decode cX7_sections 6 = .ok (.iconst 0, 1) := by decide +kernel
theorem dX7_sections_7 : decode cX7_sections 7 = .ok (.iaload, 1) := by decide +kernel
theorem dX7_sections_8 : decode cX7_sections 8 = .ok (.if_icmp .ge 47, 3) := by decide +kernel
theorem dX7_sections_11 : decode cX7_sections 11 = .ok (.iload_n 1, 1) := by decide +kernel
theorem dX7_sections_12 : decode cX7_sections 12 = .ok (.aload_n 0, 1) := by decide +kernel
theorem dX7_sections_13 : decode cX7_sections 13 = .ok (.bipush 36, 2) := by decide +kernel
theorem dX7_sections_15 : decode cX7_sections 15 = .ok (.iload_n 2, 1) := by decide +kernel
theorem dX7_sections_16 : decode cX7_sections 16 = .ok (.iadd, 1) := by decide +kernel
theorem dX7_sections_17 : decode cX7_sections 17 = .ok (.iaload, 1) := by decide +kernel
theorem dX7_sections_18 : decode cX7_sections 18 = .ok (.ifCond .lt 28, 3) := by decide +kernel
theorem dX7_sections_21 : decode cX7_sections 21 = .ok (.iload_n 2, 1) := by decide +kernel
theorem dX7_sections_22 : decode cX7_sections 22 = .ok (.ifCond .eq 20, 3) := by decide +kernel
theorem dX7_sections_25 : decode cX7_sections 25 = .ok (.aload_n 0, 1) := by decide +kernel
theorem dX7_sections_26 : decode cX7_sections 26 = .ok (.bipush 36, 2) := by decide +kernel
theorem dX7_sections_28 : decode cX7_sections 28 = .ok (.iload_n 2, 1) := by decide +kernel
theorem dX7_sections_29 : decode cX7_sections 29 = .ok (.iadd, 1) := by decide +kernel
theorem dX7_sections_30 : decode cX7_sections 30 = .ok (.iconst 1, 1) := by decide +kernel
theorem dX7_sections_31 : decode cX7_sections 31 = .ok (.isub, 1) := by decide +kernel
theorem dX7_sections_32 : decode cX7_sections 32 = .ok (.iaload, 1) := by decide +kernel
theorem dX7_sections_33 : decode cX7_sections 33 = .ok (.aload_n 0, 1) := by decide +kernel
theorem dX7_sections_34 : decode cX7_sections 34 = .ok (.bipush 36, 2) := by decide +kernel
theorem dX7_sections_36 : decode cX7_sections 36 = .ok (.iload_n 2, 1) := by decide +kernel
theorem dX7_sections_37 : decode cX7_sections 37 = .ok (.iadd, 1) := by decide +kernel
theorem dX7_sections_38 : decode cX7_sections 38 = .ok (.iaload, 1) := by decide +kernel
theorem dX7_sections_39 : decode cX7_sections 39 = .ok (.if_icmp .eq 7, 3) := by decide +kernel
theorem dX7_sections_42 : decode cX7_sections 42 = .ok (.iconst 1, 1) := by decide +kernel
theorem dX7_sections_43 : decode cX7_sections 43 = .ok (.goto 4, 3) := by decide +kernel
theorem dX7_sections_46 : decode cX7_sections 46 = .ok (.iconst 0, 1) := by decide +kernel
theorem dX7_sections_47 : decode cX7_sections 47 = .ok (.iadd, 1) := by decide +kernel
theorem dX7_sections_48 : decode cX7_sections 48 = .ok (.istore_n 1, 1) := by decide +kernel
theorem dX7_sections_49 : decode cX7_sections 49 = .ok (.iinc 2 1, 3) := by decide +kernel
theorem dX7_sections_52 : decode cX7_sections 52 = .ok (.goto (-48), 3) := by decide +kernel
theorem dX7_sections_55 : decode cX7_sections 55 = .ok (.iload_n 1, 1) := by decide +kernel
theorem dX7_sections_56 : decode cX7_sections 56 = .ok (.ireturn, 1) := by decide +kernel
theorem dX7_isSound_0 : decode cX7_isSound 0 = .ok (.iconst 1, 1) := by decide +kernel
theorem dX7_isSound_1 : decode cX7_isSound 1 = .ok (.istore_n 1, 1) := by decide +kernel
theorem dX7_isSound_2 : decode cX7_isSound 2 = .ok (.iconst 0, 1) := by decide +kernel
theorem dX7_isSound_3 : decode cX7_isSound 3 = .ok (.istore_n 2, 1) := by decide +kernel
theorem dX7_isSound_4 : decode cX7_isSound 4 = .ok (.iload_n 2, 1) := by decide +kernel
theorem dX7_isSound_5 : decode cX7_isSound 5 = .ok (.aload_n 0, 1) := by decide +kernel
theorem dX7_isSound_6 : decode cX7_isSound 6 = .ok (.iconst 0, 1) := by decide +kernel
theorem dX7_isSound_7 : decode cX7_isSound 7 = .ok (.iaload, 1) := by decide +kernel
theorem dX7_isSound_8 : decode cX7_isSound 8 = .ok (.if_icmp .ge 38, 3) := by decide +kernel
theorem dX7_isSound_11 : decode cX7_isSound 11 = .ok (.iload_n 1, 1) := by decide +kernel
theorem dX7_isSound_12 : decode cX7_isSound 12 = .ok (.ifCond .eq 26, 3) := by decide +kernel
theorem dX7_isSound_15 : decode cX7_isSound 15 = .ok (.aload_n 0, 1) := by decide +kernel
theorem dX7_isSound_16 : decode cX7_isSound 16 = .ok (.iload_n 2, 1) := by decide +kernel
theorem dX7_isSound_17 : decode cX7_isSound 17 = .ok (.invokestatic 182, 3) := by decide +kernel
theorem dX7_isSound_20 : decode cX7_isSound 20 = .ok (.ifCond .eq 18, 3) := by decide +kernel
theorem dX7_isSound_23 : decode cX7_isSound 23 = .ok (.aload_n 0, 1) := by decide +kernel
theorem dX7_isSound_24 : decode cX7_isSound 24 = .ok (.iload_n 2, 1) := by decide +kernel
theorem dX7_isSound_25 : decode cX7_isSound 25 = .ok (.invokestatic 186, 3) := by decide +kernel
theorem dX7_isSound_28 : decode cX7_isSound 28 = .ok (.aload_n 0, 1) := by decide +kernel
theorem dX7_isSound_29 : decode cX7_isSound 29 = .ok (.iconst 1, 1) := by decide +kernel
theorem dX7_isSound_30 : decode cX7_isSound 30 = .ok (.iaload, 1) := by decide +kernel
theorem dX7_isSound_31 : decode cX7_isSound 31 = .ok (.if_icmp .lt 7, 3) := by decide +kernel
theorem dX7_isSound_34 : decode cX7_isSound 34 = .ok (.iconst 1, 1) := by decide +kernel
theorem dX7_isSound_35 : decode cX7_isSound 35 = .ok (.goto 4, 3) := by decide +kernel
theorem dX7_isSound_38 : decode cX7_isSound 38 = .ok (.iconst 0, 1) := by decide +kernel
theorem dX7_isSound_39 : decode cX7_isSound 39 = .ok (.istore_n 1, 1) := by decide +kernel
theorem dX7_isSound_40 : decode cX7_isSound 40 = .ok (.iinc 2 1, 3) := by decide +kernel
theorem dX7_isSound_43 : decode cX7_isSound 43 = .ok (.goto (-39), 3) := by decide +kernel
theorem dX7_isSound_46 : decode cX7_isSound 46 = .ok (.iload_n 1, 1) := by decide +kernel
theorem dX7_isSound_47 : decode cX7_isSound 47 = .ok (.ireturn, 1) := by decide +kernel
theorem dX7_layThen_0 : decode cX7_layThen 0 = .ok (.iconst 0, 1) := by decide +kernel
theorem dX7_layThen_1 : decode cX7_layThen 1 = .ok (.istore_n 1, 1) := by decide +kernel
theorem dX7_layThen_2 : decode cX7_layThen 2 = .ok (.iload_n 1, 1) := by decide +kernel
theorem dX7_layThen_3 : decode cX7_layThen 3 = .ok (.bipush 44, 2) := by decide +kernel
theorem dX7_layThen_5 : decode cX7_layThen 5 = .ok (.if_icmp .ge 21, 3) := by decide +kernel
theorem dX7_layThen_8 : decode cX7_layThen 8 = .ok (.aload_n 0, 1) := by decide +kernel
theorem dX7_layThen_9 : decode cX7_layThen 9 = .ok (.getfield 25, 3) := by decide +kernel
theorem dX7_layThen_12 : decode cX7_layThen 12 = .ok (.iload_n 1, 1) := by decide +kernel
theorem dX7_layThen_13 : decode cX7_layThen 13 = .ok (.aload_n 0, 1) := by decide +kernel
theorem dX7_layThen_14 : decode cX7_layThen 14 = .ok (.getfield 19, 3) := by decide +kernel
theorem dX7_layThen_17 : decode cX7_layThen 17 = .ok (.iload_n 1, 1) := by decide +kernel
theorem dX7_layThen_18 : decode cX7_layThen 18 = .ok (.iaload, 1) := by decide +kernel
theorem dX7_layThen_19 : decode cX7_layThen 19 = .ok (.iastore, 1) := by decide +kernel
theorem dX7_layThen_20 : decode cX7_layThen 20 = .ok (.iinc 1 1, 3) := by decide +kernel
theorem dX7_layThen_23 : decode cX7_layThen 23 = .ok (.goto (-21), 3) := by decide +kernel
theorem dX7_layThen_26 : decode cX7_layThen 26 = .ok (.return_, 1) := by decide +kernel
theorem dX7_at_0 : decode cX7_at 0 = .ok (.iload_n 0, 1) := by decide +kernel
theorem dX7_at_1 : decode cX7_at 1 = .ok (.bipush 73, 2) := by decide +kernel
theorem dX7_at_3 : decode cX7_at 3 = .ok (.imul, 1) := by decide +kernel
theorem dX7_at_4 : decode cX7_at 4 = .ok (.iload_n 1, 1) := by decide +kernel
theorem dX7_at_5 : decode cX7_at 5 = .ok (.iadd, 1) := by decide +kernel
theorem dX7_at_6 : decode cX7_at 6 = .ok (.bipush 6, 2) := by decide +kernel
theorem dX7_at_8 : decode cX7_at 8 = .ok (.imul, 1) := by decide +kernel
theorem dX7_at_9 : decode cX7_at 9 = .ok (.iload_n 2, 1) := by decide +kernel
theorem dX7_at_10 : decode cX7_at 10 = .ok (.iadd, 1) := by decide +kernel
theorem dX7_at_11 : decode cX7_at 11 = .ok (.iconst 1, 1) := by decide +kernel
theorem dX7_at_12 : decode cX7_at 12 = .ok (.iadd, 1) := by decide +kernel
theorem dX7_at_13 : decode cX7_at 13 = .ok (.iconst 4, 1) := by decide +kernel
theorem dX7_at_14 : decode cX7_at 14 = .ok (.imul, 1) := by decide +kernel
theorem dX7_at_15 : decode cX7_at 15 = .ok (.iload_n 3, 1) := by decide +kernel
theorem dX7_at_16 : decode cX7_at 16 = .ok (.iadd, 1) := by decide +kernel
theorem dX7_at_17 : decode cX7_at 17 = .ok (.ireturn, 1) := by decide +kernel
theorem dX7_through_0 : decode cX7_through 0 = .ok (.iload_n 3, 1) := by decide +kernel
theorem dX7_through_1 : decode cX7_through 1 = .ok (.aload_n 1, 1) := by decide +kernel
theorem dX7_through_2 : decode cX7_through 2 = .ok (.iload 6, 2) := by decide +kernel
theorem dX7_through_4 : decode cX7_through 4 = .ok (.iconst 4, 1) := by decide +kernel
theorem dX7_through_5 : decode cX7_through 5 = .ok (.invokestatic 155, 3) := by decide +kernel
theorem dX7_through_8 : decode cX7_through 8 = .ok (.iadd, 1) := by decide +kernel
theorem dX7_through_9 : decode cX7_through 9 = .ok (.istore 7, 2) := by decide +kernel
theorem dX7_through_11 : decode cX7_through 11 = .ok (.iload 6, 2) := by decide +kernel
theorem dX7_through_13 : decode cX7_through 13 = .ok (.iload 4, 2) := by decide +kernel
theorem dX7_through_15 : decode cX7_through 15 = .ok (.if_icmp .eq 7, 3) := by decide +kernel
theorem dX7_through_18 : decode cX7_through 18 = .ok (.iconst 1, 1) := by decide +kernel
theorem dX7_through_19 : decode cX7_through 19 = .ok (.goto 4, 3) := by decide +kernel
theorem dX7_through_22 : decode cX7_through 22 = .ok (.iconst 0, 1) := by decide +kernel
theorem dX7_through_23 : decode cX7_through 23 = .ok (.istore 8, 2) := by decide +kernel
theorem dX7_through_25 : decode cX7_through 25 = .ok (.iload 8, 2) := by decide +kernel
theorem dX7_through_27 : decode cX7_through 27 = .ok (.ifCond .eq 16, 3) := by decide +kernel
theorem dX7_through_30 : decode cX7_through 30 = .ok (.iload 4, 2) := by decide +kernel
theorem dX7_through_32 : decode cX7_through 32 = .ok (.ifCond .lt 11, 3) := by decide +kernel
theorem dX7_through_35 : decode cX7_through 35 = .ok (.iload 5, 2) := by decide +kernel
theorem dX7_through_37 : decode cX7_through 37 = .ok (.aload_n 1, 1) := by decide +kernel
theorem dX7_through_38 : decode cX7_through 38 = .ok (.iconst 1, 1) := by decide +kernel
theorem dX7_through_39 : decode cX7_through 39 = .ok (.iaload, 1) := by decide +kernel
theorem dX7_through_40 : decode cX7_through 40 = .ok (.if_icmp .lt 15, 3) := by decide +kernel
theorem dX7_through_43 : decode cX7_through 43 = .ok (.aload_n 1, 1) := by decide +kernel
theorem dX7_through_44 : decode cX7_through 44 = .ok (.iload_n 2, 1) := by decide +kernel
theorem dX7_through_45 : decode cX7_through 45 = .ok (.iload 6, 2) := by decide +kernel
theorem dX7_through_47 : decode cX7_through 47 = .ok (.iload 7, 2) := by decide +kernel
theorem dX7_through_49 : decode cX7_through 49 = .ok (.invokestatic 178, 3) := by decide +kernel
theorem dX7_through_52 : decode cX7_through 52 = .ok (.ifCond .ne 6, 3) := by decide +kernel
theorem dX7_through_55 : decode cX7_through 55 = .ok (.ldc 189, 2) := by decide +kernel
theorem dX7_through_57 : decode cX7_through 57 = .ok (.ireturn, 1) := by decide +kernel
theorem dX7_through_58 : decode cX7_through 58 = .ok (.iload 8, 2) := by decide +kernel
theorem dX7_through_60 : decode cX7_through 60 = .ok (.ifCond .eq 7, 3) := by decide +kernel
theorem dX7_through_63 : decode cX7_through 63 = .ok (.iconst 1, 1) := by decide +kernel
theorem dX7_through_64 : decode cX7_through 64 = .ok (.goto 17, 3) := by decide +kernel
theorem dX7_through_67 : decode cX7_through 67 = .ok (.iload 5, 2) := by decide +kernel
theorem dX7_through_69 : decode cX7_through 69 = .ok (.iconst 3, 1) := by decide +kernel
theorem dX7_through_70 : decode cX7_through 70 = .ok (.if_icmp .ge 10, 3) := by decide +kernel
theorem dX7_through_73 : decode cX7_through 73 = .ok (.iload 5, 2) := by decide +kernel
theorem dX7_through_75 : decode cX7_through 75 = .ok (.iconst 1, 1) := by decide +kernel
theorem dX7_through_76 : decode cX7_through 76 = .ok (.iadd, 1) := by decide +kernel
theorem dX7_through_77 : decode cX7_through 77 = .ok (.goto 4, 3) := by decide +kernel
theorem dX7_through_80 : decode cX7_through 80 = .ok (.iconst 3, 1) := by decide +kernel
theorem dX7_through_81 : decode cX7_through 81 = .ok (.istore 9, 2) := by decide +kernel
theorem dX7_through_83 : decode cX7_through 83 = .ok (.iload_n 2, 1) := by decide +kernel
theorem dX7_through_84 : decode cX7_through 84 = .ok (.ifCond .le 23, 3) := by decide +kernel
theorem dX7_through_87 : decode cX7_through 87 = .ok (.aload_n 0, 1) := by decide +kernel
theorem dX7_through_88 : decode cX7_through 88 = .ok (.getfield 34, 3) := by decide +kernel
theorem dX7_through_91 : decode cX7_through 91 = .ok (.iload_n 2, 1) := by decide +kernel
theorem dX7_through_92 : decode cX7_through 92 = .ok (.iconst 1, 1) := by decide +kernel
theorem dX7_through_93 : decode cX7_through 93 = .ok (.isub, 1) := by decide +kernel
theorem dX7_through_94 : decode cX7_through 94 = .ok (.iload 7, 2) := by decide +kernel
theorem dX7_through_96 : decode cX7_through 96 = .ok (.iload 6, 2) := by decide +kernel
theorem dX7_through_98 : decode cX7_through 98 = .ok (.iload 9, 2) := by decide +kernel
theorem dX7_through_100 : decode cX7_through 100 = .ok (.invokestatic 190, 3) := by decide +kernel
theorem dX7_through_103 : decode cX7_through 103 = .ok (.iaload, 1) := by decide +kernel
theorem dX7_through_104 : decode cX7_through 104 = .ok (.goto 17, 3) := by decide +kernel
theorem dX7_through_107 : decode cX7_through 107 = .ok (.iload 9, 2) := by decide +kernel
theorem dX7_through_109 : decode cX7_through 109 = .ok (.aload_n 1, 1) := by decide +kernel
theorem dX7_through_110 : decode cX7_through 110 = .ok (.iconst 1, 1) := by decide +kernel
theorem dX7_through_111 : decode cX7_through 111 = .ok (.iaload, 1) := by decide +kernel
theorem dX7_through_112 : decode cX7_through 112 = .ok (.if_icmp .ge 8, 3) := by decide +kernel
theorem dX7_through_115 : decode cX7_through 115 = .ok (.ldc 189, 2) := by decide +kernel
theorem dX7_through_117 : decode cX7_through 117 = .ok (.goto 4, 3) := by decide +kernel
theorem dX7_through_120 : decode cX7_through 120 = .ok (.iconst 0, 1) := by decide +kernel
theorem dX7_through_121 : decode cX7_through 121 = .ok (.istore 10, 2) := by decide +kernel
theorem dX7_through_123 : decode cX7_through 123 = .ok (.iload 10, 2) := by decide +kernel
theorem dX7_through_125 : decode cX7_through 125 = .ok (.ldc 189, 2) := by decide +kernel
theorem dX7_through_127 : decode cX7_through 127 = .ok (.if_icmp .ne 8, 3) := by decide +kernel
theorem dX7_through_130 : decode cX7_through 130 = .ok (.ldc 189, 2) := by decide +kernel
theorem dX7_through_132 : decode cX7_through 132 = .ok (.goto 24, 3) := by decide +kernel
theorem dX7_through_135 : decode cX7_through 135 = .ok (.iload 10, 2) := by decide +kernel
theorem dX7_through_137 : decode cX7_through 137 = .ok (.bipush 100, 2) := by decide +kernel
theorem dX7_through_139 : decode cX7_through 139 = .ok (.aload_n 1, 1) := by decide +kernel
theorem dX7_through_140 : decode cX7_through 140 = .ok (.iload 6, 2) := by decide +kernel
theorem dX7_through_142 : decode cX7_through 142 = .ok (.iconst 5, 1) := by decide +kernel
theorem dX7_through_143 : decode cX7_through 143 = .ok (.invokestatic 155, 3) := by decide +kernel
theorem dX7_through_146 : decode cX7_through 146 = .ok (.imul, 1) := by decide +kernel
theorem dX7_through_147 : decode cX7_through 147 = .ok (.iadd, 1) := by decide +kernel
theorem dX7_through_148 : decode cX7_through 148 = .ok (.aload_n 1, 1) := by decide +kernel
theorem dX7_through_149 : decode cX7_through 149 = .ok (.iload 6, 2) := by decide +kernel
theorem dX7_through_151 : decode cX7_through 151 = .ok (.iconst 4, 1) := by decide +kernel
theorem dX7_through_152 : decode cX7_through 152 = .ok (.invokestatic 155, 3) := by decide +kernel
theorem dX7_through_155 : decode cX7_through 155 = .ok (.iadd, 1) := by decide +kernel
theorem dX7_through_156 : decode cX7_through 156 = .ok (.ireturn, 1) := by decide +kernel
theorem dX7_leastAt_0 : decode cX7_leastAt 0 = .ok (.ldc 189, 2) := by decide +kernel
theorem dX7_leastAt_2 : decode cX7_leastAt 2 = .ok (.istore 7, 2) := by decide +kernel
theorem dX7_leastAt_4 : decode cX7_leastAt 4 = .ok (.iconst 0, 1) := by decide +kernel
theorem dX7_leastAt_5 : decode cX7_leastAt 5 = .ok (.istore 8, 2) := by decide +kernel
theorem dX7_leastAt_7 : decode cX7_leastAt 7 = .ok (.iload 8, 2) := by decide +kernel
theorem dX7_leastAt_9 : decode cX7_leastAt 9 = .ok (.aload_n 1, 1) := by decide +kernel
theorem dX7_leastAt_10 : decode cX7_leastAt 10 = .ok (.iconst 5, 1) := by decide +kernel
theorem dX7_leastAt_11 : decode cX7_leastAt 11 = .ok (.iaload, 1) := by decide +kernel
theorem dX7_leastAt_12 : decode cX7_leastAt 12 = .ok (.if_icmp .ge 52, 3) := by decide +kernel
theorem dX7_leastAt_15 : decode cX7_leastAt 15 = .ok (.iload 8, 2) := by decide +kernel
theorem dX7_leastAt_17 : decode cX7_leastAt 17 = .ok (.iload 6, 2) := by decide +kernel
theorem dX7_leastAt_19 : decode cX7_leastAt 19 = .ok (.if_icmp .ne 8, 3) := by decide +kernel
theorem dX7_leastAt_22 : decode cX7_leastAt 22 = .ok (.ldc 189, 2) := by decide +kernel
theorem dX7_leastAt_24 : decode cX7_leastAt 24 = .ok (.goto 16, 3) := by decide +kernel
theorem dX7_leastAt_27 : decode cX7_leastAt 27 = .ok (.aload_n 0, 1) := by decide +kernel
theorem dX7_leastAt_28 : decode cX7_leastAt 28 = .ok (.aload_n 1, 1) := by decide +kernel
theorem dX7_leastAt_29 : decode cX7_leastAt 29 = .ok (.iload_n 2, 1) := by decide +kernel
theorem dX7_leastAt_30 : decode cX7_leastAt 30 = .ok (.iload_n 3, 1) := by decide +kernel
theorem dX7_leastAt_31 : decode cX7_leastAt 31 = .ok (.iload 4, 2) := by decide +kernel
theorem dX7_leastAt_33 : decode cX7_leastAt 33 = .ok (.iload 5, 2) := by decide +kernel
theorem dX7_leastAt_35 : decode cX7_leastAt 35 = .ok (.iload 8, 2) := by decide +kernel
theorem dX7_leastAt_37 : decode cX7_leastAt 37 = .ok (.invokevirtual 194, 3) := by decide +kernel
theorem dX7_leastAt_40 : decode cX7_leastAt 40 = .ok (.istore 9, 2) := by decide +kernel
theorem dX7_leastAt_42 : decode cX7_leastAt 42 = .ok (.iload 9, 2) := by decide +kernel
theorem dX7_leastAt_44 : decode cX7_leastAt 44 = .ok (.iload 7, 2) := by decide +kernel
theorem dX7_leastAt_46 : decode cX7_leastAt 46 = .ok (.if_icmp .ge 8, 3) := by decide +kernel
theorem dX7_leastAt_49 : decode cX7_leastAt 49 = .ok (.iload 9, 2) := by decide +kernel
theorem dX7_leastAt_51 : decode cX7_leastAt 51 = .ok (.goto 5, 3) := by decide +kernel
theorem dX7_leastAt_54 : decode cX7_leastAt 54 = .ok (.iload 7, 2) := by decide +kernel
theorem dX7_leastAt_56 : decode cX7_leastAt 56 = .ok (.istore 7, 2) := by decide +kernel
theorem dX7_leastAt_58 : decode cX7_leastAt 58 = .ok (.iinc 8 1, 3) := by decide +kernel
theorem dX7_leastAt_61 : decode cX7_leastAt 61 = .ok (.goto (-54), 3) := by decide +kernel
theorem dX7_leastAt_64 : decode cX7_leastAt 64 = .ok (.iload 7, 2) := by decide +kernel
theorem dX7_leastAt_66 : decode cX7_leastAt 66 = .ok (.ireturn, 1) := by decide +kernel
theorem dX7_laysBest_0 : decode cX7_laysBest 0 = .ok (.aload_n 1, 1) := by decide +kernel
theorem dX7_laysBest_1 : decode cX7_laysBest 1 = .ok (.iconst 0, 1) := by decide +kernel
theorem dX7_laysBest_2 : decode cX7_laysBest 2 = .ok (.iaload, 1) := by decide +kernel
theorem dX7_laysBest_3 : decode cX7_laysBest 3 = .ok (.iconst 1, 1) := by decide +kernel
theorem dX7_laysBest_4 : decode cX7_laysBest 4 = .ok (.isub, 1) := by decide +kernel
theorem dX7_laysBest_5 : decode cX7_laysBest 5 = .ok (.istore_n 3, 1) := by decide +kernel
theorem dX7_laysBest_6 : decode cX7_laysBest 6 = .ok (.iconst 0, 1) := by decide +kernel
theorem dX7_laysBest_7 : decode cX7_laysBest 7 = .ok (.istore 4, 2) := by decide +kernel
theorem dX7_laysBest_9 : decode cX7_laysBest 9 = .ok (.iload 4, 2) := by decide +kernel
theorem dX7_laysBest_11 : decode cX7_laysBest 11 = .ok (.iload_n 3, 1) := by decide +kernel
theorem dX7_laysBest_12 : decode cX7_laysBest 12 = .ok (.if_icmp .ge 92, 3) := by decide +kernel
theorem dX7_laysBest_15 : decode cX7_laysBest 15 = .ok (.iconst 0, 1) := by decide +kernel
theorem dX7_laysBest_16 : decode cX7_laysBest 16 = .ok (.istore 5, 2) := by decide +kernel
theorem dX7_laysBest_18 : decode cX7_laysBest 18 = .ok (.iload 5, 2) := by decide +kernel
theorem dX7_laysBest_20 : decode cX7_laysBest 20 = .ok (.bipush 9, 2) := by decide +kernel
theorem dX7_laysBest_22 : decode cX7_laysBest 22 = .ok (.iload_n 3, 1) := by decide +kernel
theorem dX7_laysBest_23 : decode cX7_laysBest 23 = .ok (.iload 4, 2) := by decide +kernel
theorem dX7_laysBest_25 : decode cX7_laysBest 25 = .ok (.isub, 1) := by decide +kernel
theorem dX7_laysBest_26 : decode cX7_laysBest 26 = .ok (.imul, 1) := by decide +kernel
theorem dX7_laysBest_27 : decode cX7_laysBest 27 = .ok (.if_icmp .gt 71, 3) := by decide +kernel
theorem dX7_laysBest_30 : decode cX7_laysBest 30 = .ok (.iconst 0, 1) := by decide +kernel
theorem dX7_laysBest_31 : decode cX7_laysBest 31 = .ok (.istore 6, 2) := by decide +kernel
theorem dX7_laysBest_33 : decode cX7_laysBest 33 = .ok (.iload 6, 2) := by decide +kernel
theorem dX7_laysBest_35 : decode cX7_laysBest 35 = .ok (.aload_n 1, 1) := by decide +kernel
theorem dX7_laysBest_36 : decode cX7_laysBest 36 = .ok (.iconst 5, 1) := by decide +kernel
theorem dX7_laysBest_37 : decode cX7_laysBest 37 = .ok (.iaload, 1) := by decide +kernel
theorem dX7_laysBest_38 : decode cX7_laysBest 38 = .ok (.if_icmp .ge 54, 3) := by decide +kernel
theorem dX7_laysBest_41 : decode cX7_laysBest 41 = .ok (.iconst 1, 1) := by decide +kernel
theorem dX7_laysBest_42 : decode cX7_laysBest 42 = .ok (.istore 7, 2) := by decide +kernel
theorem dX7_laysBest_44 : decode cX7_laysBest 44 = .ok (.iload 7, 2) := by decide +kernel
theorem dX7_laysBest_46 : decode cX7_laysBest 46 = .ok (.iconst 4, 1) := by decide +kernel
theorem dX7_laysBest_47 : decode cX7_laysBest 47 = .ok (.if_icmp .ge 39, 3) := by decide +kernel
theorem dX7_laysBest_50 : decode cX7_laysBest 50 = .ok (.aload_n 0, 1) := by decide +kernel
theorem dX7_laysBest_51 : decode cX7_laysBest 51 = .ok (.getfield 34, 3) := by decide +kernel
theorem dX7_laysBest_54 : decode cX7_laysBest 54 = .ok (.iload 4, 2) := by decide +kernel
theorem dX7_laysBest_56 : decode cX7_laysBest 56 = .ok (.iload 5, 2) := by decide +kernel
theorem dX7_laysBest_58 : decode cX7_laysBest 58 = .ok (.iload 6, 2) := by decide +kernel
theorem dX7_laysBest_60 : decode cX7_laysBest 60 = .ok (.iload 7, 2) := by decide +kernel
theorem dX7_laysBest_62 : decode cX7_laysBest 62 = .ok (.invokestatic 190, 3) := by decide +kernel
theorem dX7_laysBest_65 : decode cX7_laysBest 65 = .ok (.aload_n 0, 1) := by decide +kernel
theorem dX7_laysBest_66 : decode cX7_laysBest 66 = .ok (.aload_n 1, 1) := by decide +kernel
theorem dX7_laysBest_67 : decode cX7_laysBest 67 = .ok (.iload 4, 2) := by decide +kernel
theorem dX7_laysBest_69 : decode cX7_laysBest 69 = .ok (.iload 5, 2) := by decide +kernel
theorem dX7_laysBest_71 : decode cX7_laysBest 71 = .ok (.iload 6, 2) := by decide +kernel
theorem dX7_laysBest_73 : decode cX7_laysBest 73 = .ok (.iload 7, 2) := by decide +kernel
theorem dX7_laysBest_75 : decode cX7_laysBest 75 = .ok (.iload_n 2, 1) := by decide +kernel
theorem dX7_laysBest_76 : decode cX7_laysBest 76 = .ok (.invokevirtual 198, 3) := by decide +kernel
theorem dX7_laysBest_79 : decode cX7_laysBest 79 = .ok (.iastore, 1) := by decide +kernel
theorem dX7_laysBest_80 : decode cX7_laysBest 80 = .ok (.iinc 7 1, 3) := by decide +kernel
theorem dX7_laysBest_83 : decode cX7_laysBest 83 = .ok (.goto (-39), 3) := by decide +kernel
theorem dX7_laysBest_86 : decode cX7_laysBest 86 = .ok (.iinc 6 1, 3) := by decide +kernel
theorem dX7_laysBest_89 : decode cX7_laysBest 89 = .ok (.goto (-56), 3) := by decide +kernel
theorem dX7_laysBest_92 : decode cX7_laysBest 92 = .ok (.iinc 5 1, 3) := by decide +kernel
theorem dX7_laysBest_95 : decode cX7_laysBest 95 = .ok (.goto (-77), 3) := by decide +kernel
theorem dX7_laysBest_98 : decode cX7_laysBest 98 = .ok (.iinc 4 1, 3) := by decide +kernel
theorem dX7_laysBest_101 : decode cX7_laysBest 101 = .ok (.goto (-92), 3) := by decide +kernel
theorem dX7_laysBest_104 : decode cX7_laysBest 104 = .ok (.aload_n 0, 1) := by decide +kernel
theorem dX7_laysBest_105 : decode cX7_laysBest 105 = .ok (.aload_n 1, 1) := by decide +kernel
theorem dX7_laysBest_106 : decode cX7_laysBest 106 = .ok (.iload_n 3, 1) := by decide +kernel
theorem dX7_laysBest_107 : decode cX7_laysBest 107 = .ok (.iconst 0, 1) := by decide +kernel
theorem dX7_laysBest_108 : decode cX7_laysBest 108 = .ok (.iconst (-1), 1) := by decide +kernel
theorem dX7_laysBest_109 : decode cX7_laysBest 109 = .ok (.iconst 0, 1) := by decide +kernel
theorem dX7_laysBest_110 : decode cX7_laysBest 110 = .ok (.iload_n 2, 1) := by decide +kernel
theorem dX7_laysBest_111 : decode cX7_laysBest 111 = .ok (.invokevirtual 198, 3) := by decide +kernel
theorem dX7_laysBest_114 : decode cX7_laysBest 114 = .ok (.istore 4, 2) := by decide +kernel
theorem dX7_laysBest_116 : decode cX7_laysBest 116 = .ok (.iload 4, 2) := by decide +kernel
theorem dX7_laysBest_118 : decode cX7_laysBest 118 = .ok (.istore 5, 2) := by decide +kernel
theorem dX7_laysBest_120 : decode cX7_laysBest 120 = .ok (.iconst 0, 1) := by decide +kernel
theorem dX7_laysBest_121 : decode cX7_laysBest 121 = .ok (.istore 6, 2) := by decide +kernel
theorem dX7_laysBest_123 : decode cX7_laysBest 123 = .ok (.iconst (-1), 1) := by decide +kernel
theorem dX7_laysBest_124 : decode cX7_laysBest 124 = .ok (.istore 7, 2) := by decide +kernel
theorem dX7_laysBest_126 : decode cX7_laysBest 126 = .ok (.iconst 0, 1) := by decide +kernel
theorem dX7_laysBest_127 : decode cX7_laysBest 127 = .ok (.istore 8, 2) := by decide +kernel
theorem dX7_laysBest_129 : decode cX7_laysBest 129 = .ok (.iload_n 3, 1) := by decide +kernel
theorem dX7_laysBest_130 : decode cX7_laysBest 130 = .ok (.istore 9, 2) := by decide +kernel
theorem dX7_laysBest_132 : decode cX7_laysBest 132 = .ok (.iload 9, 2) := by decide +kernel
theorem dX7_laysBest_134 : decode cX7_laysBest 134 = .ok (.ifCond .lt 126, 3) := by decide +kernel
theorem dX7_laysBest_137 : decode cX7_laysBest 137 = .ok (.iload 4, 2) := by decide +kernel
theorem dX7_laysBest_139 : decode cX7_laysBest 139 = .ok (.ldc 189, 2) := by decide +kernel
theorem dX7_laysBest_141 : decode cX7_laysBest 141 = .ok (.if_icmp .ge 119, 3) := by decide +kernel
theorem dX7_laysBest_144 : decode cX7_laysBest 144 = .ok (.iconst 0, 1) := by decide +kernel
theorem dX7_laysBest_145 : decode cX7_laysBest 145 = .ok (.istore 10, 2) := by decide +kernel
theorem dX7_laysBest_147 : decode cX7_laysBest 147 = .ok (.iload 10, 2) := by decide +kernel
theorem dX7_laysBest_149 : decode cX7_laysBest 149 = .ok (.iload_n 2, 1) := by decide +kernel
theorem dX7_laysBest_150 : decode cX7_laysBest 150 = .ok (.if_icmp .eq 23, 3) := by decide +kernel
theorem dX7_laysBest_153 : decode cX7_laysBest 153 = .ok (.aload_n 0, 1) := by decide +kernel
theorem dX7_laysBest_154 : decode cX7_laysBest 154 = .ok (.aload_n 1, 1) := by decide +kernel
theorem dX7_laysBest_155 : decode cX7_laysBest 155 = .ok (.iload 9, 2) := by decide +kernel
theorem dX7_laysBest_157 : decode cX7_laysBest 157 = .ok (.iload 6, 2) := by decide +kernel
theorem dX7_laysBest_159 : decode cX7_laysBest 159 = .ok (.iload 7, 2) := by decide +kernel
theorem dX7_laysBest_161 : decode cX7_laysBest 161 = .ok (.iload 8, 2) := by decide +kernel
theorem dX7_laysBest_163 : decode cX7_laysBest 163 = .ok (.iload 10, 2) := by decide +kernel
theorem dX7_laysBest_165 : decode cX7_laysBest 165 = .ok (.invokevirtual 194, 3) := by decide +kernel
theorem dX7_laysBest_168 : decode cX7_laysBest 168 = .ok (.iload 5, 2) := by decide +kernel
theorem dX7_laysBest_170 : decode cX7_laysBest 170 = .ok (.if_icmp .eq 9, 3) := by decide +kernel
theorem dX7_laysBest_173 : decode cX7_laysBest 173 = .ok (.iinc 10 1, 3) := by decide +kernel
theorem dX7_laysBest_176 : decode cX7_laysBest 176 = .ok (.goto (-29), 3) := by decide +kernel
theorem dX7_laysBest_179 : decode cX7_laysBest 179 = .ok (.aload_n 0, 1) := by decide +kernel
theorem dX7_laysBest_180 : decode cX7_laysBest 180 = .ok (.getfield 37, 3) := by decide +kernel
theorem dX7_laysBest_183 : decode cX7_laysBest 183 = .ok (.iload 9, 2) := by decide +kernel
theorem dX7_laysBest_185 : decode cX7_laysBest 185 = .ok (.iload 10, 2) := by decide +kernel
theorem dX7_laysBest_187 : decode cX7_laysBest 187 = .ok (.iastore, 1) := by decide +kernel
theorem dX7_laysBest_188 : decode cX7_laysBest 188 = .ok (.iload 10, 2) := by decide +kernel
theorem dX7_laysBest_190 : decode cX7_laysBest 190 = .ok (.iload 7, 2) := by decide +kernel
theorem dX7_laysBest_192 : decode cX7_laysBest 192 = .ok (.if_icmp .eq 7, 3) := by decide +kernel
theorem dX7_laysBest_195 : decode cX7_laysBest 195 = .ok (.iconst 1, 1) := by decide +kernel
theorem dX7_laysBest_196 : decode cX7_laysBest 196 = .ok (.goto 17, 3) := by decide +kernel
theorem dX7_laysBest_199 : decode cX7_laysBest 199 = .ok (.iload 8, 2) := by decide +kernel
theorem dX7_laysBest_201 : decode cX7_laysBest 201 = .ok (.iconst 3, 1) := by decide +kernel
theorem dX7_laysBest_202 : decode cX7_laysBest 202 = .ok (.if_icmp .ge 10, 3) := by decide +kernel
theorem dX7_laysBest_205 : decode cX7_laysBest 205 = .ok (.iload 8, 2) := by decide +kernel
theorem dX7_laysBest_207 : decode cX7_laysBest 207 = .ok (.iconst 1, 1) := by decide +kernel
theorem dX7_laysBest_208 : decode cX7_laysBest 208 = .ok (.iadd, 1) := by decide +kernel
theorem dX7_laysBest_209 : decode cX7_laysBest 209 = .ok (.goto 4, 3) := by decide +kernel
theorem dX7_laysBest_212 : decode cX7_laysBest 212 = .ok (.iconst 3, 1) := by decide +kernel
theorem dX7_laysBest_213 : decode cX7_laysBest 213 = .ok (.istore 8, 2) := by decide +kernel
theorem dX7_laysBest_215 : decode cX7_laysBest 215 = .ok (.iload 10, 2) := by decide +kernel
theorem dX7_laysBest_217 : decode cX7_laysBest 217 = .ok (.istore 7, 2) := by decide +kernel
theorem dX7_laysBest_219 : decode cX7_laysBest 219 = .ok (.iload 6, 2) := by decide +kernel
theorem dX7_laysBest_221 : decode cX7_laysBest 221 = .ok (.aload_n 1, 1) := by decide +kernel
theorem dX7_laysBest_222 : decode cX7_laysBest 222 = .ok (.iload 10, 2) := by decide +kernel
theorem dX7_laysBest_224 : decode cX7_laysBest 224 = .ok (.iconst 4, 1) := by decide +kernel
theorem dX7_laysBest_225 : decode cX7_laysBest 225 = .ok (.invokestatic 155, 3) := by decide +kernel
theorem dX7_laysBest_228 : decode cX7_laysBest 228 = .ok (.iadd, 1) := by decide +kernel
theorem dX7_laysBest_229 : decode cX7_laysBest 229 = .ok (.istore 6, 2) := by decide +kernel
theorem dX7_laysBest_231 : decode cX7_laysBest 231 = .ok (.iload 5, 2) := by decide +kernel
theorem dX7_laysBest_233 : decode cX7_laysBest 233 = .ok (.bipush 100, 2) := by decide +kernel
theorem dX7_laysBest_235 : decode cX7_laysBest 235 = .ok (.aload_n 1, 1) := by decide +kernel
theorem dX7_laysBest_236 : decode cX7_laysBest 236 = .ok (.iload 10, 2) := by decide +kernel
theorem dX7_laysBest_238 : decode cX7_laysBest 238 = .ok (.iconst 5, 1) := by decide +kernel
theorem dX7_laysBest_239 : decode cX7_laysBest 239 = .ok (.invokestatic 155, 3) := by decide +kernel
theorem dX7_laysBest_242 : decode cX7_laysBest 242 = .ok (.imul, 1) := by decide +kernel
theorem dX7_laysBest_243 : decode cX7_laysBest 243 = .ok (.aload_n 1, 1) := by decide +kernel
theorem dX7_laysBest_244 : decode cX7_laysBest 244 = .ok (.iload 10, 2) := by decide +kernel
theorem dX7_laysBest_246 : decode cX7_laysBest 246 = .ok (.iconst 4, 1) := by decide +kernel
theorem dX7_laysBest_247 : decode cX7_laysBest 247 = .ok (.invokestatic 155, 3) := by decide +kernel
theorem dX7_laysBest_250 : decode cX7_laysBest 250 = .ok (.iadd, 1) := by decide +kernel
theorem dX7_laysBest_251 : decode cX7_laysBest 251 = .ok (.isub, 1) := by decide +kernel
theorem dX7_laysBest_252 : decode cX7_laysBest 252 = .ok (.istore 5, 2) := by decide +kernel
theorem dX7_laysBest_254 : decode cX7_laysBest 254 = .ok (.iinc 9 (-1), 3) := by decide +kernel
theorem dX7_laysBest_257 : decode cX7_laysBest 257 = .ok (.goto (-125), 3) := by decide +kernel
theorem dX7_laysBest_260 : decode cX7_laysBest 260 = .ok (.iload 4, 2) := by decide +kernel
theorem dX7_laysBest_262 : decode cX7_laysBest 262 = .ok (.ireturn, 1) := by decide +kernel
theorem dX7_keep_0 : decode cX7_keep 0 = .ok (.aload_n 0, 1) := by decide +kernel
theorem dX7_keep_1 : decode cX7_keep 1 = .ok (.getfield 152, 3) := by decide +kernel
theorem dX7_keep_4 : decode cX7_keep 4 = .ok (.bipush 24, 2) := by decide +kernel
theorem dX7_keep_6 : decode cX7_keep 6 = .ok (.if_icmp .ne 43, 3) := by decide +kernel
theorem dX7_keep_9 : decode cX7_keep 9 = .ok (.iconst 0, 1) := by decide +kernel
theorem dX7_keep_10 : decode cX7_keep 10 = .ok (.istore_n 1, 1) := by decide +kernel
theorem dX7_keep_11 : decode cX7_keep 11 = .ok (.iload_n 1, 1) := by decide +kernel
theorem dX7_keep_12 : decode cX7_keep 12 = .ok (.sipush 1012, 3) := by decide +kernel
theorem dX7_keep_15 : decode cX7_keep 15 = .ok (.if_icmp .ge 24, 3) := by decide +kernel
theorem dX7_keep_18 : decode cX7_keep 18 = .ok (.aload_n 0, 1) := by decide +kernel
theorem dX7_keep_19 : decode cX7_keep 19 = .ok (.getfield 28, 3) := by decide +kernel
theorem dX7_keep_22 : decode cX7_keep 22 = .ok (.iload_n 1, 1) := by decide +kernel
theorem dX7_keep_23 : decode cX7_keep 23 = .ok (.aload_n 0, 1) := by decide +kernel
theorem dX7_keep_24 : decode cX7_keep 24 = .ok (.getfield 28, 3) := by decide +kernel
theorem dX7_keep_27 : decode cX7_keep 27 = .ok (.iload_n 1, 1) := by decide +kernel
theorem dX7_keep_28 : decode cX7_keep 28 = .ok (.bipush 44, 2) := by decide +kernel
theorem dX7_keep_30 : decode cX7_keep 30 = .ok (.iadd, 1) := by decide +kernel
theorem dX7_keep_31 : decode cX7_keep 31 = .ok (.iaload, 1) := by decide +kernel
theorem dX7_keep_32 : decode cX7_keep 32 = .ok (.iastore, 1) := by decide +kernel
theorem dX7_keep_33 : decode cX7_keep 33 = .ok (.iinc 1 1, 3) := by decide +kernel
theorem dX7_keep_36 : decode cX7_keep 36 = .ok (.goto (-25), 3) := by decide +kernel
theorem dX7_keep_39 : decode cX7_keep 39 = .ok (.aload_n 0, 1) := by decide +kernel
theorem dX7_keep_40 : decode cX7_keep 40 = .ok (.dup, 1) := by decide +kernel
theorem dX7_keep_41 : decode cX7_keep 41 = .ok (.getfield 152, 3) := by decide +kernel
theorem dX7_keep_44 : decode cX7_keep 44 = .ok (.iconst 1, 1) := by decide +kernel
theorem dX7_keep_45 : decode cX7_keep 45 = .ok (.isub, 1) := by decide +kernel
theorem dX7_keep_46 : decode cX7_keep 46 = .ok (.putfield 152, 3) := by decide +kernel
theorem dX7_keep_49 : decode cX7_keep 49 = .ok (.iconst 0, 1) := by decide +kernel
theorem dX7_keep_50 : decode cX7_keep 50 = .ok (.istore_n 1, 1) := by decide +kernel
theorem dX7_keep_51 : decode cX7_keep 51 = .ok (.iload_n 1, 1) := by decide +kernel
theorem dX7_keep_52 : decode cX7_keep 52 = .ok (.bipush 44, 2) := by decide +kernel
theorem dX7_keep_54 : decode cX7_keep 54 = .ok (.if_icmp .ge 29, 3) := by decide +kernel
theorem dX7_keep_57 : decode cX7_keep 57 = .ok (.aload_n 0, 1) := by decide +kernel
theorem dX7_keep_58 : decode cX7_keep 58 = .ok (.getfield 28, 3) := by decide +kernel
theorem dX7_keep_61 : decode cX7_keep 61 = .ok (.bipush 44, 2) := by decide +kernel
theorem dX7_keep_63 : decode cX7_keep 63 = .ok (.aload_n 0, 1) := by decide +kernel
theorem dX7_keep_64 : decode cX7_keep 64 = .ok (.getfield 152, 3) := by decide +kernel
theorem dX7_keep_67 : decode cX7_keep 67 = .ok (.imul, 1) := by decide +kernel
theorem dX7_keep_68 : decode cX7_keep 68 = .ok (.iload_n 1, 1) := by decide +kernel
theorem dX7_keep_69 : decode cX7_keep 69 = .ok (.iadd, 1) := by decide +kernel
theorem dX7_keep_70 : decode cX7_keep 70 = .ok (.aload_n 0, 1) := by decide +kernel
theorem dX7_keep_71 : decode cX7_keep 71 = .ok (.getfield 19, 3) := by decide +kernel
theorem dX7_keep_74 : decode cX7_keep 74 = .ok (.iload_n 1, 1) := by decide +kernel
theorem dX7_keep_75 : decode cX7_keep 75 = .ok (.iaload, 1) := by decide +kernel
theorem dX7_keep_76 : decode cX7_keep 76 = .ok (.iastore, 1) := by decide +kernel
theorem dX7_keep_77 : decode cX7_keep 77 = .ok (.iinc 1 1, 3) := by decide +kernel
theorem dX7_keep_80 : decode cX7_keep 80 = .ok (.goto (-29), 3) := by decide +kernel
theorem dX7_keep_83 : decode cX7_keep 83 = .ok (.aload_n 0, 1) := by decide +kernel
theorem dX7_keep_84 : decode cX7_keep 84 = .ok (.dup, 1) := by decide +kernel
theorem dX7_keep_85 : decode cX7_keep 85 = .ok (.getfield 152, 3) := by decide +kernel
theorem dX7_keep_88 : decode cX7_keep 88 = .ok (.iconst 1, 1) := by decide +kernel
theorem dX7_keep_89 : decode cX7_keep 89 = .ok (.iadd, 1) := by decide +kernel
theorem dX7_keep_90 : decode cX7_keep 90 = .ok (.putfield 152, 3) := by decide +kernel
theorem dX7_keep_93 : decode cX7_keep 93 = .ok (.return_, 1) := by decide +kernel
theorem dX7_lay_0 : decode cX7_lay 0 = .ok (.aload_n 0, 1) := by decide +kernel
theorem dX7_lay_1 : decode cX7_lay 1 = .ok (.iconst 0, 1) := by decide +kernel
theorem dX7_lay_2 : decode cX7_lay 2 = .ok (.putfield 53, 3) := by decide +kernel
theorem dX7_lay_5 : decode cX7_lay 5 = .ok (.aload_n 0, 1) := by decide +kernel
theorem dX7_lay_6 : decode cX7_lay 6 = .ok (.iload_n 1, 1) := by decide +kernel
theorem dX7_lay_7 : decode cX7_lay 7 = .ok (.invokevirtual 201, 3) := by decide +kernel
theorem dX7_lay_10 : decode cX7_lay 10 = .ok (.ifCond .eq 16, 3) := by decide +kernel
theorem dX7_lay_13 : decode cX7_lay 13 = .ok (.iload_n 2, 1) := by decide +kernel
theorem dX7_lay_14 : decode cX7_lay 14 = .ok (.iconst (-1), 1) := by decide +kernel
theorem dX7_lay_15 : decode cX7_lay 15 = .ok (.if_icmp .eq 14, 3) := by decide +kernel
theorem dX7_lay_18 : decode cX7_lay 18 = .ok (.aload_n 0, 1) := by decide +kernel
theorem dX7_lay_19 : decode cX7_lay 19 = .ok (.iload_n 2, 1) := by decide +kernel
theorem dX7_lay_20 : decode cX7_lay 20 = .ok (.invokevirtual 204, 3) := by decide +kernel
theorem dX7_lay_23 : decode cX7_lay 23 = .ok (.ifCond .ne 6, 3) := by decide +kernel
theorem dX7_lay_26 : decode cX7_lay 26 = .ok (.ldc 73, 2) := by decide +kernel
theorem dX7_lay_28 : decode cX7_lay 28 = .ok (.ireturn, 1) := by decide +kernel
theorem dX7_lay_29 : decode cX7_lay 29 = .ok (.aload_n 0, 1) := by decide +kernel
theorem dX7_lay_30 : decode cX7_lay 30 = .ok (.getfield 19, 3) := by decide +kernel
theorem dX7_lay_33 : decode cX7_lay 33 = .ok (.bipush 36, 2) := by decide +kernel
theorem dX7_lay_35 : decode cX7_lay 35 = .ok (.iload_n 1, 1) := by decide +kernel
theorem dX7_lay_36 : decode cX7_lay 36 = .ok (.iadd, 1) := by decide +kernel
theorem dX7_lay_37 : decode cX7_lay 37 = .ok (.iaload, 1) := by decide +kernel
theorem dX7_lay_38 : decode cX7_lay 38 = .ok (.istore_n 3, 1) := by decide +kernel
theorem dX7_lay_39 : decode cX7_lay 39 = .ok (.iload_n 3, 1) := by decide +kernel
theorem dX7_lay_40 : decode cX7_lay 40 = .ok (.iload_n 2, 1) := by decide +kernel
theorem dX7_lay_41 : decode cX7_lay 41 = .ok (.if_icmp .ne 6, 3) := by decide +kernel
theorem dX7_lay_44 : decode cX7_lay 44 = .ok (.ldc 207, 2) := by decide +kernel
theorem dX7_lay_46 : decode cX7_lay 46 = .ok (.ireturn, 1) := by decide +kernel
theorem dX7_lay_47 : decode cX7_lay 47 = .ok (.aload_n 0, 1) := by decide +kernel
theorem dX7_lay_48 : decode cX7_lay 48 = .ok (.invokevirtual 208, 3) := by decide +kernel
theorem dX7_lay_51 : decode cX7_lay 51 = .ok (.aload_n 0, 1) := by decide +kernel
theorem dX7_lay_52 : decode cX7_lay 52 = .ok (.getfield 19, 3) := by decide +kernel
theorem dX7_lay_55 : decode cX7_lay 55 = .ok (.bipush 36, 2) := by decide +kernel
theorem dX7_lay_57 : decode cX7_lay 57 = .ok (.iload_n 1, 1) := by decide +kernel
theorem dX7_lay_58 : decode cX7_lay 58 = .ok (.iadd, 1) := by decide +kernel
theorem dX7_lay_59 : decode cX7_lay 59 = .ok (.iload_n 2, 1) := by decide +kernel
theorem dX7_lay_60 : decode cX7_lay 60 = .ok (.iastore, 1) := by decide +kernel
theorem dX7_lay_61 : decode cX7_lay 61 = .ok (.iload_n 3, 1) := by decide +kernel
theorem dX7_lay_62 : decode cX7_lay 62 = .ok (.ireturn, 1) := by decide +kernel
theorem dX7_layBest_0 : decode cX7_layBest 0 = .ok (.aload_n 0, 1) := by decide +kernel
theorem dX7_layBest_1 : decode cX7_layBest 1 = .ok (.iconst 0, 1) := by decide +kernel
theorem dX7_layBest_2 : decode cX7_layBest 2 = .ok (.putfield 53, 3) := by decide +kernel
theorem dX7_layBest_5 : decode cX7_layBest 5 = .ok (.aload_n 0, 1) := by decide +kernel
theorem dX7_layBest_6 : decode cX7_layBest 6 = .ok (.invokevirtual 211, 3) := by decide +kernel
theorem dX7_layBest_9 : decode cX7_layBest 9 = .ok (.ifCond .ne 6, 3) := by decide +kernel
theorem dX7_layBest_12 : decode cX7_layBest 12 = .ok (.ldc 207, 2) := by decide +kernel
theorem dX7_layBest_14 : decode cX7_layBest 14 = .ok (.ireturn, 1) := by decide +kernel
theorem dX7_layBest_15 : decode cX7_layBest 15 = .ok (.aload_n 0, 1) := by decide +kernel
theorem dX7_layBest_16 : decode cX7_layBest 16 = .ok (.aload_n 0, 1) := by decide +kernel
theorem dX7_layBest_17 : decode cX7_layBest 17 = .ok (.getfield 19, 3) := by decide +kernel
theorem dX7_layBest_20 : decode cX7_layBest 20 = .ok (.iconst (-1), 1) := by decide +kernel
theorem dX7_layBest_21 : decode cX7_layBest 21 = .ok (.invokevirtual 214, 3) := by decide +kernel
theorem dX7_layBest_24 : decode cX7_layBest 24 = .ok (.ldc 189, 2) := by decide +kernel
theorem dX7_layBest_26 : decode cX7_layBest 26 = .ok (.if_icmp .ne 6, 3) := by decide +kernel
theorem dX7_layBest_29 : decode cX7_layBest 29 = .ok (.ldc 96, 2) := by decide +kernel
theorem dX7_layBest_31 : decode cX7_layBest 31 = .ok (.ireturn, 1) := by decide +kernel
theorem dX7_layBest_32 : decode cX7_layBest 32 = .ok (.aload_n 0, 1) := by decide +kernel
theorem dX7_layBest_33 : decode cX7_layBest 33 = .ok (.invokevirtual 208, 3) := by decide +kernel
theorem dX7_layBest_36 : decode cX7_layBest 36 = .ok (.iconst 0, 1) := by decide +kernel
theorem dX7_layBest_37 : decode cX7_layBest 37 = .ok (.istore_n 1, 1) := by decide +kernel
theorem dX7_layBest_38 : decode cX7_layBest 38 = .ok (.iload_n 1, 1) := by decide +kernel
theorem dX7_layBest_39 : decode cX7_layBest 39 = .ok (.aload_n 0, 1) := by decide +kernel
theorem dX7_layBest_40 : decode cX7_layBest 40 = .ok (.getfield 19, 3) := by decide +kernel
theorem dX7_layBest_43 : decode cX7_layBest 43 = .ok (.iconst 0, 1) := by decide +kernel
theorem dX7_layBest_44 : decode cX7_layBest 44 = .ok (.iaload, 1) := by decide +kernel
theorem dX7_layBest_45 : decode cX7_layBest 45 = .ok (.if_icmp .ge 24, 3) := by decide +kernel
theorem dX7_layBest_48 : decode cX7_layBest 48 = .ok (.aload_n 0, 1) := by decide +kernel
theorem dX7_layBest_49 : decode cX7_layBest 49 = .ok (.getfield 19, 3) := by decide +kernel
theorem dX7_layBest_52 : decode cX7_layBest 52 = .ok (.bipush 36, 2) := by decide +kernel
theorem dX7_layBest_54 : decode cX7_layBest 54 = .ok (.iload_n 1, 1) := by decide +kernel
theorem dX7_layBest_55 : decode cX7_layBest 55 = .ok (.iadd, 1) := by decide +kernel
theorem dX7_layBest_56 : decode cX7_layBest 56 = .ok (.aload_n 0, 1) := by decide +kernel
theorem dX7_layBest_57 : decode cX7_layBest 57 = .ok (.getfield 37, 3) := by decide +kernel
theorem dX7_layBest_60 : decode cX7_layBest 60 = .ok (.iload_n 1, 1) := by decide +kernel
theorem dX7_layBest_61 : decode cX7_layBest 61 = .ok (.iaload, 1) := by decide +kernel
theorem dX7_layBest_62 : decode cX7_layBest 62 = .ok (.iastore, 1) := by decide +kernel
theorem dX7_layBest_63 : decode cX7_layBest 63 = .ok (.iinc 1 1, 3) := by decide +kernel
theorem dX7_layBest_66 : decode cX7_layBest 66 = .ok (.goto (-28), 3) := by decide +kernel
theorem dX7_layBest_69 : decode cX7_layBest 69 = .ok (.aload_n 0, 1) := by decide +kernel
theorem dX7_layBest_70 : decode cX7_layBest 70 = .ok (.getfield 19, 3) := by decide +kernel
theorem dX7_layBest_73 : decode cX7_layBest 73 = .ok (.invokestatic 217, 3) := by decide +kernel
theorem dX7_layBest_76 : decode cX7_layBest 76 = .ok (.ireturn, 1) := by decide +kernel
theorem dX7_rule_0 : decode cX7_rule 0 = .ok (.aload_n 0, 1) := by decide +kernel
theorem dX7_rule_1 : decode cX7_rule 1 = .ok (.iconst 0, 1) := by decide +kernel
theorem dX7_rule_2 : decode cX7_rule 2 = .ok (.putfield 53, 3) := by decide +kernel
theorem dX7_rule_5 : decode cX7_rule 5 = .ok (.aload_n 0, 1) := by decide +kernel
theorem dX7_rule_6 : decode cX7_rule 6 = .ok (.invokevirtual 211, 3) := by decide +kernel
theorem dX7_rule_9 : decode cX7_rule 9 = .ok (.ifCond .ne 6, 3) := by decide +kernel
theorem dX7_rule_12 : decode cX7_rule 12 = .ok (.ldc 207, 2) := by decide +kernel
theorem dX7_rule_14 : decode cX7_rule 14 = .ok (.ireturn, 1) := by decide +kernel
theorem dX7_rule_15 : decode cX7_rule 15 = .ok (.iload_n 1, 1) := by decide +kernel
theorem dX7_rule_16 : decode cX7_rule 16 = .ok (.ifCond .ne 15, 3) := by decide +kernel
theorem dX7_rule_19 : decode cX7_rule 19 = .ok (.iload_n 2, 1) := by decide +kernel
theorem dX7_rule_20 : decode cX7_rule 20 = .ok (.i2l, 1) := by decide +kernel
theorem dX7_rule_21 : decode cX7_rule 21 = .ok (.lconst 0, 1) := by decide +kernel
theorem dX7_rule_22 : decode cX7_rule 22 = .ok (.ldc2_w 221, 3) := by decide +kernel
theorem dX7_rule_25 : decode cX7_rule 25 = .ok (.invokestatic 63, 3) := by decide +kernel
theorem dX7_rule_28 : decode cX7_rule 28 = .ok (.ifCond .ne 54, 3) := by decide +kernel
theorem dX7_rule_31 : decode cX7_rule 31 = .ok (.iload_n 1, 1) := by decide +kernel
theorem dX7_rule_32 : decode cX7_rule 32 = .ok (.iconst 1, 1) := by decide +kernel
theorem dX7_rule_33 : decode cX7_rule 33 = .ok (.if_icmp .ne 15, 3) := by decide +kernel
theorem dX7_rule_36 : decode cX7_rule 36 = .ok (.iload_n 2, 1) := by decide +kernel
theorem dX7_rule_37 : decode cX7_rule 37 = .ok (.i2l, 1) := by decide +kernel
theorem dX7_rule_38 : decode cX7_rule 38 = .ok (.lconst 0, 1) := by decide +kernel
theorem dX7_rule_39 : decode cX7_rule 39 = .ok (.ldc2_w 223, 3) := by decide +kernel
theorem dX7_rule_42 : decode cX7_rule 42 = .ok (.invokestatic 63, 3) := by decide +kernel
theorem dX7_rule_45 : decode cX7_rule 45 = .ok (.ifCond .ne 37, 3) := by decide +kernel
theorem dX7_rule_48 : decode cX7_rule 48 = .ok (.iload_n 1, 1) := by decide +kernel
theorem dX7_rule_49 : decode cX7_rule 49 = .ok (.iconst 2, 1) := by decide +kernel
theorem dX7_rule_50 : decode cX7_rule 50 = .ok (.if_icmp .ne 15, 3) := by decide +kernel
theorem dX7_rule_53 : decode cX7_rule 53 = .ok (.iload_n 2, 1) := by decide +kernel
theorem dX7_rule_54 : decode cX7_rule 54 = .ok (.i2l, 1) := by decide +kernel
theorem dX7_rule_55 : decode cX7_rule 55 = .ok (.lconst 0, 1) := by decide +kernel
theorem dX7_rule_56 : decode cX7_rule 56 = .ok (.ldc2_w 221, 3) := by decide +kernel
theorem dX7_rule_59 : decode cX7_rule 59 = .ok (.invokestatic 63, 3) := by decide +kernel
theorem dX7_rule_62 : decode cX7_rule 62 = .ok (.ifCond .ne 20, 3) := by decide +kernel
theorem dX7_rule_65 : decode cX7_rule 65 = .ok (.iload_n 1, 1) := by decide +kernel
theorem dX7_rule_66 : decode cX7_rule 66 = .ok (.iconst 3, 1) := by decide +kernel
theorem dX7_rule_67 : decode cX7_rule 67 = .ok (.if_icmp .ne 19, 3) := by decide +kernel
theorem dX7_rule_70 : decode cX7_rule 70 = .ok (.iload_n 2, 1) := by decide +kernel
theorem dX7_rule_71 : decode cX7_rule 71 = .ok (.i2l, 1) := by decide +kernel
theorem dX7_rule_72 : decode cX7_rule 72 = .ok (.lconst 1, 1) := by decide +kernel
theorem dX7_rule_73 : decode cX7_rule 73 = .ok (.ldc2_w 225, 3) := by decide +kernel
theorem dX7_rule_76 : decode cX7_rule 76 = .ok (.invokestatic 63, 3) := by decide +kernel
theorem dX7_rule_79 : decode cX7_rule 79 = .ok (.ifCond .eq 7, 3) := by decide +kernel
theorem dX7_rule_82 : decode cX7_rule 82 = .ok (.iconst 1, 1) := by decide +kernel
theorem dX7_rule_83 : decode cX7_rule 83 = .ok (.goto 4, 3) := by decide +kernel
theorem dX7_rule_86 : decode cX7_rule 86 = .ok (.iconst 0, 1) := by decide +kernel
theorem dX7_rule_87 : decode cX7_rule 87 = .ok (.istore_n 3, 1) := by decide +kernel
theorem dX7_rule_88 : decode cX7_rule 88 = .ok (.iload_n 3, 1) := by decide +kernel
theorem dX7_rule_89 : decode cX7_rule 89 = .ok (.ifCond .ne 6, 3) := by decide +kernel
theorem dX7_rule_92 : decode cX7_rule 92 = .ok (.ldc 73, 2) := by decide +kernel
theorem dX7_rule_94 : decode cX7_rule 94 = .ok (.ireturn, 1) := by decide +kernel
theorem dX7_rule_95 : decode cX7_rule 95 = .ok (.iload_n 1, 1) := by decide +kernel
theorem dX7_rule_96 : decode cX7_rule 96 = .ok (.iconst 3, 1) := by decide +kernel
theorem dX7_rule_97 : decode cX7_rule 97 = .ok (.if_icmp .ne 7, 3) := by decide +kernel
theorem dX7_rule_100 : decode cX7_rule 100 = .ok (.iconst 1, 1) := by decide +kernel
theorem dX7_rule_101 : decode cX7_rule 101 = .ok (.goto 6, 3) := by decide +kernel
theorem dX7_rule_104 : decode cX7_rule 104 = .ok (.iconst 2, 1) := by decide +kernel
theorem dX7_rule_105 : decode cX7_rule 105 = .ok (.iload_n 1, 1) := by decide +kernel
theorem dX7_rule_106 : decode cX7_rule 106 = .ok (.iadd, 1) := by decide +kernel
theorem dX7_rule_107 : decode cX7_rule 107 = .ok (.istore 4, 2) := by decide +kernel
theorem dX7_rule_109 : decode cX7_rule 109 = .ok (.aload_n 0, 1) := by decide +kernel
theorem dX7_rule_110 : decode cX7_rule 110 = .ok (.invokevirtual 208, 3) := by decide +kernel
theorem dX7_rule_113 : decode cX7_rule 113 = .ok (.aload_n 0, 1) := by decide +kernel
theorem dX7_rule_114 : decode cX7_rule 114 = .ok (.getfield 19, 3) := by decide +kernel
theorem dX7_rule_117 : decode cX7_rule 117 = .ok (.iload 4, 2) := by decide +kernel
theorem dX7_rule_119 : decode cX7_rule 119 = .ok (.iaload, 1) := by decide +kernel
theorem dX7_rule_120 : decode cX7_rule 120 = .ok (.istore 5, 2) := by decide +kernel
theorem dX7_rule_122 : decode cX7_rule 122 = .ok (.aload_n 0, 1) := by decide +kernel
theorem dX7_rule_123 : decode cX7_rule 123 = .ok (.getfield 19, 3) := by decide +kernel
theorem dX7_rule_126 : decode cX7_rule 126 = .ok (.iload 4, 2) := by decide +kernel
theorem dX7_rule_128 : decode cX7_rule 128 = .ok (.iload_n 2, 1) := by decide +kernel
theorem dX7_rule_129 : decode cX7_rule 129 = .ok (.iastore, 1) := by decide +kernel
theorem dX7_rule_130 : decode cX7_rule 130 = .ok (.iload 5, 2) := by decide +kernel
theorem dX7_rule_132 : decode cX7_rule 132 = .ok (.ireturn, 1) := by decide +kernel
theorem dX7_price_0 : decode cX7_price 0 = .ok (.aload_n 0, 1) := by decide +kernel
theorem dX7_price_1 : decode cX7_price 1 = .ok (.iconst 0, 1) := by decide +kernel
theorem dX7_price_2 : decode cX7_price 2 = .ok (.putfield 53, 3) := by decide +kernel
theorem dX7_price_5 : decode cX7_price 5 = .ok (.aload_n 0, 1) := by decide +kernel
theorem dX7_price_6 : decode cX7_price 6 = .ok (.iload_n 1, 1) := by decide +kernel
theorem dX7_price_7 : decode cX7_price 7 = .ok (.invokevirtual 204, 3) := by decide +kernel
theorem dX7_price_10 : decode cX7_price 10 = .ok (.ifCond .eq 15, 3) := by decide +kernel
theorem dX7_price_13 : decode cX7_price 13 = .ok (.iload_n 2, 1) := by decide +kernel
theorem dX7_price_14 : decode cX7_price 14 = .ok (.i2l, 1) := by decide +kernel
theorem dX7_price_15 : decode cX7_price 15 = .ok (.lconst 1, 1) := by decide +kernel
theorem dX7_price_16 : decode cX7_price 16 = .ok (.ldc2_w 223, 3) := by decide +kernel
theorem dX7_price_19 : decode cX7_price 19 = .ok (.invokestatic 63, 3) := by decide +kernel
theorem dX7_price_22 : decode cX7_price 22 = .ok (.ifCond .ne 6, 3) := by decide +kernel
theorem dX7_price_25 : decode cX7_price 25 = .ok (.ldc 73, 2) := by decide +kernel
theorem dX7_price_27 : decode cX7_price 27 = .ok (.ireturn, 1) := by decide +kernel
theorem dX7_price_28 : decode cX7_price 28 = .ok (.aload_n 0, 1) := by decide +kernel
theorem dX7_price_29 : decode cX7_price 29 = .ok (.invokevirtual 208, 3) := by decide +kernel
theorem dX7_price_32 : decode cX7_price 32 = .ok (.aload_n 0, 1) := by decide +kernel
theorem dX7_price_33 : decode cX7_price 33 = .ok (.getfield 19, 3) := by decide +kernel
theorem dX7_price_36 : decode cX7_price 36 = .ok (.iload_n 1, 1) := by decide +kernel
theorem dX7_price_37 : decode cX7_price 37 = .ok (.iconst 5, 1) := by decide +kernel
theorem dX7_price_38 : decode cX7_price 38 = .ok (.invokestatic 155, 3) := by decide +kernel
theorem dX7_price_41 : decode cX7_price 41 = .ok (.istore_n 3, 1) := by decide +kernel
theorem dX7_price_42 : decode cX7_price 42 = .ok (.aload_n 0, 1) := by decide +kernel
theorem dX7_price_43 : decode cX7_price 43 = .ok (.getfield 19, 3) := by decide +kernel
theorem dX7_price_46 : decode cX7_price 46 = .ok (.bipush 6, 2) := by decide +kernel
theorem dX7_price_48 : decode cX7_price 48 = .ok (.bipush 6, 2) := by decide +kernel
theorem dX7_price_50 : decode cX7_price 50 = .ok (.iload_n 1, 1) := by decide +kernel
theorem dX7_price_51 : decode cX7_price 51 = .ok (.imul, 1) := by decide +kernel
theorem dX7_price_52 : decode cX7_price 52 = .ok (.iadd, 1) := by decide +kernel
theorem dX7_price_53 : decode cX7_price 53 = .ok (.iconst 5, 1) := by decide +kernel
theorem dX7_price_54 : decode cX7_price 54 = .ok (.iadd, 1) := by decide +kernel
theorem dX7_price_55 : decode cX7_price 55 = .ok (.iload_n 2, 1) := by decide +kernel
theorem dX7_price_56 : decode cX7_price 56 = .ok (.iastore, 1) := by decide +kernel
theorem dX7_price_57 : decode cX7_price 57 = .ok (.iload_n 3, 1) := by decide +kernel
theorem dX7_price_58 : decode cX7_price 58 = .ok (.ireturn, 1) := by decide +kernel
theorem dX7_undo_0 : decode cX7_undo 0 = .ok (.aload_n 0, 1) := by decide +kernel
theorem dX7_undo_1 : decode cX7_undo 1 = .ok (.iconst 0, 1) := by decide +kernel
theorem dX7_undo_2 : decode cX7_undo 2 = .ok (.putfield 53, 3) := by decide +kernel
theorem dX7_undo_5 : decode cX7_undo 5 = .ok (.aload_n 0, 1) := by decide +kernel
theorem dX7_undo_6 : decode cX7_undo 6 = .ok (.getfield 152, 3) := by decide +kernel
theorem dX7_undo_9 : decode cX7_undo 9 = .ok (.ifCond .ne 6, 3) := by decide +kernel
theorem dX7_undo_12 : decode cX7_undo 12 = .ok (.ldc 207, 2) := by decide +kernel
theorem dX7_undo_14 : decode cX7_undo 14 = .ok (.ireturn, 1) := by decide +kernel
theorem dX7_undo_15 : decode cX7_undo 15 = .ok (.aload_n 0, 1) := by decide +kernel
theorem dX7_undo_16 : decode cX7_undo 16 = .ok (.dup, 1) := by decide +kernel
theorem dX7_undo_17 : decode cX7_undo 17 = .ok (.getfield 152, 3) := by decide +kernel
theorem dX7_undo_20 : decode cX7_undo 20 = .ok (.iconst 1, 1) := by decide +kernel
theorem dX7_undo_21 : decode cX7_undo 21 = .ok (.isub, 1) := by decide +kernel
theorem dX7_undo_22 : decode cX7_undo 22 = .ok (.putfield 152, 3) := by decide +kernel
theorem dX7_undo_25 : decode cX7_undo 25 = .ok (.iconst 0, 1) := by decide +kernel
theorem dX7_undo_26 : decode cX7_undo 26 = .ok (.istore_n 1, 1) := by decide +kernel
theorem dX7_undo_27 : decode cX7_undo 27 = .ok (.iload_n 1, 1) := by decide +kernel
theorem dX7_undo_28 : decode cX7_undo 28 = .ok (.bipush 44, 2) := by decide +kernel
theorem dX7_undo_30 : decode cX7_undo 30 = .ok (.if_icmp .ge 29, 3) := by decide +kernel
theorem dX7_undo_33 : decode cX7_undo 33 = .ok (.aload_n 0, 1) := by decide +kernel
theorem dX7_undo_34 : decode cX7_undo 34 = .ok (.getfield 19, 3) := by decide +kernel
theorem dX7_undo_37 : decode cX7_undo 37 = .ok (.iload_n 1, 1) := by decide +kernel
theorem dX7_undo_38 : decode cX7_undo 38 = .ok (.aload_n 0, 1) := by decide +kernel
theorem dX7_undo_39 : decode cX7_undo 39 = .ok (.getfield 28, 3) := by decide +kernel
theorem dX7_undo_42 : decode cX7_undo 42 = .ok (.bipush 44, 2) := by decide +kernel
theorem dX7_undo_44 : decode cX7_undo 44 = .ok (.aload_n 0, 1) := by decide +kernel
theorem dX7_undo_45 : decode cX7_undo 45 = .ok (.getfield 152, 3) := by decide +kernel
theorem dX7_undo_48 : decode cX7_undo 48 = .ok (.imul, 1) := by decide +kernel
theorem dX7_undo_49 : decode cX7_undo 49 = .ok (.iload_n 1, 1) := by decide +kernel
theorem dX7_undo_50 : decode cX7_undo 50 = .ok (.iadd, 1) := by decide +kernel
theorem dX7_undo_51 : decode cX7_undo 51 = .ok (.iaload, 1) := by decide +kernel
theorem dX7_undo_52 : decode cX7_undo 52 = .ok (.iastore, 1) := by decide +kernel
theorem dX7_undo_53 : decode cX7_undo 53 = .ok (.iinc 1 1, 3) := by decide +kernel
theorem dX7_undo_56 : decode cX7_undo 56 = .ok (.goto (-29), 3) := by decide +kernel
theorem dX7_undo_59 : decode cX7_undo 59 = .ok (.aload_n 0, 1) := by decide +kernel
theorem dX7_undo_60 : decode cX7_undo 60 = .ok (.getfield 152, 3) := by decide +kernel
theorem dX7_undo_63 : decode cX7_undo 63 = .ok (.ireturn, 1) := by decide +kernel
theorem dX7_grade_0 : decode cX7_grade 0 = .ok (.aload_n 0, 1) := by decide +kernel
theorem dX7_grade_1 : decode cX7_grade 1 = .ok (.iconst 0, 1) := by decide +kernel
theorem dX7_grade_2 : decode cX7_grade 2 = .ok (.putfield 53, 3) := by decide +kernel
theorem dX7_grade_5 : decode cX7_grade 5 = .ok (.aload_n 0, 1) := by decide +kernel
theorem dX7_grade_6 : decode cX7_grade 6 = .ok (.iload_n 1, 1) := by decide +kernel
theorem dX7_grade_7 : decode cX7_grade 7 = .ok (.invokevirtual 204, 3) := by decide +kernel
theorem dX7_grade_10 : decode cX7_grade 10 = .ok (.ifCond .eq 29, 3) := by decide +kernel
theorem dX7_grade_13 : decode cX7_grade 13 = .ok (.iload_n 2, 1) := by decide +kernel
theorem dX7_grade_14 : decode cX7_grade 14 = .ok (.i2l, 1) := by decide +kernel
theorem dX7_grade_15 : decode cX7_grade 15 = .ok (.lconst 0, 1) := by decide +kernel
theorem dX7_grade_16 : decode cX7_grade 16 = .ok (.ldc2_w 227, 3) := by decide +kernel
theorem dX7_grade_19 : decode cX7_grade 19 = .ok (.invokestatic 63, 3) := by decide +kernel
theorem dX7_grade_22 : decode cX7_grade 22 = .ok (.ifCond .eq 17, 3) := by decide +kernel
theorem dX7_grade_25 : decode cX7_grade 25 = .ok (.aload_n 0, 1) := by decide +kernel
theorem dX7_grade_26 : decode cX7_grade 26 = .ok (.getfield 19, 3) := by decide +kernel
theorem dX7_grade_29 : decode cX7_grade 29 = .ok (.iload_n 1, 1) := by decide +kernel
theorem dX7_grade_30 : decode cX7_grade 30 = .ok (.iconst 1, 1) := by decide +kernel
theorem dX7_grade_31 : decode cX7_grade 31 = .ok (.iload_n 2, 1) := by decide +kernel
theorem dX7_grade_32 : decode cX7_grade 32 = .ok (.iadd, 1) := by decide +kernel
theorem dX7_grade_33 : decode cX7_grade 33 = .ok (.invokestatic 155, 3) := by decide +kernel
theorem dX7_grade_36 : decode cX7_grade 36 = .ok (.goto 5, 3) := by decide +kernel
theorem dX7_grade_39 : decode cX7_grade 39 = .ok (.ldc 73, 2) := by decide +kernel
theorem dX7_grade_41 : decode cX7_grade 41 = .ok (.ireturn, 1) := by decide +kernel
theorem dX7_step_0 : decode cX7_step 0 = .ok (.aload_n 0, 1) := by decide +kernel
theorem dX7_step_1 : decode cX7_step 1 = .ok (.iconst 0, 1) := by decide +kernel
theorem dX7_step_2 : decode cX7_step 2 = .ok (.putfield 53, 3) := by decide +kernel
theorem dX7_step_5 : decode cX7_step 5 = .ok (.aload_n 0, 1) := by decide +kernel
theorem dX7_step_6 : decode cX7_step 6 = .ok (.iload_n 1, 1) := by decide +kernel
theorem dX7_step_7 : decode cX7_step 7 = .ok (.invokevirtual 201, 3) := by decide +kernel
theorem dX7_step_10 : decode cX7_step 10 = .ok (.ifCond .ne 6, 3) := by decide +kernel
theorem dX7_step_13 : decode cX7_step 13 = .ok (.ldc 73, 2) := by decide +kernel
theorem dX7_step_15 : decode cX7_step 15 = .ok (.ireturn, 1) := by decide +kernel
theorem dX7_step_16 : decode cX7_step 16 = .ok (.iload_n 2, 1) := by decide +kernel
theorem dX7_step_17 : decode cX7_step 17 = .ok (.tableswitch 118 0 5 #[39, 49, 58, 67, 92, 109], 39) := by decide +kernel
theorem dX7_step_56 : decode cX7_step 56 = .ok (.aload_n 0, 1) := by decide +kernel
theorem dX7_step_57 : decode cX7_step 57 = .ok (.getfield 19, 3) := by decide +kernel
theorem dX7_step_60 : decode cX7_step 60 = .ok (.bipush 36, 2) := by decide +kernel
theorem dX7_step_62 : decode cX7_step 62 = .ok (.iload_n 1, 1) := by decide +kernel
theorem dX7_step_63 : decode cX7_step 63 = .ok (.iadd, 1) := by decide +kernel
theorem dX7_step_64 : decode cX7_step 64 = .ok (.iaload, 1) := by decide +kernel
theorem dX7_step_65 : decode cX7_step 65 = .ok (.ireturn, 1) := by decide +kernel
theorem dX7_step_66 : decode cX7_step 66 = .ok (.aload_n 0, 1) := by decide +kernel
theorem dX7_step_67 : decode cX7_step 67 = .ok (.getfield 19, 3) := by decide +kernel
theorem dX7_step_70 : decode cX7_step 70 = .ok (.iload_n 1, 1) := by decide +kernel
theorem dX7_step_71 : decode cX7_step 71 = .ok (.invokestatic 166, 3) := by decide +kernel
theorem dX7_step_74 : decode cX7_step 74 = .ok (.ireturn, 1) := by decide +kernel
theorem dX7_step_75 : decode cX7_step 75 = .ok (.aload_n 0, 1) := by decide +kernel
theorem dX7_step_76 : decode cX7_step 76 = .ok (.getfield 19, 3) := by decide +kernel
theorem dX7_step_79 : decode cX7_step 79 = .ok (.iload_n 1, 1) := by decide +kernel
theorem dX7_step_80 : decode cX7_step 80 = .ok (.invokestatic 172, 3) := by decide +kernel
theorem dX7_step_83 : decode cX7_step 83 = .ok (.ireturn, 1) := by decide +kernel
theorem dX7_step_84 : decode cX7_step 84 = .ok (.aload_n 0, 1) := by decide +kernel
theorem dX7_step_85 : decode cX7_step 85 = .ok (.getfield 19, 3) := by decide +kernel
theorem dX7_step_88 : decode cX7_step 88 = .ok (.bipush 36, 2) := by decide +kernel
theorem dX7_step_90 : decode cX7_step 90 = .ok (.iload_n 1, 1) := by decide +kernel
theorem dX7_step_91 : decode cX7_step 91 = .ok (.iadd, 1) := by decide +kernel
theorem dX7_step_92 : decode cX7_step 92 = .ok (.iaload, 1) := by decide +kernel
theorem dX7_step_93 : decode cX7_step 93 = .ok (.ifCond .ge 7, 3) := by decide +kernel
theorem dX7_step_96 : decode cX7_step 96 = .ok (.iconst 0, 1) := by decide +kernel
theorem dX7_step_97 : decode cX7_step 97 = .ok (.goto 11, 3) := by decide +kernel
theorem dX7_step_100 : decode cX7_step 100 = .ok (.aload_n 0, 1) := by decide +kernel
theorem dX7_step_101 : decode cX7_step 101 = .ok (.getfield 19, 3) := by decide +kernel
theorem dX7_step_104 : decode cX7_step 104 = .ok (.iload_n 1, 1) := by decide +kernel
theorem dX7_step_105 : decode cX7_step 105 = .ok (.invokestatic 175, 3) := by decide +kernel
theorem dX7_step_108 : decode cX7_step 108 = .ok (.ireturn, 1) := by decide +kernel
theorem dX7_step_109 : decode cX7_step 109 = .ok (.aload_n 0, 1) := by decide +kernel
theorem dX7_step_110 : decode cX7_step 110 = .ok (.getfield 19, 3) := by decide +kernel
theorem dX7_step_113 : decode cX7_step 113 = .ok (.iload_n 1, 1) := by decide +kernel
theorem dX7_step_114 : decode cX7_step 114 = .ok (.invokestatic 182, 3) := by decide +kernel
theorem dX7_step_117 : decode cX7_step 117 = .ok (.ifCond .eq 7, 3) := by decide +kernel
theorem dX7_step_120 : decode cX7_step 120 = .ok (.iconst 1, 1) := by decide +kernel
theorem dX7_step_121 : decode cX7_step 121 = .ok (.goto 4, 3) := by decide +kernel
theorem dX7_step_124 : decode cX7_step 124 = .ok (.iconst 0, 1) := by decide +kernel
theorem dX7_step_125 : decode cX7_step 125 = .ok (.ireturn, 1) := by decide +kernel
theorem dX7_step_126 : decode cX7_step 126 = .ok (.aload_n 0, 1) := by decide +kernel
theorem dX7_step_127 : decode cX7_step 127 = .ok (.getfield 19, 3) := by decide +kernel
theorem dX7_step_130 : decode cX7_step 130 = .ok (.iload_n 1, 1) := by decide +kernel
theorem dX7_step_131 : decode cX7_step 131 = .ok (.invokestatic 186, 3) := by decide +kernel
theorem dX7_step_134 : decode cX7_step 134 = .ok (.ireturn, 1) := by decide +kernel
theorem dX7_step_135 : decode cX7_step 135 = .ok (.ldc 73, 2) := by decide +kernel
theorem dX7_step_137 : decode cX7_step 137 = .ok (.ireturn, 1) := by decide +kernel
theorem dX7_bears_0 : decode cX7_bears 0 = .ok (.aload_n 0, 1) := by decide +kernel
theorem dX7_bears_1 : decode cX7_bears 1 = .ok (.iconst 0, 1) := by decide +kernel
theorem dX7_bears_2 : decode cX7_bears 2 = .ok (.putfield 53, 3) := by decide +kernel
theorem dX7_bears_5 : decode cX7_bears 5 = .ok (.aload_n 0, 1) := by decide +kernel
theorem dX7_bears_6 : decode cX7_bears 6 = .ok (.iload_n 1, 1) := by decide +kernel
theorem dX7_bears_7 : decode cX7_bears 7 = .ok (.invokevirtual 201, 3) := by decide +kernel
theorem dX7_bears_10 : decode cX7_bears 10 = .ok (.ifCond .eq 15, 3) := by decide +kernel
theorem dX7_bears_13 : decode cX7_bears 13 = .ok (.iload_n 2, 1) := by decide +kernel
theorem dX7_bears_14 : decode cX7_bears 14 = .ok (.i2l, 1) := by decide +kernel
theorem dX7_bears_15 : decode cX7_bears 15 = .ok (.lconst 0, 1) := by decide +kernel
theorem dX7_bears_16 : decode cX7_bears 16 = .ok (.ldc2_w 71, 3) := by decide +kernel
theorem dX7_bears_19 : decode cX7_bears 19 = .ok (.invokestatic 63, 3) := by decide +kernel
theorem dX7_bears_22 : decode cX7_bears 22 = .ok (.ifCond .ne 6, 3) := by decide +kernel
theorem dX7_bears_25 : decode cX7_bears 25 = .ok (.ldc 73, 2) := by decide +kernel
theorem dX7_bears_27 : decode cX7_bears 27 = .ok (.ireturn, 1) := by decide +kernel
theorem dX7_bears_28 : decode cX7_bears 28 = .ok (.aload_n 0, 1) := by decide +kernel
theorem dX7_bears_29 : decode cX7_bears 29 = .ok (.getfield 19, 3) := by decide +kernel
theorem dX7_bears_32 : decode cX7_bears 32 = .ok (.bipush 36, 2) := by decide +kernel
theorem dX7_bears_34 : decode cX7_bears 34 = .ok (.iload_n 1, 1) := by decide +kernel
theorem dX7_bears_35 : decode cX7_bears 35 = .ok (.iadd, 1) := by decide +kernel
theorem dX7_bears_36 : decode cX7_bears 36 = .ok (.iaload, 1) := by decide +kernel
theorem dX7_bears_37 : decode cX7_bears 37 = .ok (.istore_n 3, 1) := by decide +kernel
theorem dX7_bears_38 : decode cX7_bears 38 = .ok (.iload_n 3, 1) := by decide +kernel
theorem dX7_bears_39 : decode cX7_bears 39 = .ok (.ifCond .ge 6, 3) := by decide +kernel
theorem dX7_bears_42 : decode cX7_bears 42 = .ok (.ldc 207, 2) := by decide +kernel
theorem dX7_bears_44 : decode cX7_bears 44 = .ok (.ireturn, 1) := by decide +kernel
theorem dX7_bears_45 : decode cX7_bears 45 = .ok (.iload_n 2, 1) := by decide +kernel
theorem dX7_bears_46 : decode cX7_bears 46 = .ok (.ifCond .ne 14, 3) := by decide +kernel
theorem dX7_bears_49 : decode cX7_bears 49 = .ok (.aload_n 0, 1) := by decide +kernel
theorem dX7_bears_50 : decode cX7_bears 50 = .ok (.getfield 19, 3) := by decide +kernel
theorem dX7_bears_53 : decode cX7_bears 53 = .ok (.iload_n 3, 1) := by decide +kernel
theorem dX7_bears_54 : decode cX7_bears 54 = .ok (.invokestatic 163, 3) := by decide +kernel
theorem dX7_bears_57 : decode cX7_bears 57 = .ok (.goto 35, 3) := by decide +kernel
theorem dX7_bears_60 : decode cX7_bears 60 = .ok (.iload_n 2, 1) := by decide +kernel
theorem dX7_bears_61 : decode cX7_bears 61 = .ok (.iconst 1, 1) := by decide +kernel
theorem dX7_bears_62 : decode cX7_bears 62 = .ok (.if_icmp .ne 22, 3) := by decide +kernel
theorem dX7_bears_65 : decode cX7_bears 65 = .ok (.aload_n 0, 1) := by decide +kernel
theorem dX7_bears_66 : decode cX7_bears 66 = .ok (.getfield 19, 3) := by decide +kernel
theorem dX7_bears_69 : decode cX7_bears 69 = .ok (.iload_n 3, 1) := by decide +kernel
theorem dX7_bears_70 : decode cX7_bears 70 = .ok (.aload_n 0, 1) := by decide +kernel
theorem dX7_bears_71 : decode cX7_bears 71 = .ok (.getfield 19, 3) := by decide +kernel
theorem dX7_bears_74 : decode cX7_bears 74 = .ok (.iload_n 1, 1) := by decide +kernel
theorem dX7_bears_75 : decode cX7_bears 75 = .ok (.invokestatic 175, 3) := by decide +kernel
theorem dX7_bears_78 : decode cX7_bears 78 = .ok (.invokestatic 169, 3) := by decide +kernel
theorem dX7_bears_81 : decode cX7_bears 81 = .ok (.goto 11, 3) := by decide +kernel
theorem dX7_bears_84 : decode cX7_bears 84 = .ok (.aload_n 0, 1) := by decide +kernel
theorem dX7_bears_85 : decode cX7_bears 85 = .ok (.getfield 19, 3) := by decide +kernel
theorem dX7_bears_88 : decode cX7_bears 88 = .ok (.iload_n 3, 1) := by decide +kernel
theorem dX7_bears_89 : decode cX7_bears 89 = .ok (.invokestatic 159, 3) := by decide +kernel
theorem dX7_bears_92 : decode cX7_bears 92 = .ok (.ireturn, 1) := by decide +kernel
theorem dX7_firstLoose_0 : decode cX7_firstLoose 0 = .ok (.iconst 0, 1) := by decide +kernel
theorem dX7_firstLoose_1 : decode cX7_firstLoose 1 = .ok (.istore_n 1, 1) := by decide +kernel
theorem dX7_firstLoose_2 : decode cX7_firstLoose 2 = .ok (.iload_n 1, 1) := by decide +kernel
theorem dX7_firstLoose_3 : decode cX7_firstLoose 3 = .ok (.aload_n 0, 1) := by decide +kernel
theorem dX7_firstLoose_4 : decode cX7_firstLoose 4 = .ok (.getfield 19, 3) := by decide +kernel
theorem dX7_firstLoose_7 : decode cX7_firstLoose 7 = .ok (.iconst 0, 1) := by decide +kernel
theorem dX7_firstLoose_8 : decode cX7_firstLoose 8 = .ok (.iaload, 1) := by decide +kernel
theorem dX7_firstLoose_9 : decode cX7_firstLoose 9 = .ok (.if_icmp .ge 22, 3) := by decide +kernel
theorem dX7_firstLoose_12 : decode cX7_firstLoose 12 = .ok (.aload_n 0, 1) := by decide +kernel
theorem dX7_firstLoose_13 : decode cX7_firstLoose 13 = .ok (.getfield 19, 3) := by decide +kernel
theorem dX7_firstLoose_16 : decode cX7_firstLoose 16 = .ok (.iload_n 1, 1) := by decide +kernel
theorem dX7_firstLoose_17 : decode cX7_firstLoose 17 = .ok (.invokestatic 182, 3) := by decide +kernel
theorem dX7_firstLoose_20 : decode cX7_firstLoose 20 = .ok (.ifCond .ne 5, 3) := by decide +kernel
theorem dX7_firstLoose_23 : decode cX7_firstLoose 23 = .ok (.iload_n 1, 1) := by decide +kernel
theorem dX7_firstLoose_24 : decode cX7_firstLoose 24 = .ok (.ireturn, 1) := by decide +kernel
theorem dX7_firstLoose_25 : decode cX7_firstLoose 25 = .ok (.iinc 1 1, 3) := by decide +kernel
theorem dX7_firstLoose_28 : decode cX7_firstLoose 28 = .ok (.goto (-26), 3) := by decide +kernel
theorem dX7_firstLoose_31 : decode cX7_firstLoose 31 = .ok (.ldc 96, 2) := by decide +kernel
theorem dX7_firstLoose_33 : decode cX7_firstLoose 33 = .ok (.ireturn, 1) := by decide +kernel
theorem dX7_stand_0 : decode cX7_stand 0 = .ok (.aload_n 0, 1) := by decide +kernel
theorem dX7_stand_1 : decode cX7_stand 1 = .ok (.iconst 0, 1) := by decide +kernel
theorem dX7_stand_2 : decode cX7_stand 2 = .ok (.putfield 53, 3) := by decide +kernel
theorem dX7_stand_5 : decode cX7_stand 5 = .ok (.aload_n 0, 1) := by decide +kernel
theorem dX7_stand_6 : decode cX7_stand 6 = .ok (.invokevirtual 211, 3) := by decide +kernel
theorem dX7_stand_9 : decode cX7_stand 9 = .ok (.ifCond .ne 6, 3) := by decide +kernel
theorem dX7_stand_12 : decode cX7_stand 12 = .ok (.ldc 207, 2) := by decide +kernel
theorem dX7_stand_14 : decode cX7_stand 14 = .ok (.ireturn, 1) := by decide +kernel
theorem dX7_stand_15 : decode cX7_stand 15 = .ok (.iload_n 1, 1) := by decide +kernel
theorem dX7_stand_16 : decode cX7_stand 16 = .ok (.tableswitch 97 0 8 #[52, 52, 52, 52, 52, 59, 67, 76, 81], 52) := by decide +kernel
theorem dX7_stand_68 : decode cX7_stand 68 = .ok (.aload_n 0, 1) := by decide +kernel
theorem dX7_stand_69 : decode cX7_stand 69 = .ok (.getfield 19, 3) := by decide +kernel
theorem dX7_stand_72 : decode cX7_stand 72 = .ok (.iload_n 1, 1) := by decide +kernel
theorem dX7_stand_73 : decode cX7_stand 73 = .ok (.iaload, 1) := by decide +kernel
theorem dX7_stand_74 : decode cX7_stand 74 = .ok (.ireturn, 1) := by decide +kernel
theorem dX7_stand_75 : decode cX7_stand 75 = .ok (.aload_n 0, 1) := by decide +kernel
theorem dX7_stand_76 : decode cX7_stand 76 = .ok (.getfield 19, 3) := by decide +kernel
theorem dX7_stand_79 : decode cX7_stand 79 = .ok (.invokestatic 217, 3) := by decide +kernel
theorem dX7_stand_82 : decode cX7_stand 82 = .ok (.ireturn, 1) := by decide +kernel
theorem dX7_stand_83 : decode cX7_stand 83 = .ok (.aload_n 0, 1) := by decide +kernel
theorem dX7_stand_84 : decode cX7_stand 84 = .ok (.getfield 19, 3) := by decide +kernel
theorem dX7_stand_87 : decode cX7_stand 87 = .ok (.iconst 0, 1) := by decide +kernel
theorem dX7_stand_88 : decode cX7_stand 88 = .ok (.invokestatic 175, 3) := by decide +kernel
theorem dX7_stand_91 : decode cX7_stand 91 = .ok (.ireturn, 1) := by decide +kernel
theorem dX7_stand_92 : decode cX7_stand 92 = .ok (.aload_n 0, 1) := by decide +kernel
theorem dX7_stand_93 : decode cX7_stand 93 = .ok (.invokevirtual 229, 3) := by decide +kernel
theorem dX7_stand_96 : decode cX7_stand 96 = .ok (.ireturn, 1) := by decide +kernel
theorem dX7_stand_97 : decode cX7_stand 97 = .ok (.aload_n 0, 1) := by decide +kernel
theorem dX7_stand_98 : decode cX7_stand 98 = .ok (.getfield 19, 3) := by decide +kernel
theorem dX7_stand_101 : decode cX7_stand 101 = .ok (.invokestatic 233, 3) := by decide +kernel
theorem dX7_stand_104 : decode cX7_stand 104 = .ok (.ifCond .eq 7, 3) := by decide +kernel
theorem dX7_stand_107 : decode cX7_stand 107 = .ok (.iconst 1, 1) := by decide +kernel
theorem dX7_stand_108 : decode cX7_stand 108 = .ok (.goto 4, 3) := by decide +kernel
theorem dX7_stand_111 : decode cX7_stand 111 = .ok (.iconst 0, 1) := by decide +kernel
theorem dX7_stand_112 : decode cX7_stand 112 = .ok (.ireturn, 1) := by decide +kernel
theorem dX7_stand_113 : decode cX7_stand 113 = .ok (.ldc 73, 2) := by decide +kernel
theorem dX7_stand_115 : decode cX7_stand 115 = .ok (.ireturn, 1) := by decide +kernel
theorem dX7_best_0 : decode cX7_best 0 = .ok (.aload_n 0, 1) := by decide +kernel
theorem dX7_best_1 : decode cX7_best 1 = .ok (.iconst 0, 1) := by decide +kernel
theorem dX7_best_2 : decode cX7_best 2 = .ok (.putfield 53, 3) := by decide +kernel
theorem dX7_best_5 : decode cX7_best 5 = .ok (.aload_n 0, 1) := by decide +kernel
theorem dX7_best_6 : decode cX7_best 6 = .ok (.invokevirtual 211, 3) := by decide +kernel
theorem dX7_best_9 : decode cX7_best 9 = .ok (.ifCond .ne 6, 3) := by decide +kernel
theorem dX7_best_12 : decode cX7_best 12 = .ok (.ldc 207, 2) := by decide +kernel
theorem dX7_best_14 : decode cX7_best 14 = .ok (.ireturn, 1) := by decide +kernel
theorem dX7_best_15 : decode cX7_best 15 = .ok (.iload_n 1, 1) := by decide +kernel
theorem dX7_best_16 : decode cX7_best 16 = .ok (.i2l, 1) := by decide +kernel
theorem dX7_best_17 : decode cX7_best 17 = .ok (.lconst 0, 1) := by decide +kernel
theorem dX7_best_18 : decode cX7_best 18 = .ok (.lconst 1, 1) := by decide +kernel
theorem dX7_best_19 : decode cX7_best 19 = .ok (.invokestatic 63, 3) := by decide +kernel
theorem dX7_best_22 : decode cX7_best 22 = .ok (.ifCond .ne 17, 3) := by decide +kernel
theorem dX7_best_25 : decode cX7_best 25 = .ok (.aload_n 0, 1) := by decide +kernel
theorem dX7_best_26 : decode cX7_best 26 = .ok (.iload_n 1, 1) := by decide +kernel
theorem dX7_best_27 : decode cX7_best 27 = .ok (.bipush 10, 2) := by decide +kernel
theorem dX7_best_29 : decode cX7_best 29 = .ok (.isub, 1) := by decide +kernel
theorem dX7_best_30 : decode cX7_best 30 = .ok (.invokevirtual 201, 3) := by decide +kernel
theorem dX7_best_33 : decode cX7_best 33 = .ok (.ifCond .ne 6, 3) := by decide +kernel
theorem dX7_best_36 : decode cX7_best 36 = .ok (.ldc 73, 2) := by decide +kernel
theorem dX7_best_38 : decode cX7_best 38 = .ok (.ireturn, 1) := by decide +kernel
theorem dX7_best_39 : decode cX7_best 39 = .ok (.aload_n 0, 1) := by decide +kernel
theorem dX7_best_40 : decode cX7_best 40 = .ok (.aload_n 0, 1) := by decide +kernel
theorem dX7_best_41 : decode cX7_best 41 = .ok (.getfield 19, 3) := by decide +kernel
theorem dX7_best_44 : decode cX7_best 44 = .ok (.iconst (-1), 1) := by decide +kernel
theorem dX7_best_45 : decode cX7_best 45 = .ok (.invokevirtual 214, 3) := by decide +kernel
theorem dX7_best_48 : decode cX7_best 48 = .ok (.istore_n 2, 1) := by decide +kernel
theorem dX7_best_49 : decode cX7_best 49 = .ok (.iload_n 2, 1) := by decide +kernel
theorem dX7_best_50 : decode cX7_best 50 = .ok (.ldc 189, 2) := by decide +kernel
theorem dX7_best_52 : decode cX7_best 52 = .ok (.if_icmp .ne 6, 3) := by decide +kernel
theorem dX7_best_55 : decode cX7_best 55 = .ok (.ldc 96, 2) := by decide +kernel
theorem dX7_best_57 : decode cX7_best 57 = .ok (.ireturn, 1) := by decide +kernel
theorem dX7_best_58 : decode cX7_best 58 = .ok (.iload_n 1, 1) := by decide +kernel
theorem dX7_best_59 : decode cX7_best 59 = .ok (.ifCond .ne 10, 3) := by decide +kernel
theorem dX7_best_62 : decode cX7_best 62 = .ok (.iload_n 2, 1) := by decide +kernel
theorem dX7_best_63 : decode cX7_best 63 = .ok (.bipush 100, 2) := by decide +kernel
theorem dX7_best_65 : decode cX7_best 65 = .ok (.idiv, 1) := by decide +kernel
theorem dX7_best_66 : decode cX7_best 66 = .ok (.goto 24, 3) := by decide +kernel
theorem dX7_best_69 : decode cX7_best 69 = .ok (.iload_n 1, 1) := by decide +kernel
theorem dX7_best_70 : decode cX7_best 70 = .ok (.iconst 1, 1) := by decide +kernel
theorem dX7_best_71 : decode cX7_best 71 = .ok (.if_icmp .ne 10, 3) := by decide +kernel
theorem dX7_best_74 : decode cX7_best 74 = .ok (.iload_n 2, 1) := by decide +kernel
theorem dX7_best_75 : decode cX7_best 75 = .ok (.bipush 100, 2) := by decide +kernel
theorem dX7_best_77 : decode cX7_best 77 = .ok (.irem, 1) := by decide +kernel
theorem dX7_best_78 : decode cX7_best 78 = .ok (.goto 12, 3) := by decide +kernel
theorem dX7_best_81 : decode cX7_best 81 = .ok (.aload_n 0, 1) := by decide +kernel
theorem dX7_best_82 : decode cX7_best 82 = .ok (.getfield 37, 3) := by decide +kernel
theorem dX7_best_85 : decode cX7_best 85 = .ok (.iload_n 1, 1) := by decide +kernel
theorem dX7_best_86 : decode cX7_best 86 = .ok (.bipush 10, 2) := by decide +kernel
theorem dX7_best_88 : decode cX7_best 88 = .ok (.isub, 1) := by decide +kernel
theorem dX7_best_89 : decode cX7_best 89 = .ok (.iaload, 1) := by decide +kernel
theorem dX7_best_90 : decode cX7_best 90 = .ok (.ireturn, 1) := by decide +kernel
theorem dX7_without_0 : decode cX7_without 0 = .ok (.aload_n 0, 1) := by decide +kernel
theorem dX7_without_1 : decode cX7_without 1 = .ok (.iconst 0, 1) := by decide +kernel
theorem dX7_without_2 : decode cX7_without 2 = .ok (.putfield 53, 3) := by decide +kernel
theorem dX7_without_5 : decode cX7_without 5 = .ok (.aload_n 0, 1) := by decide +kernel
theorem dX7_without_6 : decode cX7_without 6 = .ok (.iload_n 1, 1) := by decide +kernel
theorem dX7_without_7 : decode cX7_without 7 = .ok (.invokevirtual 204, 3) := by decide +kernel
theorem dX7_without_10 : decode cX7_without 10 = .ok (.ifCond .ne 6, 3) := by decide +kernel
theorem dX7_without_13 : decode cX7_without 13 = .ok (.ldc 73, 2) := by decide +kernel
theorem dX7_without_15 : decode cX7_without 15 = .ok (.ireturn, 1) := by decide +kernel
theorem dX7_without_16 : decode cX7_without 16 = .ok (.aload_n 0, 1) := by decide +kernel
theorem dX7_without_17 : decode cX7_without 17 = .ok (.aload_n 0, 1) := by decide +kernel
theorem dX7_without_18 : decode cX7_without 18 = .ok (.getfield 19, 3) := by decide +kernel
theorem dX7_without_21 : decode cX7_without 21 = .ok (.iload_n 1, 1) := by decide +kernel
theorem dX7_without_22 : decode cX7_without 22 = .ok (.invokevirtual 214, 3) := by decide +kernel
theorem dX7_without_25 : decode cX7_without 25 = .ok (.istore_n 2, 1) := by decide +kernel
theorem dX7_without_26 : decode cX7_without 26 = .ok (.iload_n 2, 1) := by decide +kernel
theorem dX7_without_27 : decode cX7_without 27 = .ok (.ldc 189, 2) := by decide +kernel
theorem dX7_without_29 : decode cX7_without 29 = .ok (.if_icmp .ne 8, 3) := by decide +kernel
theorem dX7_without_32 : decode cX7_without 32 = .ok (.ldc 96, 2) := by decide +kernel
theorem dX7_without_34 : decode cX7_without 34 = .ok (.goto 7, 3) := by decide +kernel
theorem dX7_without_37 : decode cX7_without 37 = .ok (.iload_n 2, 1) := by decide +kernel
theorem dX7_without_38 : decode cX7_without 38 = .ok (.bipush 100, 2) := by decide +kernel
theorem dX7_without_40 : decode cX7_without 40 = .ok (.idiv, 1) := by decide +kernel
theorem dX7_without_41 : decode cX7_without 41 = .ok (.ireturn, 1) := by decide +kernel
theorem dX7_most_0 : decode cX7_most 0 = .ok (.aload_n 0, 1) := by decide +kernel
theorem dX7_most_1 : decode cX7_most 1 = .ok (.iconst 0, 1) := by decide +kernel
theorem dX7_most_2 : decode cX7_most 2 = .ok (.putfield 53, 3) := by decide +kernel
theorem dX7_most_5 : decode cX7_most 5 = .ok (.aload_n 0, 1) := by decide +kernel
theorem dX7_most_6 : decode cX7_most 6 = .ok (.invokevirtual 211, 3) := by decide +kernel
theorem dX7_most_9 : decode cX7_most 9 = .ok (.ifCond .ne 6, 3) := by decide +kernel
theorem dX7_most_12 : decode cX7_most 12 = .ok (.ldc 207, 2) := by decide +kernel
theorem dX7_most_14 : decode cX7_most 14 = .ok (.ireturn, 1) := by decide +kernel
theorem dX7_most_15 : decode cX7_most 15 = .ok (.iload_n 1, 1) := by decide +kernel
theorem dX7_most_16 : decode cX7_most 16 = .ok (.i2l, 1) := by decide +kernel
theorem dX7_most_17 : decode cX7_most 17 = .ok (.lconst 0, 1) := by decide +kernel
theorem dX7_most_18 : decode cX7_most 18 = .ok (.lconst 1, 1) := by decide +kernel
theorem dX7_most_19 : decode cX7_most 19 = .ok (.invokestatic 63, 3) := by decide +kernel
theorem dX7_most_22 : decode cX7_most 22 = .ok (.ifCond .ne 6, 3) := by decide +kernel
theorem dX7_most_25 : decode cX7_most 25 = .ok (.ldc 73, 2) := by decide +kernel
theorem dX7_most_27 : decode cX7_most 27 = .ok (.ireturn, 1) := by decide +kernel
theorem dX7_most_28 : decode cX7_most 28 = .ok (.aload_n 0, 1) := by decide +kernel
theorem dX7_most_29 : decode cX7_most 29 = .ok (.invokevirtual 237, 3) := by decide +kernel
theorem dX7_most_32 : decode cX7_most 32 = .ok (.iload_n 1, 1) := by decide +kernel
theorem dX7_most_33 : decode cX7_most 33 = .ok (.ifCond .ne 8, 3) := by decide +kernel
theorem dX7_most_36 : decode cX7_most 36 = .ok (.bipush 40, 2) := by decide +kernel
theorem dX7_most_38 : decode cX7_most 38 = .ok (.goto 5, 3) := by decide +kernel
theorem dX7_most_41 : decode cX7_most 41 = .ok (.bipush 99, 2) := by decide +kernel
theorem dX7_most_43 : decode cX7_most 43 = .ok (.istore_n 2, 1) := by decide +kernel
theorem dX7_most_44 : decode cX7_most 44 = .ok (.iload_n 2, 1) := by decide +kernel
theorem dX7_most_45 : decode cX7_most 45 = .ok (.ifCond .lt 42, 3) := by decide +kernel
theorem dX7_most_48 : decode cX7_most 48 = .ok (.aload_n 0, 1) := by decide +kernel
theorem dX7_most_49 : decode cX7_most 49 = .ok (.getfield 25, 3) := by decide +kernel
theorem dX7_most_52 : decode cX7_most 52 = .ok (.iload_n 1, 1) := by decide +kernel
theorem dX7_most_53 : decode cX7_most 53 = .ok (.ifCond .ne 7, 3) := by decide +kernel
theorem dX7_most_56 : decode cX7_most 56 = .ok (.iconst 2, 1) := by decide +kernel
theorem dX7_most_57 : decode cX7_most 57 = .ok (.goto 4, 3) := by decide +kernel
theorem dX7_most_60 : decode cX7_most 60 = .ok (.iconst 3, 1) := by decide +kernel
theorem dX7_most_61 : decode cX7_most 61 = .ok (.iload_n 2, 1) := by decide +kernel
theorem dX7_most_62 : decode cX7_most 62 = .ok (.iastore, 1) := by decide +kernel
theorem dX7_most_63 : decode cX7_most 63 = .ok (.aload_n 0, 1) := by decide +kernel
theorem dX7_most_64 : decode cX7_most 64 = .ok (.getfield 25, 3) := by decide +kernel
theorem dX7_most_67 : decode cX7_most 67 = .ok (.invokestatic 240, 3) := by decide +kernel
theorem dX7_most_70 : decode cX7_most 70 = .ok (.aload_n 0, 1) := by decide +kernel
theorem dX7_most_71 : decode cX7_most 71 = .ok (.getfield 25, 3) := by decide +kernel
theorem dX7_most_74 : decode cX7_most 74 = .ok (.iconst 0, 1) := by decide +kernel
theorem dX7_most_75 : decode cX7_most 75 = .ok (.iaload, 1) := by decide +kernel
theorem dX7_most_76 : decode cX7_most 76 = .ok (.if_icmp .ne 5, 3) := by decide +kernel
theorem dX7_most_79 : decode cX7_most 79 = .ok (.iload_n 2, 1) := by decide +kernel
theorem dX7_most_80 : decode cX7_most 80 = .ok (.ireturn, 1) := by decide +kernel
theorem dX7_most_81 : decode cX7_most 81 = .ok (.iinc 2 (-1), 3) := by decide +kernel
theorem dX7_most_84 : decode cX7_most 84 = .ok (.goto (-40), 3) := by decide +kernel
theorem dX7_most_87 : decode cX7_most 87 = .ok (.ldc 96, 2) := by decide +kernel
theorem dX7_most_89 : decode cX7_most 89 = .ok (.ireturn, 1) := by decide +kernel
theorem dX7_need_0 : decode cX7_need 0 = .ok (.aload_n 0, 1) := by decide +kernel
theorem dX7_need_1 : decode cX7_need 1 = .ok (.iconst 0, 1) := by decide +kernel
theorem dX7_need_2 : decode cX7_need 2 = .ok (.putfield 53, 3) := by decide +kernel
theorem dX7_need_5 : decode cX7_need 5 = .ok (.aload_n 0, 1) := by decide +kernel
theorem dX7_need_6 : decode cX7_need 6 = .ok (.iload_n 1, 1) := by decide +kernel
theorem dX7_need_7 : decode cX7_need 7 = .ok (.invokevirtual 201, 3) := by decide +kernel
theorem dX7_need_10 : decode cX7_need 10 = .ok (.ifCond .ne 6, 3) := by decide +kernel
theorem dX7_need_13 : decode cX7_need 13 = .ok (.ldc 73, 2) := by decide +kernel
theorem dX7_need_15 : decode cX7_need 15 = .ok (.ireturn, 1) := by decide +kernel
theorem dX7_need_16 : decode cX7_need 16 = .ok (.iconst 0, 1) := by decide +kernel
theorem dX7_need_17 : decode cX7_need 17 = .ok (.istore_n 2, 1) := by decide +kernel
theorem dX7_need_18 : decode cX7_need 18 = .ok (.aload_n 0, 1) := by decide +kernel
theorem dX7_need_19 : decode cX7_need 19 = .ok (.invokevirtual 237, 3) := by decide +kernel
theorem dX7_need_22 : decode cX7_need 22 = .ok (.iconst 0, 1) := by decide +kernel
theorem dX7_need_23 : decode cX7_need 23 = .ok (.istore_n 3, 1) := by decide +kernel
theorem dX7_need_24 : decode cX7_need 24 = .ok (.iload_n 3, 1) := by decide +kernel
theorem dX7_need_25 : decode cX7_need 25 = .ok (.aload_n 0, 1) := by decide +kernel
theorem dX7_need_26 : decode cX7_need 26 = .ok (.getfield 19, 3) := by decide +kernel
theorem dX7_need_29 : decode cX7_need 29 = .ok (.iconst 5, 1) := by decide +kernel
theorem dX7_need_30 : decode cX7_need 30 = .ok (.iaload, 1) := by decide +kernel
theorem dX7_need_31 : decode cX7_need 31 = .ok (.if_icmp .ge 40, 3) := by decide +kernel
theorem dX7_need_34 : decode cX7_need 34 = .ok (.aload_n 0, 1) := by decide +kernel
theorem dX7_need_35 : decode cX7_need 35 = .ok (.getfield 25, 3) := by decide +kernel
theorem dX7_need_38 : decode cX7_need 38 = .ok (.bipush 36, 2) := by decide +kernel
theorem dX7_need_40 : decode cX7_need 40 = .ok (.iload_n 1, 1) := by decide +kernel
theorem dX7_need_41 : decode cX7_need 41 = .ok (.iadd, 1) := by decide +kernel
theorem dX7_need_42 : decode cX7_need 42 = .ok (.iload_n 3, 1) := by decide +kernel
theorem dX7_need_43 : decode cX7_need 43 = .ok (.iastore, 1) := by decide +kernel
theorem dX7_need_44 : decode cX7_need 44 = .ok (.iload_n 2, 1) := by decide +kernel
theorem dX7_need_45 : decode cX7_need 45 = .ok (.aload_n 0, 1) := by decide +kernel
theorem dX7_need_46 : decode cX7_need 46 = .ok (.getfield 25, 3) := by decide +kernel
theorem dX7_need_49 : decode cX7_need 49 = .ok (.iload_n 1, 1) := by decide +kernel
theorem dX7_need_50 : decode cX7_need 50 = .ok (.invokestatic 182, 3) := by decide +kernel
theorem dX7_need_53 : decode cX7_need 53 = .ok (.ifCond .eq 9, 3) := by decide +kernel
theorem dX7_need_56 : decode cX7_need 56 = .ok (.iconst 1, 1) := by decide +kernel
theorem dX7_need_57 : decode cX7_need 57 = .ok (.iload_n 3, 1) := by decide +kernel
theorem dX7_need_58 : decode cX7_need 58 = .ok (.ishl, 1) := by decide +kernel
theorem dX7_need_59 : decode cX7_need 59 = .ok (.goto 4, 3) := by decide +kernel
theorem dX7_need_62 : decode cX7_need 62 = .ok (.iconst 0, 1) := by decide +kernel
theorem dX7_need_63 : decode cX7_need 63 = .ok (.ior, 1) := by decide +kernel
theorem dX7_need_64 : decode cX7_need 64 = .ok (.istore_n 2, 1) := by decide +kernel
theorem dX7_need_65 : decode cX7_need 65 = .ok (.iinc 3 1, 3) := by decide +kernel
theorem dX7_need_68 : decode cX7_need 68 = .ok (.goto (-44), 3) := by decide +kernel
theorem dX7_need_71 : decode cX7_need 71 = .ok (.iload_n 2, 1) := by decide +kernel
theorem dX7_need_72 : decode cX7_need 72 = .ok (.ireturn, 1) := by decide +kernel
theorem dX7_sets_0 : decode cX7_sets 0 = .ok (.aload_n 0, 1) := by decide +kernel
theorem dX7_sets_1 : decode cX7_sets 1 = .ok (.iconst 0, 1) := by decide +kernel
theorem dX7_sets_2 : decode cX7_sets 2 = .ok (.putfield 53, 3) := by decide +kernel
theorem dX7_sets_5 : decode cX7_sets 5 = .ok (.aload_n 0, 1) := by decide +kernel
theorem dX7_sets_6 : decode cX7_sets 6 = .ok (.invokevirtual 211, 3) := by decide +kernel
theorem dX7_sets_9 : decode cX7_sets 9 = .ok (.ifCond .ne 6, 3) := by decide +kernel
theorem dX7_sets_12 : decode cX7_sets 12 = .ok (.ldc 207, 2) := by decide +kernel
theorem dX7_sets_14 : decode cX7_sets 14 = .ok (.ireturn, 1) := by decide +kernel
theorem dX7_sets_15 : decode cX7_sets 15 = .ok (.iload_n 1, 1) := by decide +kernel
theorem dX7_sets_16 : decode cX7_sets 16 = .ok (.i2l, 1) := by decide +kernel
theorem dX7_sets_17 : decode cX7_sets 17 = .ok (.lconst 0, 1) := by decide +kernel
theorem dX7_sets_18 : decode cX7_sets 18 = .ok (.ldc2_w 243, 3) := by decide +kernel
theorem dX7_sets_21 : decode cX7_sets 21 = .ok (.invokestatic 63, 3) := by decide +kernel
theorem dX7_sets_24 : decode cX7_sets 24 = .ok (.ifCond .eq 15, 3) := by decide +kernel
theorem dX7_sets_27 : decode cX7_sets 27 = .ok (.iload_n 2, 1) := by decide +kernel
theorem dX7_sets_28 : decode cX7_sets 28 = .ok (.i2l, 1) := by decide +kernel
theorem dX7_sets_29 : decode cX7_sets 29 = .ok (.lconst 0, 1) := by decide +kernel
theorem dX7_sets_30 : decode cX7_sets 30 = .ok (.ldc2_w 71, 3) := by decide +kernel
theorem dX7_sets_33 : decode cX7_sets 33 = .ok (.invokestatic 63, 3) := by decide +kernel
theorem dX7_sets_36 : decode cX7_sets 36 = .ok (.ifCond .ne 6, 3) := by decide +kernel
theorem dX7_sets_39 : decode cX7_sets 39 = .ok (.ldc 73, 2) := by decide +kernel
theorem dX7_sets_41 : decode cX7_sets 41 = .ok (.ireturn, 1) := by decide +kernel
theorem dX7_sets_42 : decode cX7_sets 42 = .ok (.iconst 0, 1) := by decide +kernel
theorem dX7_sets_43 : decode cX7_sets 43 = .ok (.istore_n 3, 1) := by decide +kernel
theorem dX7_sets_44 : decode cX7_sets 44 = .ok (.iconst 0, 1) := by decide +kernel
theorem dX7_sets_45 : decode cX7_sets 45 = .ok (.istore 4, 2) := by decide +kernel
theorem dX7_sets_47 : decode cX7_sets 47 = .ok (.iconst 0, 1) := by decide +kernel
theorem dX7_sets_48 : decode cX7_sets 48 = .ok (.istore 5, 2) := by decide +kernel
theorem dX7_sets_50 : decode cX7_sets 50 = .ok (.iconst 0, 1) := by decide +kernel
theorem dX7_sets_51 : decode cX7_sets 51 = .ok (.istore 6, 2) := by decide +kernel
theorem dX7_sets_53 : decode cX7_sets 53 = .ok (.iload 6, 2) := by decide +kernel
theorem dX7_sets_55 : decode cX7_sets 55 = .ok (.iconst 1, 1) := by decide +kernel
theorem dX7_sets_56 : decode cX7_sets 56 = .ok (.aload_n 0, 1) := by decide +kernel
theorem dX7_sets_57 : decode cX7_sets 57 = .ok (.getfield 19, 3) := by decide +kernel
theorem dX7_sets_60 : decode cX7_sets 60 = .ok (.iconst 0, 1) := by decide +kernel
theorem dX7_sets_61 : decode cX7_sets 61 = .ok (.iaload, 1) := by decide +kernel
theorem dX7_sets_62 : decode cX7_sets 62 = .ok (.ishl, 1) := by decide +kernel
theorem dX7_sets_63 : decode cX7_sets 63 = .ok (.if_icmp .ge 161, 3) := by decide +kernel
theorem dX7_sets_66 : decode cX7_sets 66 = .ok (.iconst 0, 1) := by decide +kernel
theorem dX7_sets_67 : decode cX7_sets 67 = .ok (.istore 7, 2) := by decide +kernel
theorem dX7_sets_69 : decode cX7_sets 69 = .ok (.iconst 1, 1) := by decide +kernel
theorem dX7_sets_70 : decode cX7_sets 70 = .ok (.istore 8, 2) := by decide +kernel
theorem dX7_sets_72 : decode cX7_sets 72 = .ok (.iconst 0, 1) := by decide +kernel
theorem dX7_sets_73 : decode cX7_sets 73 = .ok (.istore 9, 2) := by decide +kernel
theorem dX7_sets_75 : decode cX7_sets 75 = .ok (.iload 9, 2) := by decide +kernel
theorem dX7_sets_77 : decode cX7_sets 77 = .ok (.aload_n 0, 1) := by decide +kernel
theorem dX7_sets_78 : decode cX7_sets 78 = .ok (.getfield 19, 3) := by decide +kernel
theorem dX7_sets_81 : decode cX7_sets 81 = .ok (.iconst 0, 1) := by decide +kernel
theorem dX7_sets_82 : decode cX7_sets 82 = .ok (.iaload, 1) := by decide +kernel
theorem dX7_sets_83 : decode cX7_sets 83 = .ok (.if_icmp .ge 98, 3) := by decide +kernel
theorem dX7_sets_86 : decode cX7_sets 86 = .ok (.aload_n 0, 1) := by decide +kernel
theorem dX7_sets_87 : decode cX7_sets 87 = .ok (.getfield 19, 3) := by decide +kernel
theorem dX7_sets_90 : decode cX7_sets 90 = .ok (.bipush 36, 2) := by decide +kernel
theorem dX7_sets_92 : decode cX7_sets 92 = .ok (.iload 9, 2) := by decide +kernel
theorem dX7_sets_94 : decode cX7_sets 94 = .ok (.iadd, 1) := by decide +kernel
theorem dX7_sets_95 : decode cX7_sets 95 = .ok (.iaload, 1) := by decide +kernel
theorem dX7_sets_96 : decode cX7_sets 96 = .ok (.ifCond .ge 7, 3) := by decide +kernel
theorem dX7_sets_99 : decode cX7_sets 99 = .ok (.iconst 1, 1) := by decide +kernel
theorem dX7_sets_100 : decode cX7_sets 100 = .ok (.goto 4, 3) := by decide +kernel
theorem dX7_sets_103 : decode cX7_sets 103 = .ok (.iconst 0, 1) := by decide +kernel
theorem dX7_sets_104 : decode cX7_sets 104 = .ok (.istore 10, 2) := by decide +kernel
theorem dX7_sets_106 : decode cX7_sets 106 = .ok (.iload 7, 2) := by decide +kernel
theorem dX7_sets_108 : decode cX7_sets 108 = .ok (.iload 6, 2) := by decide +kernel
theorem dX7_sets_110 : decode cX7_sets 110 = .ok (.iload 9, 2) := by decide +kernel
theorem dX7_sets_112 : decode cX7_sets 112 = .ok (.invokestatic 245, 3) := by decide +kernel
theorem dX7_sets_115 : decode cX7_sets 115 = .ok (.ifCond .eq 29, 3) := by decide +kernel
theorem dX7_sets_118 : decode cX7_sets 118 = .ok (.iload 10, 2) := by decide +kernel
theorem dX7_sets_120 : decode cX7_sets 120 = .ok (.ifCond .ne 24, 3) := by decide +kernel
theorem dX7_sets_123 : decode cX7_sets 123 = .ok (.aload_n 0, 1) := by decide +kernel
theorem dX7_sets_124 : decode cX7_sets 124 = .ok (.getfield 19, 3) := by decide +kernel
theorem dX7_sets_127 : decode cX7_sets 127 = .ok (.aload_n 0, 1) := by decide +kernel
theorem dX7_sets_128 : decode cX7_sets 128 = .ok (.getfield 19, 3) := by decide +kernel
theorem dX7_sets_131 : decode cX7_sets 131 = .ok (.bipush 36, 2) := by decide +kernel
theorem dX7_sets_133 : decode cX7_sets 133 = .ok (.iload 9, 2) := by decide +kernel
theorem dX7_sets_135 : decode cX7_sets 135 = .ok (.iadd, 1) := by decide +kernel
theorem dX7_sets_136 : decode cX7_sets 136 = .ok (.iaload, 1) := by decide +kernel
theorem dX7_sets_137 : decode cX7_sets 137 = .ok (.iconst 5, 1) := by decide +kernel
theorem dX7_sets_138 : decode cX7_sets 138 = .ok (.invokestatic 155, 3) := by decide +kernel
theorem dX7_sets_141 : decode cX7_sets 141 = .ok (.goto 4, 3) := by decide +kernel
theorem dX7_sets_144 : decode cX7_sets 144 = .ok (.iconst 0, 1) := by decide +kernel
theorem dX7_sets_145 : decode cX7_sets 145 = .ok (.iadd, 1) := by decide +kernel
theorem dX7_sets_146 : decode cX7_sets 146 = .ok (.istore 7, 2) := by decide +kernel
theorem dX7_sets_148 : decode cX7_sets 148 = .ok (.iload 8, 2) := by decide +kernel
theorem dX7_sets_150 : decode cX7_sets 150 = .ok (.ifCond .eq 22, 3) := by decide +kernel
theorem dX7_sets_153 : decode cX7_sets 153 = .ok (.iload 6, 2) := by decide +kernel
theorem dX7_sets_155 : decode cX7_sets 155 = .ok (.iload 9, 2) := by decide +kernel
theorem dX7_sets_157 : decode cX7_sets 157 = .ok (.invokestatic 245, 3) := by decide +kernel
theorem dX7_sets_160 : decode cX7_sets 160 = .ok (.ifCond .eq 8, 3) := by decide +kernel
theorem dX7_sets_163 : decode cX7_sets 163 = .ok (.iload 10, 2) := by decide +kernel
theorem dX7_sets_165 : decode cX7_sets 165 = .ok (.ifCond .ne 7, 3) := by decide +kernel
theorem dX7_sets_168 : decode cX7_sets 168 = .ok (.iconst 1, 1) := by decide +kernel
theorem dX7_sets_169 : decode cX7_sets 169 = .ok (.goto 4, 3) := by decide +kernel
theorem dX7_sets_172 : decode cX7_sets 172 = .ok (.iconst 0, 1) := by decide +kernel
theorem dX7_sets_173 : decode cX7_sets 173 = .ok (.istore 8, 2) := by decide +kernel
theorem dX7_sets_175 : decode cX7_sets 175 = .ok (.iinc 9 1, 3) := by decide +kernel
theorem dX7_sets_178 : decode cX7_sets 178 = .ok (.goto (-103), 3) := by decide +kernel
theorem dX7_sets_181 : decode cX7_sets 181 = .ok (.iload 8, 2) := by decide +kernel
theorem dX7_sets_183 : decode cX7_sets 183 = .ok (.ifCond .eq 35, 3) := by decide +kernel
theorem dX7_sets_186 : decode cX7_sets 186 = .ok (.iload 7, 2) := by decide +kernel
theorem dX7_sets_188 : decode cX7_sets 188 = .ok (.iload_n 1, 1) := by decide +kernel
theorem dX7_sets_189 : decode cX7_sets 189 = .ok (.if_icmp .ne 29, 3) := by decide +kernel
theorem dX7_sets_192 : decode cX7_sets 192 = .ok (.iload_n 3, 1) := by decide +kernel
theorem dX7_sets_193 : decode cX7_sets 193 = .ok (.ifCond .ne 8, 3) := by decide +kernel
theorem dX7_sets_196 : decode cX7_sets 196 = .ok (.iload 6, 2) := by decide +kernel
theorem dX7_sets_198 : decode cX7_sets 198 = .ok (.goto 8, 3) := by decide +kernel
theorem dX7_sets_201 : decode cX7_sets 201 = .ok (.iload 4, 2) := by decide +kernel
theorem dX7_sets_203 : decode cX7_sets 203 = .ok (.iload 6, 2) := by decide +kernel
theorem dX7_sets_205 : decode cX7_sets 205 = .ok (.iand, 1) := by decide +kernel
theorem dX7_sets_206 : decode cX7_sets 206 = .ok (.istore 4, 2) := by decide +kernel
theorem dX7_sets_208 : decode cX7_sets 208 = .ok (.iload 5, 2) := by decide +kernel
theorem dX7_sets_210 : decode cX7_sets 210 = .ok (.iload 6, 2) := by decide +kernel
theorem dX7_sets_212 : decode cX7_sets 212 = .ok (.ior, 1) := by decide +kernel
theorem dX7_sets_213 : decode cX7_sets 213 = .ok (.istore 5, 2) := by decide +kernel
theorem dX7_sets_215 : decode cX7_sets 215 = .ok (.iinc 3 1, 3) := by decide +kernel
theorem dX7_sets_218 : decode cX7_sets 218 = .ok (.iinc 6 1, 3) := by decide +kernel
theorem dX7_sets_221 : decode cX7_sets 221 = .ok (.goto (-168), 3) := by decide +kernel
theorem dX7_sets_224 : decode cX7_sets 224 = .ok (.iload_n 2, 1) := by decide +kernel
theorem dX7_sets_225 : decode cX7_sets 225 = .ok (.ifCond .ne 7, 3) := by decide +kernel
theorem dX7_sets_228 : decode cX7_sets 228 = .ok (.iload_n 3, 1) := by decide +kernel
theorem dX7_sets_229 : decode cX7_sets 229 = .ok (.goto 15, 3) := by decide +kernel
theorem dX7_sets_232 : decode cX7_sets 232 = .ok (.iload_n 2, 1) := by decide +kernel
theorem dX7_sets_233 : decode cX7_sets 233 = .ok (.iconst 1, 1) := by decide +kernel
theorem dX7_sets_234 : decode cX7_sets 234 = .ok (.if_icmp .ne 8, 3) := by decide +kernel
theorem dX7_sets_237 : decode cX7_sets 237 = .ok (.iload 4, 2) := by decide +kernel
theorem dX7_sets_239 : decode cX7_sets 239 = .ok (.goto 5, 3) := by decide +kernel
theorem dX7_sets_242 : decode cX7_sets 242 = .ok (.iload 5, 2) := by decide +kernel
theorem dX7_sets_244 : decode cX7_sets 244 = .ok (.ireturn, 1) := by decide +kernel
theorem dX7_heftAt_0 : decode cX7_heftAt 0 = .ok (.aload_n 0, 1) := by decide +kernel
theorem dX7_heftAt_1 : decode cX7_heftAt 1 = .ok (.getfield 19, 3) := by decide +kernel
theorem dX7_heftAt_4 : decode cX7_heftAt 4 = .ok (.bipush 36, 2) := by decide +kernel
theorem dX7_heftAt_6 : decode cX7_heftAt 6 = .ok (.iload_n 1, 1) := by decide +kernel
theorem dX7_heftAt_7 : decode cX7_heftAt 7 = .ok (.iadd, 1) := by decide +kernel
theorem dX7_heftAt_8 : decode cX7_heftAt 8 = .ok (.iaload, 1) := by decide +kernel
theorem dX7_heftAt_9 : decode cX7_heftAt 9 = .ok (.ifCond .ge 7, 3) := by decide +kernel
theorem dX7_heftAt_12 : decode cX7_heftAt 12 = .ok (.iconst 0, 1) := by decide +kernel
theorem dX7_heftAt_13 : decode cX7_heftAt 13 = .ok (.goto 20, 3) := by decide +kernel
theorem dX7_heftAt_16 : decode cX7_heftAt 16 = .ok (.aload_n 0, 1) := by decide +kernel
theorem dX7_heftAt_17 : decode cX7_heftAt 17 = .ok (.getfield 19, 3) := by decide +kernel
theorem dX7_heftAt_20 : decode cX7_heftAt 20 = .ok (.aload_n 0, 1) := by decide +kernel
theorem dX7_heftAt_21 : decode cX7_heftAt 21 = .ok (.getfield 19, 3) := by decide +kernel
theorem dX7_heftAt_24 : decode cX7_heftAt 24 = .ok (.bipush 36, 2) := by decide +kernel
theorem dX7_heftAt_26 : decode cX7_heftAt 26 = .ok (.iload_n 1, 1) := by decide +kernel
theorem dX7_heftAt_27 : decode cX7_heftAt 27 = .ok (.iadd, 1) := by decide +kernel
theorem dX7_heftAt_28 : decode cX7_heftAt 28 = .ok (.iaload, 1) := by decide +kernel
theorem dX7_heftAt_29 : decode cX7_heftAt 29 = .ok (.iconst 4, 1) := by decide +kernel
theorem dX7_heftAt_30 : decode cX7_heftAt 30 = .ok (.invokestatic 155, 3) := by decide +kernel
theorem dX7_heftAt_33 : decode cX7_heftAt 33 = .ok (.ireturn, 1) := by decide +kernel
theorem dX7_share_0 : decode cX7_share 0 = .ok (.aload_n 0, 1) := by decide +kernel
theorem dX7_share_1 : decode cX7_share 1 = .ok (.iconst 0, 1) := by decide +kernel
theorem dX7_share_2 : decode cX7_share 2 = .ok (.putfield 53, 3) := by decide +kernel
theorem dX7_share_5 : decode cX7_share 5 = .ok (.aload_n 0, 1) := by decide +kernel
theorem dX7_share_6 : decode cX7_share 6 = .ok (.iload_n 1, 1) := by decide +kernel
theorem dX7_share_7 : decode cX7_share 7 = .ok (.invokevirtual 201, 3) := by decide +kernel
theorem dX7_share_10 : decode cX7_share 10 = .ok (.ifCond .eq 15, 3) := by decide +kernel
theorem dX7_share_13 : decode cX7_share 13 = .ok (.iload_n 2, 1) := by decide +kernel
theorem dX7_share_14 : decode cX7_share 14 = .ok (.i2l, 1) := by decide +kernel
theorem dX7_share_15 : decode cX7_share 15 = .ok (.lconst 0, 1) := by decide +kernel
theorem dX7_share_16 : decode cX7_share 16 = .ok (.ldc2_w 249, 3) := by decide +kernel
theorem dX7_share_19 : decode cX7_share 19 = .ok (.invokestatic 63, 3) := by decide +kernel
theorem dX7_share_22 : decode cX7_share 22 = .ok (.ifCond .ne 6, 3) := by decide +kernel
theorem dX7_share_25 : decode cX7_share 25 = .ok (.ldc 73, 2) := by decide +kernel
theorem dX7_share_27 : decode cX7_share 27 = .ok (.ireturn, 1) := by decide +kernel
theorem dX7_share_28 : decode cX7_share 28 = .ok (.aload_n 0, 1) := by decide +kernel
theorem dX7_share_29 : decode cX7_share 29 = .ok (.getfield 19, 3) := by decide +kernel
theorem dX7_share_32 : decode cX7_share 32 = .ok (.iconst 0, 1) := by decide +kernel
theorem dX7_share_33 : decode cX7_share 33 = .ok (.invokestatic 175, 3) := by decide +kernel
theorem dX7_share_36 : decode cX7_share 36 = .ok (.istore_n 3, 1) := by decide +kernel
theorem dX7_share_37 : decode cX7_share 37 = .ok (.aload_n 0, 1) := by decide +kernel
theorem dX7_share_38 : decode cX7_share 38 = .ok (.iload_n 1, 1) := by decide +kernel
theorem dX7_share_39 : decode cX7_share 39 = .ok (.invokevirtual 251, 3) := by decide +kernel
theorem dX7_share_42 : decode cX7_share 42 = .ok (.istore 4, 2) := by decide +kernel
theorem dX7_share_44 : decode cX7_share 44 = .ok (.iload 4, 2) := by decide +kernel
theorem dX7_share_46 : decode cX7_share 46 = .ok (.ifCond .ne 5, 3) := by decide +kernel
theorem dX7_share_49 : decode cX7_share 49 = .ok (.iconst 0, 1) := by decide +kernel
theorem dX7_share_50 : decode cX7_share 50 = .ok (.ireturn, 1) := by decide +kernel
theorem dX7_share_51 : decode cX7_share 51 = .ok (.iload_n 2, 1) := by decide +kernel
theorem dX7_share_52 : decode cX7_share 52 = .ok (.istore 5, 2) := by decide +kernel
theorem dX7_share_54 : decode cX7_share 54 = .ok (.iconst 0, 1) := by decide +kernel
theorem dX7_share_55 : decode cX7_share 55 = .ok (.istore 6, 2) := by decide +kernel
theorem dX7_share_57 : decode cX7_share 57 = .ok (.iconst 0, 1) := by decide +kernel
theorem dX7_share_58 : decode cX7_share 58 = .ok (.istore 7, 2) := by decide +kernel
theorem dX7_share_60 : decode cX7_share 60 = .ok (.iload 7, 2) := by decide +kernel
theorem dX7_share_62 : decode cX7_share 62 = .ok (.aload_n 0, 1) := by decide +kernel
theorem dX7_share_63 : decode cX7_share 63 = .ok (.getfield 19, 3) := by decide +kernel
theorem dX7_share_66 : decode cX7_share 66 = .ok (.iconst 0, 1) := by decide +kernel
theorem dX7_share_67 : decode cX7_share 67 = .ok (.iaload, 1) := by decide +kernel
theorem dX7_share_68 : decode cX7_share 68 = .ok (.if_icmp .ge 49, 3) := by decide +kernel
theorem dX7_share_71 : decode cX7_share 71 = .ok (.iload 5, 2) := by decide +kernel
theorem dX7_share_73 : decode cX7_share 73 = .ok (.iload_n 2, 1) := by decide +kernel
theorem dX7_share_74 : decode cX7_share 74 = .ok (.aload_n 0, 1) := by decide +kernel
theorem dX7_share_75 : decode cX7_share 75 = .ok (.iload 7, 2) := by decide +kernel
theorem dX7_share_77 : decode cX7_share 77 = .ok (.invokevirtual 251, 3) := by decide +kernel
theorem dX7_share_80 : decode cX7_share 80 = .ok (.imul, 1) := by decide +kernel
theorem dX7_share_81 : decode cX7_share 81 = .ok (.iload_n 3, 1) := by decide +kernel
theorem dX7_share_82 : decode cX7_share 82 = .ok (.idiv, 1) := by decide +kernel
theorem dX7_share_83 : decode cX7_share 83 = .ok (.isub, 1) := by decide +kernel
theorem dX7_share_84 : decode cX7_share 84 = .ok (.istore 5, 2) := by decide +kernel
theorem dX7_share_86 : decode cX7_share 86 = .ok (.iload 6, 2) := by decide +kernel
theorem dX7_share_88 : decode cX7_share 88 = .ok (.iload 7, 2) := by decide +kernel
theorem dX7_share_90 : decode cX7_share 90 = .ok (.iload_n 1, 1) := by decide +kernel
theorem dX7_share_91 : decode cX7_share 91 = .ok (.if_icmp .ge 16, 3) := by decide +kernel
theorem dX7_share_94 : decode cX7_share 94 = .ok (.aload_n 0, 1) := by decide +kernel
theorem dX7_share_95 : decode cX7_share 95 = .ok (.iload 7, 2) := by decide +kernel
theorem dX7_share_97 : decode cX7_share 97 = .ok (.invokevirtual 251, 3) := by decide +kernel
theorem dX7_share_100 : decode cX7_share 100 = .ok (.ifCond .le 7, 3) := by decide +kernel
theorem dX7_share_103 : decode cX7_share 103 = .ok (.iconst 1, 1) := by decide +kernel
theorem dX7_share_104 : decode cX7_share 104 = .ok (.goto 4, 3) := by decide +kernel
theorem dX7_share_107 : decode cX7_share 107 = .ok (.iconst 0, 1) := by decide +kernel
theorem dX7_share_108 : decode cX7_share 108 = .ok (.iadd, 1) := by decide +kernel
theorem dX7_share_109 : decode cX7_share 109 = .ok (.istore 6, 2) := by decide +kernel
theorem dX7_share_111 : decode cX7_share 111 = .ok (.iinc 7 1, 3) := by decide +kernel
theorem dX7_share_114 : decode cX7_share 114 = .ok (.goto (-54), 3) := by decide +kernel
theorem dX7_share_117 : decode cX7_share 117 = .ok (.iload_n 2, 1) := by decide +kernel
theorem dX7_share_118 : decode cX7_share 118 = .ok (.iload 4, 2) := by decide +kernel
theorem dX7_share_120 : decode cX7_share 120 = .ok (.imul, 1) := by decide +kernel
theorem dX7_share_121 : decode cX7_share 121 = .ok (.iload_n 3, 1) := by decide +kernel
theorem dX7_share_122 : decode cX7_share 122 = .ok (.idiv, 1) := by decide +kernel
theorem dX7_share_123 : decode cX7_share 123 = .ok (.iload 6, 2) := by decide +kernel
theorem dX7_share_125 : decode cX7_share 125 = .ok (.iload 5, 2) := by decide +kernel
theorem dX7_share_127 : decode cX7_share 127 = .ok (.if_icmp .ge 7, 3) := by decide +kernel
theorem dX7_share_130 : decode cX7_share 130 = .ok (.iconst 1, 1) := by decide +kernel
theorem dX7_share_131 : decode cX7_share 131 = .ok (.goto 4, 3) := by decide +kernel
theorem dX7_share_134 : decode cX7_share 134 = .ok (.iconst 0, 1) := by decide +kernel
theorem dX7_share_135 : decode cX7_share 135 = .ok (.iadd, 1) := by decide +kernel
theorem dX7_share_136 : decode cX7_share 136 = .ok (.ireturn, 1) := by decide +kernel
theorem dX7_bestTurn_0 : decode cX7_bestTurn 0 = .ok (.ldc 96, 2) := by decide +kernel
theorem dX7_bestTurn_2 : decode cX7_bestTurn 2 = .ok (.istore_n 3, 1) := by decide +kernel
theorem dX7_bestTurn_3 : decode cX7_bestTurn 3 = .ok (.iconst 0, 1) := by decide +kernel
theorem dX7_bestTurn_4 : decode cX7_bestTurn 4 = .ok (.istore 4, 2) := by decide +kernel
theorem dX7_bestTurn_6 : decode cX7_bestTurn 6 = .ok (.iload 4, 2) := by decide +kernel
theorem dX7_bestTurn_8 : decode cX7_bestTurn 8 = .ok (.aload_n 0, 1) := by decide +kernel
theorem dX7_bestTurn_9 : decode cX7_bestTurn 9 = .ok (.getfield 19, 3) := by decide +kernel
theorem dX7_bestTurn_12 : decode cX7_bestTurn 12 = .ok (.iconst 5, 1) := by decide +kernel
theorem dX7_bestTurn_13 : decode cX7_bestTurn 13 = .ok (.iaload, 1) := by decide +kernel
theorem dX7_bestTurn_14 : decode cX7_bestTurn 14 = .ok (.if_icmp .ge 120, 3) := by decide +kernel
theorem dX7_bestTurn_17 : decode cX7_bestTurn 17 = .ok (.iload_n 2, 1) := by decide +kernel
theorem dX7_bestTurn_18 : decode cX7_bestTurn 18 = .ok (.aload_n 0, 1) := by decide +kernel
theorem dX7_bestTurn_19 : decode cX7_bestTurn 19 = .ok (.getfield 19, 3) := by decide +kernel
theorem dX7_bestTurn_22 : decode cX7_bestTurn 22 = .ok (.iload 4, 2) := by decide +kernel
theorem dX7_bestTurn_24 : decode cX7_bestTurn 24 = .ok (.iconst 4, 1) := by decide +kernel
theorem dX7_bestTurn_25 : decode cX7_bestTurn 25 = .ok (.invokestatic 155, 3) := by decide +kernel
theorem dX7_bestTurn_28 : decode cX7_bestTurn 28 = .ok (.iadd, 1) := by decide +kernel
theorem dX7_bestTurn_29 : decode cX7_bestTurn 29 = .ok (.istore 5, 2) := by decide +kernel
theorem dX7_bestTurn_31 : decode cX7_bestTurn 31 = .ok (.aload_n 0, 1) := by decide +kernel
theorem dX7_bestTurn_32 : decode cX7_bestTurn 32 = .ok (.getfield 19, 3) := by decide +kernel
theorem dX7_bestTurn_35 : decode cX7_bestTurn 35 = .ok (.aload_n 0, 1) := by decide +kernel
theorem dX7_bestTurn_36 : decode cX7_bestTurn 36 = .ok (.getfield 19, 3) := by decide +kernel
theorem dX7_bestTurn_39 : decode cX7_bestTurn 39 = .ok (.iconst 0, 1) := by decide +kernel
theorem dX7_bestTurn_40 : decode cX7_bestTurn 40 = .ok (.iaload, 1) := by decide +kernel
theorem dX7_bestTurn_41 : decode cX7_bestTurn 41 = .ok (.iconst 1, 1) := by decide +kernel
theorem dX7_bestTurn_42 : decode cX7_bestTurn 42 = .ok (.isub, 1) := by decide +kernel
theorem dX7_bestTurn_43 : decode cX7_bestTurn 43 = .ok (.iload_n 1, 1) := by decide +kernel
theorem dX7_bestTurn_44 : decode cX7_bestTurn 44 = .ok (.isub, 1) := by decide +kernel
theorem dX7_bestTurn_45 : decode cX7_bestTurn 45 = .ok (.iload 4, 2) := by decide +kernel
theorem dX7_bestTurn_47 : decode cX7_bestTurn 47 = .ok (.iload 5, 2) := by decide +kernel
theorem dX7_bestTurn_49 : decode cX7_bestTurn 49 = .ok (.invokestatic 178, 3) := by decide +kernel
theorem dX7_bestTurn_52 : decode cX7_bestTurn 52 = .ok (.ifCond .eq 76, 3) := by decide +kernel
theorem dX7_bestTurn_55 : decode cX7_bestTurn 55 = .ok (.aload_n 0, 1) := by decide +kernel
theorem dX7_bestTurn_56 : decode cX7_bestTurn 56 = .ok (.getfield 19, 3) := by decide +kernel
theorem dX7_bestTurn_59 : decode cX7_bestTurn 59 = .ok (.iload 4, 2) := by decide +kernel
theorem dX7_bestTurn_61 : decode cX7_bestTurn 61 = .ok (.iconst 5, 1) := by decide +kernel
theorem dX7_bestTurn_62 : decode cX7_bestTurn 62 = .ok (.invokestatic 155, 3) := by decide +kernel
theorem dX7_bestTurn_65 : decode cX7_bestTurn 65 = .ok (.aload_n 0, 1) := by decide +kernel
theorem dX7_bestTurn_66 : decode cX7_bestTurn 66 = .ok (.getfield 40, 3) := by decide +kernel
theorem dX7_bestTurn_69 : decode cX7_bestTurn 69 = .ok (.bipush 40, 2) := by decide +kernel
theorem dX7_bestTurn_71 : decode cX7_bestTurn 71 = .ok (.iload_n 1, 1) := by decide +kernel
theorem dX7_bestTurn_72 : decode cX7_bestTurn 72 = .ok (.iconst 1, 1) := by decide +kernel
theorem dX7_bestTurn_73 : decode cX7_bestTurn 73 = .ok (.iadd, 1) := by decide +kernel
theorem dX7_bestTurn_74 : decode cX7_bestTurn 74 = .ok (.imul, 1) := by decide +kernel
theorem dX7_bestTurn_75 : decode cX7_bestTurn 75 = .ok (.iload 5, 2) := by decide +kernel
theorem dX7_bestTurn_77 : decode cX7_bestTurn 77 = .ok (.iadd, 1) := by decide +kernel
theorem dX7_bestTurn_78 : decode cX7_bestTurn 78 = .ok (.iaload, 1) := by decide +kernel
theorem dX7_bestTurn_79 : decode cX7_bestTurn 79 = .ok (.iadd, 1) := by decide +kernel
theorem dX7_bestTurn_80 : decode cX7_bestTurn 80 = .ok (.istore 6, 2) := by decide +kernel
theorem dX7_bestTurn_82 : decode cX7_bestTurn 82 = .ok (.iload_n 3, 1) := by decide +kernel
theorem dX7_bestTurn_83 : decode cX7_bestTurn 83 = .ok (.ldc 96, 2) := by decide +kernel
theorem dX7_bestTurn_85 : decode cX7_bestTurn 85 = .ok (.if_icmp .eq 24, 3) := by decide +kernel
theorem dX7_bestTurn_88 : decode cX7_bestTurn 88 = .ok (.iload_n 1, 1) := by decide +kernel
theorem dX7_bestTurn_89 : decode cX7_bestTurn 89 = .ok (.iconst 2, 1) := by decide +kernel
theorem dX7_bestTurn_90 : decode cX7_bestTurn 90 = .ok (.irem, 1) := by decide +kernel
theorem dX7_bestTurn_91 : decode cX7_bestTurn 91 = .ok (.ifCond .ne 12, 3) := by decide +kernel
theorem dX7_bestTurn_94 : decode cX7_bestTurn 94 = .ok (.iload 6, 2) := by decide +kernel
theorem dX7_bestTurn_96 : decode cX7_bestTurn 96 = .ok (.iload_n 3, 1) := by decide +kernel
theorem dX7_bestTurn_97 : decode cX7_bestTurn 97 = .ok (.if_icmp .ge 16, 3) := by decide +kernel
theorem dX7_bestTurn_100 : decode cX7_bestTurn 100 = .ok (.goto 9, 3) := by decide +kernel
theorem dX7_bestTurn_103 : decode cX7_bestTurn 103 = .ok (.iload 6, 2) := by decide +kernel
theorem dX7_bestTurn_105 : decode cX7_bestTurn 105 = .ok (.iload_n 3, 1) := by decide +kernel
theorem dX7_bestTurn_106 : decode cX7_bestTurn 106 = .ok (.if_icmp .le 7, 3) := by decide +kernel
theorem dX7_bestTurn_109 : decode cX7_bestTurn 109 = .ok (.iconst 1, 1) := by decide +kernel
theorem dX7_bestTurn_110 : decode cX7_bestTurn 110 = .ok (.goto 4, 3) := by decide +kernel
theorem dX7_bestTurn_113 : decode cX7_bestTurn 113 = .ok (.iconst 0, 1) := by decide +kernel
theorem dX7_bestTurn_114 : decode cX7_bestTurn 114 = .ok (.istore 7, 2) := by decide +kernel
theorem dX7_bestTurn_116 : decode cX7_bestTurn 116 = .ok (.iload 7, 2) := by decide +kernel
theorem dX7_bestTurn_118 : decode cX7_bestTurn 118 = .ok (.ifCond .eq 8, 3) := by decide +kernel
theorem dX7_bestTurn_121 : decode cX7_bestTurn 121 = .ok (.iload 6, 2) := by decide +kernel
theorem dX7_bestTurn_123 : decode cX7_bestTurn 123 = .ok (.goto 4, 3) := by decide +kernel
theorem dX7_bestTurn_126 : decode cX7_bestTurn 126 = .ok (.iload_n 3, 1) := by decide +kernel
theorem dX7_bestTurn_127 : decode cX7_bestTurn 127 = .ok (.istore_n 3, 1) := by decide +kernel
theorem dX7_bestTurn_128 : decode cX7_bestTurn 128 = .ok (.iinc 4 1, 3) := by decide +kernel
theorem dX7_bestTurn_131 : decode cX7_bestTurn 131 = .ok (.goto (-125), 3) := by decide +kernel
theorem dX7_bestTurn_134 : decode cX7_bestTurn 134 = .ok (.iload_n 3, 1) := by decide +kernel
theorem dX7_bestTurn_135 : decode cX7_bestTurn 135 = .ok (.ldc 96, 2) := by decide +kernel
theorem dX7_bestTurn_137 : decode cX7_bestTurn 137 = .ok (.if_icmp .ne 7, 3) := by decide +kernel
theorem dX7_bestTurn_140 : decode cX7_bestTurn 140 = .ok (.iconst 0, 1) := by decide +kernel
theorem dX7_bestTurn_141 : decode cX7_bestTurn 141 = .ok (.goto 4, 3) := by decide +kernel
theorem dX7_bestTurn_144 : decode cX7_bestTurn 144 = .ok (.iload_n 3, 1) := by decide +kernel
theorem dX7_bestTurn_145 : decode cX7_bestTurn 145 = .ok (.ireturn, 1) := by decide +kernel
theorem dX7_byTurns_0 : decode cX7_byTurns 0 = .ok (.aload_n 0, 1) := by decide +kernel
theorem dX7_byTurns_1 : decode cX7_byTurns 1 = .ok (.iconst 0, 1) := by decide +kernel
theorem dX7_byTurns_2 : decode cX7_byTurns 2 = .ok (.putfield 53, 3) := by decide +kernel
theorem dX7_byTurns_5 : decode cX7_byTurns 5 = .ok (.aload_n 0, 1) := by decide +kernel
theorem dX7_byTurns_6 : decode cX7_byTurns 6 = .ok (.invokevirtual 211, 3) := by decide +kernel
theorem dX7_byTurns_9 : decode cX7_byTurns 9 = .ok (.ifCond .ne 6, 3) := by decide +kernel
theorem dX7_byTurns_12 : decode cX7_byTurns 12 = .ok (.ldc 207, 2) := by decide +kernel
theorem dX7_byTurns_14 : decode cX7_byTurns 14 = .ok (.ireturn, 1) := by decide +kernel
theorem dX7_byTurns_15 : decode cX7_byTurns 15 = .ok (.iload_n 1, 1) := by decide +kernel
theorem dX7_byTurns_16 : decode cX7_byTurns 16 = .ok (.i2l, 1) := by decide +kernel
theorem dX7_byTurns_17 : decode cX7_byTurns 17 = .ok (.lconst 0, 1) := by decide +kernel
theorem dX7_byTurns_18 : decode cX7_byTurns 18 = .ok (.ldc2_w 227, 3) := by decide +kernel
theorem dX7_byTurns_21 : decode cX7_byTurns 21 = .ok (.invokestatic 63, 3) := by decide +kernel
theorem dX7_byTurns_24 : decode cX7_byTurns 24 = .ok (.ifCond .eq 13, 3) := by decide +kernel
theorem dX7_byTurns_27 : decode cX7_byTurns 27 = .ok (.iload_n 1, 1) := by decide +kernel
theorem dX7_byTurns_28 : decode cX7_byTurns 28 = .ok (.aload_n 0, 1) := by decide +kernel
theorem dX7_byTurns_29 : decode cX7_byTurns 29 = .ok (.getfield 19, 3) := by decide +kernel
theorem dX7_byTurns_32 : decode cX7_byTurns 32 = .ok (.iconst 0, 1) := by decide +kernel
theorem dX7_byTurns_33 : decode cX7_byTurns 33 = .ok (.iaload, 1) := by decide +kernel
theorem dX7_byTurns_34 : decode cX7_byTurns 34 = .ok (.if_icmp .le 6, 3) := by decide +kernel
theorem dX7_byTurns_37 : decode cX7_byTurns 37 = .ok (.ldc 73, 2) := by decide +kernel
theorem dX7_byTurns_39 : decode cX7_byTurns 39 = .ok (.ireturn, 1) := by decide +kernel
theorem dX7_byTurns_40 : decode cX7_byTurns 40 = .ok (.iconst 0, 1) := by decide +kernel
theorem dX7_byTurns_41 : decode cX7_byTurns 41 = .ok (.istore_n 2, 1) := by decide +kernel
theorem dX7_byTurns_42 : decode cX7_byTurns 42 = .ok (.iload_n 2, 1) := by decide +kernel
theorem dX7_byTurns_43 : decode cX7_byTurns 43 = .ok (.bipush 40, 2) := by decide +kernel
theorem dX7_byTurns_45 : decode cX7_byTurns 45 = .ok (.if_icmp .ge 21, 3) := by decide +kernel
theorem dX7_byTurns_48 : decode cX7_byTurns 48 = .ok (.aload_n 0, 1) := by decide +kernel
theorem dX7_byTurns_49 : decode cX7_byTurns 49 = .ok (.getfield 40, 3) := by decide +kernel
theorem dX7_byTurns_52 : decode cX7_byTurns 52 = .ok (.bipush 40, 2) := by decide +kernel
theorem dX7_byTurns_54 : decode cX7_byTurns 54 = .ok (.iload_n 1, 1) := by decide +kernel
theorem dX7_byTurns_55 : decode cX7_byTurns 55 = .ok (.imul, 1) := by decide +kernel
theorem dX7_byTurns_56 : decode cX7_byTurns 56 = .ok (.iload_n 2, 1) := by decide +kernel
theorem dX7_byTurns_57 : decode cX7_byTurns 57 = .ok (.iadd, 1) := by decide +kernel
theorem dX7_byTurns_58 : decode cX7_byTurns 58 = .ok (.iconst 0, 1) := by decide +kernel
theorem dX7_byTurns_59 : decode cX7_byTurns 59 = .ok (.iastore, 1) := by decide +kernel
theorem dX7_byTurns_60 : decode cX7_byTurns 60 = .ok (.iinc 2 1, 3) := by decide +kernel
theorem dX7_byTurns_63 : decode cX7_byTurns 63 = .ok (.goto (-21), 3) := by decide +kernel
theorem dX7_byTurns_66 : decode cX7_byTurns 66 = .ok (.iload_n 1, 1) := by decide +kernel
theorem dX7_byTurns_67 : decode cX7_byTurns 67 = .ok (.iconst 1, 1) := by decide +kernel
theorem dX7_byTurns_68 : decode cX7_byTurns 68 = .ok (.isub, 1) := by decide +kernel
theorem dX7_byTurns_69 : decode cX7_byTurns 69 = .ok (.istore_n 2, 1) := by decide +kernel
theorem dX7_byTurns_70 : decode cX7_byTurns 70 = .ok (.iload_n 2, 1) := by decide +kernel
theorem dX7_byTurns_71 : decode cX7_byTurns 71 = .ok (.ifCond .lt 42, 3) := by decide +kernel
theorem dX7_byTurns_74 : decode cX7_byTurns 74 = .ok (.iconst 0, 1) := by decide +kernel
theorem dX7_byTurns_75 : decode cX7_byTurns 75 = .ok (.istore_n 3, 1) := by decide +kernel
theorem dX7_byTurns_76 : decode cX7_byTurns 76 = .ok (.iload_n 3, 1) := by decide +kernel
theorem dX7_byTurns_77 : decode cX7_byTurns 77 = .ok (.bipush 9, 2) := by decide +kernel
theorem dX7_byTurns_79 : decode cX7_byTurns 79 = .ok (.iload_n 2, 1) := by decide +kernel
theorem dX7_byTurns_80 : decode cX7_byTurns 80 = .ok (.imul, 1) := by decide +kernel
theorem dX7_byTurns_81 : decode cX7_byTurns 81 = .ok (.if_icmp .gt 26, 3) := by decide +kernel
theorem dX7_byTurns_84 : decode cX7_byTurns 84 = .ok (.aload_n 0, 1) := by decide +kernel
theorem dX7_byTurns_85 : decode cX7_byTurns 85 = .ok (.getfield 40, 3) := by decide +kernel
theorem dX7_byTurns_88 : decode cX7_byTurns 88 = .ok (.bipush 40, 2) := by decide +kernel
theorem dX7_byTurns_90 : decode cX7_byTurns 90 = .ok (.iload_n 2, 1) := by decide +kernel
theorem dX7_byTurns_91 : decode cX7_byTurns 91 = .ok (.imul, 1) := by decide +kernel
theorem dX7_byTurns_92 : decode cX7_byTurns 92 = .ok (.iload_n 3, 1) := by decide +kernel
theorem dX7_byTurns_93 : decode cX7_byTurns 93 = .ok (.iadd, 1) := by decide +kernel
theorem dX7_byTurns_94 : decode cX7_byTurns 94 = .ok (.aload_n 0, 1) := by decide +kernel
theorem dX7_byTurns_95 : decode cX7_byTurns 95 = .ok (.iload_n 2, 1) := by decide +kernel
theorem dX7_byTurns_96 : decode cX7_byTurns 96 = .ok (.iload_n 3, 1) := by decide +kernel
theorem dX7_byTurns_97 : decode cX7_byTurns 97 = .ok (.invokevirtual 254, 3) := by decide +kernel
theorem dX7_byTurns_100 : decode cX7_byTurns 100 = .ok (.iastore, 1) := by decide +kernel
theorem dX7_byTurns_101 : decode cX7_byTurns 101 = .ok (.iinc 3 1, 3) := by decide +kernel
theorem dX7_byTurns_104 : decode cX7_byTurns 104 = .ok (.goto (-28), 3) := by decide +kernel
theorem dX7_byTurns_107 : decode cX7_byTurns 107 = .ok (.iinc 2 (-1), 3) := by decide +kernel
theorem dX7_byTurns_110 : decode cX7_byTurns 110 = .ok (.goto (-40), 3) := by decide +kernel
theorem dX7_byTurns_113 : decode cX7_byTurns 113 = .ok (.aload_n 0, 1) := by decide +kernel
theorem dX7_byTurns_114 : decode cX7_byTurns 114 = .ok (.getfield 40, 3) := by decide +kernel
theorem dX7_byTurns_117 : decode cX7_byTurns 117 = .ok (.iconst 0, 1) := by decide +kernel
theorem dX7_byTurns_118 : decode cX7_byTurns 118 = .ok (.iaload, 1) := by decide +kernel
theorem dX7_byTurns_119 : decode cX7_byTurns 119 = .ok (.ireturn, 1) := by decide +kernel
theorem dX7_rowFound_0 : decode cX7_rowFound 0 = .ok (.aload_n 0, 1) := by decide +kernel
theorem dX7_rowFound_1 : decode cX7_rowFound 1 = .ok (.getfield 7, 3) := by decide +kernel
theorem dX7_rowFound_4 : decode cX7_rowFound 4 = .ok (.iload_n 1, 1) := by decide +kernel
theorem dX7_rowFound_5 : decode cX7_rowFound 5 = .ok (.iaload, 1) := by decide +kernel
theorem dX7_rowFound_6 : decode cX7_rowFound 6 = .ok (.ifCond .ge 9, 3) := by decide +kernel
theorem dX7_rowFound_9 : decode cX7_rowFound 9 = .ok (.aload_n 0, 1) := by decide +kernel
theorem dX7_rowFound_10 : decode cX7_rowFound 10 = .ok (.iconst 1, 1) := by decide +kernel
theorem dX7_rowFound_11 : decode cX7_rowFound 11 = .ok (.invokevirtual 74, 3) := by decide +kernel
theorem dX7_rowFound_14 : decode cX7_rowFound 14 = .ok (.ireturn, 1) := by decide +kernel
theorem dX7_rowFound_15 : decode cX7_rowFound 15 = .ok (.iload_n 2, 1) := by decide +kernel
theorem dX7_rowFound_16 : decode cX7_rowFound 16 = .ok (.ifCond .lt 19, 3) := by decide +kernel
theorem dX7_rowFound_19 : decode cX7_rowFound 19 = .ok (.iload_n 2, 1) := by decide +kernel
theorem dX7_rowFound_20 : decode cX7_rowFound 20 = .ok (.i2l, 1) := by decide +kernel
theorem dX7_rowFound_21 : decode cX7_rowFound 21 = .ok (.iload_n 3, 1) := by decide +kernel
theorem dX7_rowFound_22 : decode cX7_rowFound 22 = .ok (.i2l, 1) := by decide +kernel
theorem dX7_rowFound_23 : decode cX7_rowFound 23 = .ok (.ladd, 1) := by decide +kernel
theorem dX7_rowFound_24 : decode cX7_rowFound 24 = .ok (.aload_n 0, 1) := by decide +kernel
theorem dX7_rowFound_25 : decode cX7_rowFound 25 = .ok (.getfield 13, 3) := by decide +kernel
theorem dX7_rowFound_28 : decode cX7_rowFound 28 = .ok (.iload_n 1, 1) := by decide +kernel
theorem dX7_rowFound_29 : decode cX7_rowFound 29 = .ok (.iaload, 1) := by decide +kernel
theorem dX7_rowFound_30 : decode cX7_rowFound 30 = .ok (.i2l, 1) := by decide +kernel
theorem dX7_rowFound_31 : decode cX7_rowFound 31 = .ok (.lcmp, 1) := by decide +kernel
theorem dX7_rowFound_32 : decode cX7_rowFound 32 = .ok (.ifCond .le 9, 3) := by decide +kernel
theorem dX7_rowFound_35 : decode cX7_rowFound 35 = .ok (.aload_n 0, 1) := by decide +kernel
theorem dX7_rowFound_36 : decode cX7_rowFound 36 = .ok (.iconst 2, 1) := by decide +kernel
theorem dX7_rowFound_37 : decode cX7_rowFound 37 = .ok (.invokevirtual 74, 3) := by decide +kernel
theorem dX7_rowFound_40 : decode cX7_rowFound 40 = .ok (.ireturn, 1) := by decide +kernel
theorem dX7_rowFound_41 : decode cX7_rowFound 41 = .ok (.aload_n 0, 1) := by decide +kernel
theorem dX7_rowFound_42 : decode cX7_rowFound 42 = .ok (.iconst 0, 1) := by decide +kernel
theorem dX7_rowFound_43 : decode cX7_rowFound 43 = .ok (.putfield 57, 3) := by decide +kernel
theorem dX7_rowFound_46 : decode cX7_rowFound 46 = .ok (.iconst 0, 1) := by decide +kernel
theorem dX7_rowFound_47 : decode cX7_rowFound 47 = .ok (.ireturn, 1) := by decide +kernel
theorem dX7_who_0 : decode cX7_who 0 = .ok (.aload_n 0, 1) := by decide +kernel
theorem dX7_who_1 : decode cX7_who 1 = .ok (.iconst 0, 1) := by decide +kernel
theorem dX7_who_2 : decode cX7_who 2 = .ok (.putfield 53, 3) := by decide +kernel
theorem dX7_who_5 : decode cX7_who 5 = .ok (.aload_n 0, 1) := by decide +kernel
theorem dX7_who_6 : decode cX7_who 6 = .ok (.iload_n 1, 1) := by decide +kernel
theorem dX7_who_7 : decode cX7_who 7 = .ok (.invokevirtual 204, 3) := by decide +kernel
theorem dX7_who_10 : decode cX7_who 10 = .ok (.ifCond .eq 20, 3) := by decide +kernel
theorem dX7_who_13 : decode cX7_who 13 = .ok (.iload_n 2, 1) := by decide +kernel
theorem dX7_who_14 : decode cX7_who 14 = .ok (.i2l, 1) := by decide +kernel
theorem dX7_who_15 : decode cX7_who 15 = .ok (.lconst 0, 1) := by decide +kernel
theorem dX7_who_16 : decode cX7_who 16 = .ok (.lconst 1, 1) := by decide +kernel
theorem dX7_who_17 : decode cX7_who 17 = .ok (.invokestatic 63, 3) := by decide +kernel
theorem dX7_who_20 : decode cX7_who 20 = .ok (.ifCond .eq 10, 3) := by decide +kernel
theorem dX7_who_23 : decode cX7_who 23 = .ok (.iload_n 3, 1) := by decide +kernel
theorem dX7_who_24 : decode cX7_who 24 = .ok (.invokestatic 67, 3) := by decide +kernel
theorem dX7_who_27 : decode cX7_who 27 = .ok (.ifCond .ne 6, 3) := by decide +kernel
theorem dX7_who_30 : decode cX7_who 30 = .ok (.ldc 73, 2) := by decide +kernel
theorem dX7_who_32 : decode cX7_who 32 = .ok (.ireturn, 1) := by decide +kernel
theorem dX7_who_33 : decode cX7_who 33 = .ok (.aload_n 0, 1) := by decide +kernel
theorem dX7_who_34 : decode cX7_who 34 = .ok (.iload_n 3, 1) := by decide +kernel
theorem dX7_who_35 : decode cX7_who 35 = .ok (.iload 4, 2) := by decide +kernel
theorem dX7_who_37 : decode cX7_who 37 = .ok (.aload_n 0, 1) := by decide +kernel
theorem dX7_who_38 : decode cX7_who 38 = .ok (.getfield 19, 3) := by decide +kernel
theorem dX7_who_41 : decode cX7_who 41 = .ok (.iconst 0, 1) := by decide +kernel
theorem dX7_who_42 : decode cX7_who 42 = .ok (.iaload, 1) := by decide +kernel
theorem dX7_who_43 : decode cX7_who 43 = .ok (.invokevirtual 257, 3) := by decide +kernel
theorem dX7_who_46 : decode cX7_who 46 = .ok (.istore 5, 2) := by decide +kernel
theorem dX7_who_48 : decode cX7_who 48 = .ok (.iload 5, 2) := by decide +kernel
theorem dX7_who_50 : decode cX7_who 50 = .ok (.ifCond .eq 6, 3) := by decide +kernel
theorem dX7_who_53 : decode cX7_who 53 = .ok (.iload 5, 2) := by decide +kernel
theorem dX7_who_55 : decode cX7_who 55 = .ok (.ireturn, 1) := by decide +kernel
theorem dX7_who_56 : decode cX7_who 56 = .ok (.iconst 0, 1) := by decide +kernel
theorem dX7_who_57 : decode cX7_who 57 = .ok (.istore 6, 2) := by decide +kernel
theorem dX7_who_59 : decode cX7_who 59 = .ok (.iconst 1, 1) := by decide +kernel
theorem dX7_who_60 : decode cX7_who 60 = .ok (.istore 7, 2) := by decide +kernel
theorem dX7_who_62 : decode cX7_who 62 = .ok (.iload 7, 2) := by decide +kernel
theorem dX7_who_64 : decode cX7_who 64 = .ok (.iload_n 2, 1) := by decide +kernel
theorem dX7_who_65 : decode cX7_who 65 = .ok (.ifCond .ne 7, 3) := by decide +kernel
theorem dX7_who_68 : decode cX7_who 68 = .ok (.iconst 5, 1) := by decide +kernel
theorem dX7_who_69 : decode cX7_who 69 = .ok (.goto 4, 3) := by decide +kernel
theorem dX7_who_72 : decode cX7_who 72 = .ok (.iconst 3, 1) := by decide +kernel
theorem dX7_who_73 : decode cX7_who 73 = .ok (.if_icmp .gt 133, 3) := by decide +kernel
theorem dX7_who_76 : decode cX7_who 76 = .ok (.aload_n 0, 1) := by decide +kernel
theorem dX7_who_77 : decode cX7_who 77 = .ok (.invokevirtual 237, 3) := by decide +kernel
theorem dX7_who_80 : decode cX7_who 80 = .ok (.aload_n 0, 1) := by decide +kernel
theorem dX7_who_81 : decode cX7_who 81 = .ok (.getfield 25, 3) := by decide +kernel
theorem dX7_who_84 : decode cX7_who 84 = .ok (.iload_n 2, 1) := by decide +kernel
theorem dX7_who_85 : decode cX7_who 85 = .ok (.ifCond .ne 15, 3) := by decide +kernel
theorem dX7_who_88 : decode cX7_who 88 = .ok (.bipush 6, 2) := by decide +kernel
theorem dX7_who_90 : decode cX7_who 90 = .ok (.bipush 6, 2) := by decide +kernel
theorem dX7_who_92 : decode cX7_who 92 = .ok (.iload_n 1, 1) := by decide +kernel
theorem dX7_who_93 : decode cX7_who 93 = .ok (.imul, 1) := by decide +kernel
theorem dX7_who_94 : decode cX7_who 94 = .ok (.iadd, 1) := by decide +kernel
theorem dX7_who_95 : decode cX7_who 95 = .ok (.iconst 0, 1) := by decide +kernel
theorem dX7_who_96 : decode cX7_who 96 = .ok (.iadd, 1) := by decide +kernel
theorem dX7_who_97 : decode cX7_who 97 = .ok (.goto 4, 3) := by decide +kernel
theorem dX7_who_100 : decode cX7_who 100 = .ok (.iconst 1, 1) := by decide +kernel
theorem dX7_who_101 : decode cX7_who 101 = .ok (.iload 7, 2) := by decide +kernel
theorem dX7_who_103 : decode cX7_who 103 = .ok (.iastore, 1) := by decide +kernel
theorem dX7_who_104 : decode cX7_who 104 = .ok (.aload_n 0, 1) := by decide +kernel
theorem dX7_who_105 : decode cX7_who 105 = .ok (.aload_n 0, 1) := by decide +kernel
theorem dX7_who_106 : decode cX7_who 106 = .ok (.getfield 25, 3) := by decide +kernel
theorem dX7_who_109 : decode cX7_who 109 = .ok (.iconst (-1), 1) := by decide +kernel
theorem dX7_who_110 : decode cX7_who 110 = .ok (.invokevirtual 214, 3) := by decide +kernel
theorem dX7_who_113 : decode cX7_who 113 = .ok (.ldc 189, 2) := by decide +kernel
theorem dX7_who_115 : decode cX7_who 115 = .ok (.if_icmp .ge 7, 3) := by decide +kernel
theorem dX7_who_118 : decode cX7_who 118 = .ok (.iconst 1, 1) := by decide +kernel
theorem dX7_who_119 : decode cX7_who 119 = .ok (.goto 4, 3) := by decide +kernel
theorem dX7_who_122 : decode cX7_who 122 = .ok (.iconst 0, 1) := by decide +kernel
theorem dX7_who_123 : decode cX7_who 123 = .ok (.istore 8, 2) := by decide +kernel
theorem dX7_who_125 : decode cX7_who 125 = .ok (.iconst 0, 1) := by decide +kernel
theorem dX7_who_126 : decode cX7_who 126 = .ok (.istore 9, 2) := by decide +kernel
theorem dX7_who_128 : decode cX7_who 128 = .ok (.iload 9, 2) := by decide +kernel
theorem dX7_who_130 : decode cX7_who 130 = .ok (.aload_n 0, 1) := by decide +kernel
theorem dX7_who_131 : decode cX7_who 131 = .ok (.getfield 19, 3) := by decide +kernel
theorem dX7_who_134 : decode cX7_who 134 = .ok (.iconst 0, 1) := by decide +kernel
theorem dX7_who_135 : decode cX7_who 135 = .ok (.iaload, 1) := by decide +kernel
theorem dX7_who_136 : decode cX7_who 136 = .ok (.if_icmp .ge 46, 3) := by decide +kernel
theorem dX7_who_139 : decode cX7_who 139 = .ok (.iload 8, 2) := by decide +kernel
theorem dX7_who_141 : decode cX7_who 141 = .ok (.ifCond .eq 32, 3) := by decide +kernel
theorem dX7_who_144 : decode cX7_who 144 = .ok (.aload_n 0, 1) := by decide +kernel
theorem dX7_who_145 : decode cX7_who 145 = .ok (.getfield 37, 3) := by decide +kernel
theorem dX7_who_148 : decode cX7_who 148 = .ok (.iload 9, 2) := by decide +kernel
theorem dX7_who_150 : decode cX7_who 150 = .ok (.iaload, 1) := by decide +kernel
theorem dX7_who_151 : decode cX7_who 151 = .ok (.aload_n 0, 1) := by decide +kernel
theorem dX7_who_152 : decode cX7_who 152 = .ok (.getfield 16, 3) := by decide +kernel
theorem dX7_who_155 : decode cX7_who 155 = .ok (.bipush 40, 2) := by decide +kernel
theorem dX7_who_157 : decode cX7_who 157 = .ok (.iload_n 3, 1) := by decide +kernel
theorem dX7_who_158 : decode cX7_who 158 = .ok (.imul, 1) := by decide +kernel
theorem dX7_who_159 : decode cX7_who 159 = .ok (.iload 4, 2) := by decide +kernel
theorem dX7_who_161 : decode cX7_who 161 = .ok (.iadd, 1) := by decide +kernel
theorem dX7_who_162 : decode cX7_who 162 = .ok (.iload 9, 2) := by decide +kernel
theorem dX7_who_164 : decode cX7_who 164 = .ok (.iadd, 1) := by decide +kernel
theorem dX7_who_165 : decode cX7_who 165 = .ok (.iaload, 1) := by decide +kernel
theorem dX7_who_166 : decode cX7_who 166 = .ok (.if_icmp .ne 7, 3) := by decide +kernel
theorem dX7_who_169 : decode cX7_who 169 = .ok (.iconst 1, 1) := by decide +kernel
theorem dX7_who_170 : decode cX7_who 170 = .ok (.goto 4, 3) := by decide +kernel
theorem dX7_who_173 : decode cX7_who 173 = .ok (.iconst 0, 1) := by decide +kernel
theorem dX7_who_174 : decode cX7_who 174 = .ok (.istore 8, 2) := by decide +kernel
theorem dX7_who_176 : decode cX7_who 176 = .ok (.iinc 9 1, 3) := by decide +kernel
theorem dX7_who_179 : decode cX7_who 179 = .ok (.goto (-51), 3) := by decide +kernel
theorem dX7_who_182 : decode cX7_who 182 = .ok (.iload 6, 2) := by decide +kernel
theorem dX7_who_184 : decode cX7_who 184 = .ok (.iload 8, 2) := by decide +kernel
theorem dX7_who_186 : decode cX7_who 186 = .ok (.ifCond .eq 10, 3) := by decide +kernel
theorem dX7_who_189 : decode cX7_who 189 = .ok (.iconst 1, 1) := by decide +kernel
theorem dX7_who_190 : decode cX7_who 190 = .ok (.iload 7, 2) := by decide +kernel
theorem dX7_who_192 : decode cX7_who 192 = .ok (.ishl, 1) := by decide +kernel
theorem dX7_who_193 : decode cX7_who 193 = .ok (.goto 4, 3) := by decide +kernel
theorem dX7_who_196 : decode cX7_who 196 = .ok (.iconst 0, 1) := by decide +kernel
theorem dX7_who_197 : decode cX7_who 197 = .ok (.ior, 1) := by decide +kernel
theorem dX7_who_198 : decode cX7_who 198 = .ok (.istore 6, 2) := by decide +kernel
theorem dX7_who_200 : decode cX7_who 200 = .ok (.iinc 7 1, 3) := by decide +kernel
theorem dX7_who_203 : decode cX7_who 203 = .ok (.goto (-141), 3) := by decide +kernel
theorem dX7_who_206 : decode cX7_who 206 = .ok (.iload 6, 2) := by decide +kernel
theorem dX7_who_208 : decode cX7_who 208 = .ok (.ireturn, 1) := by decide +kernel
theorem dX7_flaws_0 : decode cX7_flaws 0 = .ok (.aload_n 0, 1) := by decide +kernel
theorem dX7_flaws_1 : decode cX7_flaws 1 = .ok (.iconst 0, 1) := by decide +kernel
theorem dX7_flaws_2 : decode cX7_flaws 2 = .ok (.putfield 53, 3) := by decide +kernel
theorem dX7_flaws_5 : decode cX7_flaws 5 = .ok (.aload_n 0, 1) := by decide +kernel
theorem dX7_flaws_6 : decode cX7_flaws 6 = .ok (.invokevirtual 211, 3) := by decide +kernel
theorem dX7_flaws_9 : decode cX7_flaws 9 = .ok (.ifCond .ne 7, 3) := by decide +kernel
theorem dX7_flaws_12 : decode cX7_flaws 12 = .ok (.ldc2_w 261, 3) := by decide +kernel
theorem dX7_flaws_15 : decode cX7_flaws 15 = .ok (.lreturn, 1) := by decide +kernel
theorem dX7_flaws_16 : decode cX7_flaws 16 = .ok (.iload_n 1, 1) := by decide +kernel
theorem dX7_flaws_17 : decode cX7_flaws 17 = .ok (.i2l, 1) := by decide +kernel
theorem dX7_flaws_18 : decode cX7_flaws 18 = .ok (.lconst 0, 1) := by decide +kernel
theorem dX7_flaws_19 : decode cX7_flaws 19 = .ok (.ldc2_w 263, 3) := by decide +kernel
theorem dX7_flaws_22 : decode cX7_flaws 22 = .ok (.invokestatic 63, 3) := by decide +kernel
theorem dX7_flaws_25 : decode cX7_flaws 25 = .ok (.ifCond .eq 13, 3) := by decide +kernel
theorem dX7_flaws_28 : decode cX7_flaws 28 = .ok (.iload_n 2, 1) := by decide +kernel
theorem dX7_flaws_29 : decode cX7_flaws 29 = .ok (.i2l, 1) := by decide +kernel
theorem dX7_flaws_30 : decode cX7_flaws 30 = .ok (.lconst 0, 1) := by decide +kernel
theorem dX7_flaws_31 : decode cX7_flaws 31 = .ok (.lconst 1, 1) := by decide +kernel
theorem dX7_flaws_32 : decode cX7_flaws 32 = .ok (.invokestatic 63, 3) := by decide +kernel
theorem dX7_flaws_35 : decode cX7_flaws 35 = .ok (.ifCond .ne 7, 3) := by decide +kernel
theorem dX7_flaws_38 : decode cX7_flaws 38 = .ok (.ldc2_w 265, 3) := by decide +kernel
theorem dX7_flaws_41 : decode cX7_flaws 41 = .ok (.lreturn, 1) := by decide +kernel
theorem dX7_flaws_42 : decode cX7_flaws 42 = .ok (.lconst 1, 1) := by decide +kernel
theorem dX7_flaws_43 : decode cX7_flaws 43 = .ok (.lstore_n 3, 1) := by decide +kernel
theorem dX7_flaws_44 : decode cX7_flaws 44 = .ok (.lconst 1, 1) := by decide +kernel
theorem dX7_flaws_45 : decode cX7_flaws 45 = .ok (.lstore 5, 2) := by decide +kernel
theorem dX7_flaws_47 : decode cX7_flaws 47 = .ok (.iconst 0, 1) := by decide +kernel
theorem dX7_flaws_48 : decode cX7_flaws 48 = .ok (.istore 7, 2) := by decide +kernel
theorem dX7_flaws_50 : decode cX7_flaws 50 = .ok (.iload 7, 2) := by decide +kernel
theorem dX7_flaws_52 : decode cX7_flaws 52 = .ok (.aload_n 0, 1) := by decide +kernel
theorem dX7_flaws_53 : decode cX7_flaws 53 = .ok (.getfield 19, 3) := by decide +kernel
theorem dX7_flaws_56 : decode cX7_flaws 56 = .ok (.iconst 0, 1) := by decide +kernel
theorem dX7_flaws_57 : decode cX7_flaws 57 = .ok (.iaload, 1) := by decide +kernel
theorem dX7_flaws_58 : decode cX7_flaws 58 = .ok (.if_icmp .ge 101, 3) := by decide +kernel
theorem dX7_flaws_61 : decode cX7_flaws 61 = .ok (.aload_n 0, 1) := by decide +kernel
theorem dX7_flaws_62 : decode cX7_flaws 62 = .ok (.getfield 19, 3) := by decide +kernel
theorem dX7_flaws_65 : decode cX7_flaws 65 = .ok (.bipush 36, 2) := by decide +kernel
theorem dX7_flaws_67 : decode cX7_flaws 67 = .ok (.iload 7, 2) := by decide +kernel
theorem dX7_flaws_69 : decode cX7_flaws 69 = .ok (.iadd, 1) := by decide +kernel
theorem dX7_flaws_70 : decode cX7_flaws 70 = .ok (.iaload, 1) := by decide +kernel
theorem dX7_flaws_71 : decode cX7_flaws 71 = .ok (.istore 8, 2) := by decide +kernel
theorem dX7_flaws_73 : decode cX7_flaws 73 = .ok (.iload 8, 2) := by decide +kernel
theorem dX7_flaws_75 : decode cX7_flaws 75 = .ok (.ifCond .lt 30, 3) := by decide +kernel
theorem dX7_flaws_78 : decode cX7_flaws 78 = .ok (.aload_n 0, 1) := by decide +kernel
theorem dX7_flaws_79 : decode cX7_flaws 79 = .ok (.getfield 19, 3) := by decide +kernel
theorem dX7_flaws_82 : decode cX7_flaws 82 = .ok (.iload 8, 2) := by decide +kernel
theorem dX7_flaws_84 : decode cX7_flaws 84 = .ok (.invokestatic 163, 3) := by decide +kernel
theorem dX7_flaws_87 : decode cX7_flaws 87 = .ok (.iconst 2, 1) := by decide +kernel
theorem dX7_flaws_88 : decode cX7_flaws 88 = .ok (.idiv, 1) := by decide +kernel
theorem dX7_flaws_89 : decode cX7_flaws 89 = .ok (.aload_n 0, 1) := by decide +kernel
theorem dX7_flaws_90 : decode cX7_flaws 90 = .ok (.getfield 19, 3) := by decide +kernel
theorem dX7_flaws_93 : decode cX7_flaws 93 = .ok (.iload 7, 2) := by decide +kernel
theorem dX7_flaws_95 : decode cX7_flaws 95 = .ok (.invokestatic 166, 3) := by decide +kernel
theorem dX7_flaws_98 : decode cX7_flaws 98 = .ok (.if_icmp .lt 7, 3) := by decide +kernel
theorem dX7_flaws_101 : decode cX7_flaws 101 = .ok (.iconst 1, 1) := by decide +kernel
theorem dX7_flaws_102 : decode cX7_flaws 102 = .ok (.goto 4, 3) := by decide +kernel
theorem dX7_flaws_105 : decode cX7_flaws 105 = .ok (.iconst 0, 1) := by decide +kernel
theorem dX7_flaws_106 : decode cX7_flaws 106 = .ok (.istore 9, 2) := by decide +kernel
theorem dX7_flaws_108 : decode cX7_flaws 108 = .ok (.lload_n 3, 1) := by decide +kernel
theorem dX7_flaws_109 : decode cX7_flaws 109 = .ok (.aload_n 0, 1) := by decide +kernel
theorem dX7_flaws_110 : decode cX7_flaws 110 = .ok (.getfield 19, 3) := by decide +kernel
theorem dX7_flaws_113 : decode cX7_flaws 113 = .ok (.iload 7, 2) := by decide +kernel
theorem dX7_flaws_115 : decode cX7_flaws 115 = .ok (.invokestatic 182, 3) := by decide +kernel
theorem dX7_flaws_118 : decode cX7_flaws 118 = .ok (.ifCond .eq 24, 3) := by decide +kernel
theorem dX7_flaws_121 : decode cX7_flaws 121 = .ok (.ldc2_w 263, 3) := by decide +kernel
theorem dX7_flaws_124 : decode cX7_flaws 124 = .ok (.iload_n 1, 1) := by decide +kernel
theorem dX7_flaws_125 : decode cX7_flaws 125 = .ok (.i2l, 1) := by decide +kernel
theorem dX7_flaws_126 : decode cX7_flaws 126 = .ok (.lsub, 1) := by decide +kernel
theorem dX7_flaws_127 : decode cX7_flaws 127 = .ok (.iload 9, 2) := by decide +kernel
theorem dX7_flaws_129 : decode cX7_flaws 129 = .ok (.ifCond .eq 8, 3) := by decide +kernel
theorem dX7_flaws_132 : decode cX7_flaws 132 = .ok (.iload_n 1, 1) := by decide +kernel
theorem dX7_flaws_133 : decode cX7_flaws 133 = .ok (.i2l, 1) := by decide +kernel
theorem dX7_flaws_134 : decode cX7_flaws 134 = .ok (.goto 4, 3) := by decide +kernel
theorem dX7_flaws_137 : decode cX7_flaws 137 = .ok (.lconst 0, 1) := by decide +kernel
theorem dX7_flaws_138 : decode cX7_flaws 138 = .ok (.ladd, 1) := by decide +kernel
theorem dX7_flaws_139 : decode cX7_flaws 139 = .ok (.goto 4, 3) := by decide +kernel
theorem dX7_flaws_142 : decode cX7_flaws 142 = .ok (.lconst 0, 1) := by decide +kernel
theorem dX7_flaws_143 : decode cX7_flaws 143 = .ok (.lmul, 1) := by decide +kernel
theorem dX7_flaws_144 : decode cX7_flaws 144 = .ok (.lstore_n 3, 1) := by decide +kernel
theorem dX7_flaws_145 : decode cX7_flaws 145 = .ok (.lload 5, 2) := by decide +kernel
theorem dX7_flaws_147 : decode cX7_flaws 147 = .ok (.ldc2_w 263, 3) := by decide +kernel
theorem dX7_flaws_150 : decode cX7_flaws 150 = .ok (.lmul, 1) := by decide +kernel
theorem dX7_flaws_151 : decode cX7_flaws 151 = .ok (.lstore 5, 2) := by decide +kernel
theorem dX7_flaws_153 : decode cX7_flaws 153 = .ok (.iinc 7 1, 3) := by decide +kernel
theorem dX7_flaws_156 : decode cX7_flaws 156 = .ok (.goto (-106), 3) := by decide +kernel
theorem dX7_flaws_159 : decode cX7_flaws 159 = .ok (.lload_n 3, 1) := by decide +kernel
theorem dX7_flaws_160 : decode cX7_flaws 160 = .ok (.lstore 7, 2) := by decide +kernel
theorem dX7_flaws_162 : decode cX7_flaws 162 = .ok (.lload 5, 2) := by decide +kernel
theorem dX7_flaws_164 : decode cX7_flaws 164 = .ok (.lstore 9, 2) := by decide +kernel
theorem dX7_flaws_166 : decode cX7_flaws 166 = .ok (.lload 9, 2) := by decide +kernel
theorem dX7_flaws_168 : decode cX7_flaws 168 = .ok (.lconst 0, 1) := by decide +kernel
theorem dX7_flaws_169 : decode cX7_flaws 169 = .ok (.lcmp, 1) := by decide +kernel
theorem dX7_flaws_170 : decode cX7_flaws 170 = .ok (.ifCond .eq 21, 3) := by decide +kernel
theorem dX7_flaws_173 : decode cX7_flaws 173 = .ok (.lload 7, 2) := by decide +kernel
theorem dX7_flaws_175 : decode cX7_flaws 175 = .ok (.lload 9, 2) := by decide +kernel
theorem dX7_flaws_177 : decode cX7_flaws 177 = .ok (.lrem, 1) := by decide +kernel
theorem dX7_flaws_178 : decode cX7_flaws 178 = .ok (.lstore 11, 2) := by decide +kernel
theorem dX7_flaws_180 : decode cX7_flaws 180 = .ok (.lload 9, 2) := by decide +kernel
theorem dX7_flaws_182 : decode cX7_flaws 182 = .ok (.lstore 7, 2) := by decide +kernel
theorem dX7_flaws_184 : decode cX7_flaws 184 = .ok (.lload 11, 2) := by decide +kernel
theorem dX7_flaws_186 : decode cX7_flaws 186 = .ok (.lstore 9, 2) := by decide +kernel
theorem dX7_flaws_188 : decode cX7_flaws 188 = .ok (.goto (-22), 3) := by decide +kernel
theorem dX7_flaws_191 : decode cX7_flaws 191 = .ok (.iload_n 2, 1) := by decide +kernel
theorem dX7_flaws_192 : decode cX7_flaws 192 = .ok (.ifCond .ne 7, 3) := by decide +kernel
theorem dX7_flaws_195 : decode cX7_flaws 195 = .ok (.lload_n 3, 1) := by decide +kernel
theorem dX7_flaws_196 : decode cX7_flaws 196 = .ok (.goto 5, 3) := by decide +kernel
theorem dX7_flaws_199 : decode cX7_flaws 199 = .ok (.lload 5, 2) := by decide +kernel
theorem dX7_flaws_201 : decode cX7_flaws 201 = .ok (.lload 7, 2) := by decide +kernel
theorem dX7_flaws_203 : decode cX7_flaws 203 = .ok (.ldiv, 1) := by decide +kernel
theorem dX7_flaws_204 : decode cX7_flaws 204 = .ok (.lreturn, 1) := by decide +kernel
theorem dX7_drawn_0 : decode cX7_drawn 0 = .ok (.aload_n 0, 1) := by decide +kernel
theorem dX7_drawn_1 : decode cX7_drawn 1 = .ok (.iconst 0, 1) := by decide +kernel
theorem dX7_drawn_2 : decode cX7_drawn 2 = .ok (.putfield 53, 3) := by decide +kernel
theorem dX7_drawn_5 : decode cX7_drawn 5 = .ok (.aload_n 0, 1) := by decide +kernel
theorem dX7_drawn_6 : decode cX7_drawn 6 = .ok (.invokevirtual 211, 3) := by decide +kernel
theorem dX7_drawn_9 : decode cX7_drawn 9 = .ok (.ifCond .ne 6, 3) := by decide +kernel
theorem dX7_drawn_12 : decode cX7_drawn 12 = .ok (.ldc 207, 2) := by decide +kernel
theorem dX7_drawn_14 : decode cX7_drawn 14 = .ok (.ireturn, 1) := by decide +kernel
theorem dX7_drawn_15 : decode cX7_drawn 15 = .ok (.iload_n 1, 1) := by decide +kernel
theorem dX7_drawn_16 : decode cX7_drawn 16 = .ok (.i2l, 1) := by decide +kernel
theorem dX7_drawn_17 : decode cX7_drawn 17 = .ok (.lconst 0, 1) := by decide +kernel
theorem dX7_drawn_18 : decode cX7_drawn 18 = .ok (.ldc2_w 267, 3) := by decide +kernel
theorem dX7_drawn_21 : decode cX7_drawn 21 = .ok (.invokestatic 63, 3) := by decide +kernel
theorem dX7_drawn_24 : decode cX7_drawn 24 = .ok (.ifCond .eq 25, 3) := by decide +kernel
theorem dX7_drawn_27 : decode cX7_drawn 27 = .ok (.iload_n 2, 1) := by decide +kernel
theorem dX7_drawn_28 : decode cX7_drawn 28 = .ok (.i2l, 1) := by decide +kernel
theorem dX7_drawn_29 : decode cX7_drawn 29 = .ok (.lconst 1, 1) := by decide +kernel
theorem dX7_drawn_30 : decode cX7_drawn 30 = .ok (.ldc2_w 269, 3) := by decide +kernel
theorem dX7_drawn_33 : decode cX7_drawn 33 = .ok (.invokestatic 63, 3) := by decide +kernel
theorem dX7_drawn_36 : decode cX7_drawn 36 = .ok (.ifCond .eq 13, 3) := by decide +kernel
theorem dX7_drawn_39 : decode cX7_drawn 39 = .ok (.iload_n 3, 1) := by decide +kernel
theorem dX7_drawn_40 : decode cX7_drawn 40 = .ok (.i2l, 1) := by decide +kernel
theorem dX7_drawn_41 : decode cX7_drawn 41 = .ok (.lconst 0, 1) := by decide +kernel
theorem dX7_drawn_42 : decode cX7_drawn 42 = .ok (.lconst 1, 1) := by decide +kernel
theorem dX7_drawn_43 : decode cX7_drawn 43 = .ok (.invokestatic 63, 3) := by decide +kernel
theorem dX7_drawn_46 : decode cX7_drawn 46 = .ok (.ifCond .ne 6, 3) := by decide +kernel
theorem dX7_drawn_49 : decode cX7_drawn 49 = .ok (.ldc 73, 2) := by decide +kernel
theorem dX7_drawn_51 : decode cX7_drawn 51 = .ok (.ireturn, 1) := by decide +kernel
theorem dX7_drawn_52 : decode cX7_drawn 52 = .ok (.aload_n 0, 1) := by decide +kernel
theorem dX7_drawn_53 : decode cX7_drawn 53 = .ok (.invokevirtual 237, 3) := by decide +kernel
theorem dX7_drawn_56 : decode cX7_drawn 56 = .ok (.iload_n 2, 1) := by decide +kernel
theorem dX7_drawn_57 : decode cX7_drawn 57 = .ok (.i2l, 1) := by decide +kernel
theorem dX7_drawn_58 : decode cX7_drawn 58 = .ok (.lstore 4, 2) := by decide +kernel
theorem dX7_drawn_60 : decode cX7_drawn 60 = .ok (.iconst 0, 1) := by decide +kernel
theorem dX7_drawn_61 : decode cX7_drawn 61 = .ok (.istore 6, 2) := by decide +kernel
theorem dX7_drawn_63 : decode cX7_drawn 63 = .ok (.iconst 0, 1) := by decide +kernel
theorem dX7_drawn_64 : decode cX7_drawn 64 = .ok (.istore 7, 2) := by decide +kernel
theorem dX7_drawn_66 : decode cX7_drawn 66 = .ok (.iload 7, 2) := by decide +kernel
theorem dX7_drawn_68 : decode cX7_drawn 68 = .ok (.iload_n 1, 1) := by decide +kernel
theorem dX7_drawn_69 : decode cX7_drawn 69 = .ok (.if_icmp .ge 95, 3) := by decide +kernel
theorem dX7_drawn_72 : decode cX7_drawn 72 = .ok (.lload 4, 2) := by decide +kernel
theorem dX7_drawn_74 : decode cX7_drawn 74 = .ok (.ldc2_w 271, 3) := by decide +kernel
theorem dX7_drawn_77 : decode cX7_drawn 77 = .ok (.lmul, 1) := by decide +kernel
theorem dX7_drawn_78 : decode cX7_drawn 78 = .ok (.ldc2_w 273, 3) := by decide +kernel
theorem dX7_drawn_81 : decode cX7_drawn 81 = .ok (.lrem, 1) := by decide +kernel
theorem dX7_drawn_82 : decode cX7_drawn 82 = .ok (.lstore 4, 2) := by decide +kernel
theorem dX7_drawn_84 : decode cX7_drawn 84 = .ok (.aload_n 0, 1) := by decide +kernel
theorem dX7_drawn_85 : decode cX7_drawn 85 = .ok (.getfield 25, 3) := by decide +kernel
theorem dX7_drawn_88 : decode cX7_drawn 88 = .ok (.bipush 36, 2) := by decide +kernel
theorem dX7_drawn_90 : decode cX7_drawn 90 = .ok (.lload 4, 2) := by decide +kernel
theorem dX7_drawn_92 : decode cX7_drawn 92 = .ok (.aload_n 0, 1) := by decide +kernel
theorem dX7_drawn_93 : decode cX7_drawn 93 = .ok (.getfield 25, 3) := by decide +kernel
theorem dX7_drawn_96 : decode cX7_drawn 96 = .ok (.iconst 0, 1) := by decide +kernel
theorem dX7_drawn_97 : decode cX7_drawn 97 = .ok (.iaload, 1) := by decide +kernel
theorem dX7_drawn_98 : decode cX7_drawn 98 = .ok (.i2l, 1) := by decide +kernel
theorem dX7_drawn_99 : decode cX7_drawn 99 = .ok (.lrem, 1) := by decide +kernel
theorem dX7_drawn_100 : decode cX7_drawn 100 = .ok (.l2i, 1) := by decide +kernel
theorem dX7_drawn_101 : decode cX7_drawn 101 = .ok (.iadd, 1) := by decide +kernel
theorem dX7_drawn_102 : decode cX7_drawn 102 = .ok (.lload 4, 2) := by decide +kernel
theorem dX7_drawn_104 : decode cX7_drawn 104 = .ok (.ldc2_w 275, 3) := by decide +kernel
theorem dX7_drawn_107 : decode cX7_drawn 107 = .ok (.ldiv, 1) := by decide +kernel
theorem dX7_drawn_108 : decode cX7_drawn 108 = .ok (.aload_n 0, 1) := by decide +kernel
theorem dX7_drawn_109 : decode cX7_drawn 109 = .ok (.getfield 25, 3) := by decide +kernel
theorem dX7_drawn_112 : decode cX7_drawn 112 = .ok (.iconst 5, 1) := by decide +kernel
theorem dX7_drawn_113 : decode cX7_drawn 113 = .ok (.iaload, 1) := by decide +kernel
theorem dX7_drawn_114 : decode cX7_drawn 114 = .ok (.i2l, 1) := by decide +kernel
theorem dX7_drawn_115 : decode cX7_drawn 115 = .ok (.lrem, 1) := by decide +kernel
theorem dX7_drawn_116 : decode cX7_drawn 116 = .ok (.l2i, 1) := by decide +kernel
theorem dX7_drawn_117 : decode cX7_drawn 117 = .ok (.iastore, 1) := by decide +kernel
theorem dX7_drawn_118 : decode cX7_drawn 118 = .ok (.lload 4, 2) := by decide +kernel
theorem dX7_drawn_120 : decode cX7_drawn 120 = .ok (.ldc2_w 277, 3) := by decide +kernel
theorem dX7_drawn_123 : decode cX7_drawn 123 = .ok (.lrem, 1) := by decide +kernel
theorem dX7_drawn_124 : decode cX7_drawn 124 = .ok (.lconst 0, 1) := by decide +kernel
theorem dX7_drawn_125 : decode cX7_drawn 125 = .ok (.lcmp, 1) := by decide +kernel
theorem dX7_drawn_126 : decode cX7_drawn 126 = .ok (.ifCond .ne 20, 3) := by decide +kernel
theorem dX7_drawn_129 : decode cX7_drawn 129 = .ok (.aload_n 0, 1) := by decide +kernel
theorem dX7_drawn_130 : decode cX7_drawn 130 = .ok (.getfield 25, 3) := by decide +kernel
theorem dX7_drawn_133 : decode cX7_drawn 133 = .ok (.iconst 2, 1) := by decide +kernel
theorem dX7_drawn_134 : decode cX7_drawn 134 = .ok (.lload 4, 2) := by decide +kernel
theorem dX7_drawn_136 : decode cX7_drawn 136 = .ok (.ldc2_w 279, 3) := by decide +kernel
theorem dX7_drawn_139 : decode cX7_drawn 139 = .ok (.ldiv, 1) := by decide +kernel
theorem dX7_drawn_140 : decode cX7_drawn 140 = .ok (.ldc2_w 281, 3) := by decide +kernel
theorem dX7_drawn_143 : decode cX7_drawn 143 = .ok (.lrem, 1) := by decide +kernel
theorem dX7_drawn_144 : decode cX7_drawn 144 = .ok (.l2i, 1) := by decide +kernel
theorem dX7_drawn_145 : decode cX7_drawn 145 = .ok (.iastore, 1) := by decide +kernel
theorem dX7_drawn_146 : decode cX7_drawn 146 = .ok (.iload 6, 2) := by decide +kernel
theorem dX7_drawn_148 : decode cX7_drawn 148 = .ok (.aload_n 0, 1) := by decide +kernel
theorem dX7_drawn_149 : decode cX7_drawn 149 = .ok (.getfield 25, 3) := by decide +kernel
theorem dX7_drawn_152 : decode cX7_drawn 152 = .ok (.invokestatic 240, 3) := by decide +kernel
theorem dX7_drawn_155 : decode cX7_drawn 155 = .ok (.iadd, 1) := by decide +kernel
theorem dX7_drawn_156 : decode cX7_drawn 156 = .ok (.istore 6, 2) := by decide +kernel
theorem dX7_drawn_158 : decode cX7_drawn 158 = .ok (.iinc 7 1, 3) := by decide +kernel
theorem dX7_drawn_161 : decode cX7_drawn 161 = .ok (.goto (-95), 3) := by decide +kernel
theorem dX7_drawn_164 : decode cX7_drawn 164 = .ok (.iload_n 3, 1) := by decide +kernel
theorem dX7_drawn_165 : decode cX7_drawn 165 = .ok (.ifCond .ne 8, 3) := by decide +kernel
theorem dX7_drawn_168 : decode cX7_drawn 168 = .ok (.iload 6, 2) := by decide +kernel
theorem dX7_drawn_170 : decode cX7_drawn 170 = .ok (.goto 10, 3) := by decide +kernel
theorem dX7_drawn_173 : decode cX7_drawn 173 = .ok (.aload_n 0, 1) := by decide +kernel
theorem dX7_drawn_174 : decode cX7_drawn 174 = .ok (.getfield 25, 3) := by decide +kernel
theorem dX7_drawn_177 : decode cX7_drawn 177 = .ok (.invokestatic 217, 3) := by decide +kernel
theorem dX7_drawn_180 : decode cX7_drawn 180 = .ok (.ireturn, 1) := by decide +kernel
theorem dX7_image_0 : decode cX7_image 0 = .ok (.aload_n 0, 1) := by decide +kernel
theorem dX7_image_1 : decode cX7_image 1 = .ok (.iconst 0, 1) := by decide +kernel
theorem dX7_image_2 : decode cX7_image 2 = .ok (.putfield 53, 3) := by decide +kernel
theorem dX7_image_5 : decode cX7_image 5 = .ok (.iload_n 1, 1) := by decide +kernel
theorem dX7_image_6 : decode cX7_image 6 = .ok (.i2l, 1) := by decide +kernel
theorem dX7_image_7 : decode cX7_image 7 = .ok (.lconst 0, 1) := by decide +kernel
theorem dX7_image_8 : decode cX7_image 8 = .ok (.lconst 1, 1) := by decide +kernel
theorem dX7_image_9 : decode cX7_image 9 = .ok (.invokestatic 63, 3) := by decide +kernel
theorem dX7_image_12 : decode cX7_image 12 = .ok (.ifCond .ne 6, 3) := by decide +kernel
theorem dX7_image_15 : decode cX7_image 15 = .ok (.ldc 73, 2) := by decide +kernel
theorem dX7_image_17 : decode cX7_image 17 = .ok (.ireturn, 1) := by decide +kernel
theorem dX7_image_18 : decode cX7_image 18 = .ok (.aload_n 0, 1) := by decide +kernel
theorem dX7_image_19 : decode cX7_image 19 = .ok (.invokevirtual 211, 3) := by decide +kernel
theorem dX7_image_22 : decode cX7_image 22 = .ok (.ifCond .ne 6, 3) := by decide +kernel
theorem dX7_image_25 : decode cX7_image 25 = .ok (.ldc 207, 2) := by decide +kernel
theorem dX7_image_27 : decode cX7_image 27 = .ok (.ireturn, 1) := by decide +kernel
theorem dX7_image_28 : decode cX7_image 28 = .ok (.iconst 0, 1) := by decide +kernel
theorem dX7_image_29 : decode cX7_image 29 = .ok (.istore_n 2, 1) := by decide +kernel
theorem dX7_image_30 : decode cX7_image 30 = .ok (.iload_n 2, 1) := by decide +kernel
theorem dX7_image_31 : decode cX7_image 31 = .ok (.bipush 44, 2) := by decide +kernel
theorem dX7_image_33 : decode cX7_image 33 = .ok (.if_icmp .ge 26, 3) := by decide +kernel
theorem dX7_image_36 : decode cX7_image 36 = .ok (.aload_n 0, 1) := by decide +kernel
theorem dX7_image_37 : decode cX7_image 37 = .ok (.getfield 47, 3) := by decide +kernel
theorem dX7_image_40 : decode cX7_image 40 = .ok (.bipush 44, 2) := by decide +kernel
theorem dX7_image_42 : decode cX7_image 42 = .ok (.iload_n 1, 1) := by decide +kernel
theorem dX7_image_43 : decode cX7_image 43 = .ok (.imul, 1) := by decide +kernel
theorem dX7_image_44 : decode cX7_image 44 = .ok (.iload_n 2, 1) := by decide +kernel
theorem dX7_image_45 : decode cX7_image 45 = .ok (.iadd, 1) := by decide +kernel
theorem dX7_image_46 : decode cX7_image 46 = .ok (.aload_n 0, 1) := by decide +kernel
theorem dX7_image_47 : decode cX7_image 47 = .ok (.getfield 19, 3) := by decide +kernel
theorem dX7_image_50 : decode cX7_image 50 = .ok (.iload_n 2, 1) := by decide +kernel
theorem dX7_image_51 : decode cX7_image 51 = .ok (.iaload, 1) := by decide +kernel
theorem dX7_image_52 : decode cX7_image 52 = .ok (.iastore, 1) := by decide +kernel
theorem dX7_image_53 : decode cX7_image 53 = .ok (.iinc 2 1, 3) := by decide +kernel
theorem dX7_image_56 : decode cX7_image 56 = .ok (.goto (-26), 3) := by decide +kernel
theorem dX7_image_59 : decode cX7_image 59 = .ok (.aload_n 0, 1) := by decide +kernel
theorem dX7_image_60 : decode cX7_image 60 = .ok (.getfield 43, 3) := by decide +kernel
theorem dX7_image_63 : decode cX7_image 63 = .ok (.iload_n 1, 1) := by decide +kernel
theorem dX7_image_64 : decode cX7_image 64 = .ok (.iconst 1, 1) := by decide +kernel
theorem dX7_image_65 : decode cX7_image 65 = .ok (.bastore, 1) := by decide +kernel
theorem dX7_image_66 : decode cX7_image 66 = .ok (.iconst 1, 1) := by decide +kernel
theorem dX7_image_67 : decode cX7_image 67 = .ok (.ireturn, 1) := by decide +kernel
theorem dX7_restore_0 : decode cX7_restore 0 = .ok (.aload_n 0, 1) := by decide +kernel
theorem dX7_restore_1 : decode cX7_restore 1 = .ok (.iconst 0, 1) := by decide +kernel
theorem dX7_restore_2 : decode cX7_restore 2 = .ok (.putfield 53, 3) := by decide +kernel
theorem dX7_restore_5 : decode cX7_restore 5 = .ok (.iload_n 1, 1) := by decide +kernel
theorem dX7_restore_6 : decode cX7_restore 6 = .ok (.i2l, 1) := by decide +kernel
theorem dX7_restore_7 : decode cX7_restore 7 = .ok (.lconst 0, 1) := by decide +kernel
theorem dX7_restore_8 : decode cX7_restore 8 = .ok (.lconst 1, 1) := by decide +kernel
theorem dX7_restore_9 : decode cX7_restore 9 = .ok (.invokestatic 63, 3) := by decide +kernel
theorem dX7_restore_12 : decode cX7_restore 12 = .ok (.ifCond .ne 6, 3) := by decide +kernel
theorem dX7_restore_15 : decode cX7_restore 15 = .ok (.ldc 73, 2) := by decide +kernel
theorem dX7_restore_17 : decode cX7_restore 17 = .ok (.ireturn, 1) := by decide +kernel
theorem dX7_restore_18 : decode cX7_restore 18 = .ok (.aload_n 0, 1) := by decide +kernel
theorem dX7_restore_19 : decode cX7_restore 19 = .ok (.getfield 43, 3) := by decide +kernel
theorem dX7_restore_22 : decode cX7_restore 22 = .ok (.iload_n 1, 1) := by decide +kernel
theorem dX7_restore_23 : decode cX7_restore 23 = .ok (.baload, 1) := by decide +kernel
theorem dX7_restore_24 : decode cX7_restore 24 = .ok (.ifCond .ne 6, 3) := by decide +kernel
theorem dX7_restore_27 : decode cX7_restore 27 = .ok (.ldc 207, 2) := by decide +kernel
theorem dX7_restore_29 : decode cX7_restore 29 = .ok (.ireturn, 1) := by decide +kernel
theorem dX7_restore_30 : decode cX7_restore 30 = .ok (.iconst 0, 1) := by decide +kernel
theorem dX7_restore_31 : decode cX7_restore 31 = .ok (.istore_n 2, 1) := by decide +kernel
theorem dX7_restore_32 : decode cX7_restore 32 = .ok (.iload_n 2, 1) := by decide +kernel
theorem dX7_restore_33 : decode cX7_restore 33 = .ok (.bipush 44, 2) := by decide +kernel
theorem dX7_restore_35 : decode cX7_restore 35 = .ok (.if_icmp .ge 26, 3) := by decide +kernel
theorem dX7_restore_38 : decode cX7_restore 38 = .ok (.aload_n 0, 1) := by decide +kernel
theorem dX7_restore_39 : decode cX7_restore 39 = .ok (.getfield 19, 3) := by decide +kernel
theorem dX7_restore_42 : decode cX7_restore 42 = .ok (.iload_n 2, 1) := by decide +kernel
theorem dX7_restore_43 : decode cX7_restore 43 = .ok (.aload_n 0, 1) := by decide +kernel
theorem dX7_restore_44 : decode cX7_restore 44 = .ok (.getfield 47, 3) := by decide +kernel
theorem dX7_restore_47 : decode cX7_restore 47 = .ok (.bipush 44, 2) := by decide +kernel
theorem dX7_restore_49 : decode cX7_restore 49 = .ok (.iload_n 1, 1) := by decide +kernel
theorem dX7_restore_50 : decode cX7_restore 50 = .ok (.imul, 1) := by decide +kernel
theorem dX7_restore_51 : decode cX7_restore 51 = .ok (.iload_n 2, 1) := by decide +kernel
theorem dX7_restore_52 : decode cX7_restore 52 = .ok (.iadd, 1) := by decide +kernel
theorem dX7_restore_53 : decode cX7_restore 53 = .ok (.iaload, 1) := by decide +kernel
theorem dX7_restore_54 : decode cX7_restore 54 = .ok (.iastore, 1) := by decide +kernel
theorem dX7_restore_55 : decode cX7_restore 55 = .ok (.iinc 2 1, 3) := by decide +kernel
theorem dX7_restore_58 : decode cX7_restore 58 = .ok (.goto (-26), 3) := by decide +kernel
theorem dX7_restore_61 : decode cX7_restore 61 = .ok (.aload_n 0, 1) := by decide +kernel
theorem dX7_restore_62 : decode cX7_restore 62 = .ok (.iconst 0, 1) := by decide +kernel
theorem dX7_restore_63 : decode cX7_restore 63 = .ok (.putfield 152, 3) := by decide +kernel
theorem dX7_restore_66 : decode cX7_restore 66 = .ok (.iconst 1, 1) := by decide +kernel
theorem dX7_restore_67 : decode cX7_restore 67 = .ok (.ireturn, 1) := by decide +kernel
theorem dX7_isOf_0 : decode cX7_isOf 0 = .ok (.iload_n 1, 1) := by decide +kernel
theorem dX7_isOf_1 : decode cX7_isOf 1 = .ok (.ifCond .eq 28, 3) := by decide +kernel
theorem dX7_isOf_4 : decode cX7_isOf 4 = .ok (.iload_n 0, 1) := by decide +kernel
theorem dX7_isOf_5 : decode cX7_isOf 5 = .ok (.iload_n 1, 1) := by decide +kernel
theorem dX7_isOf_6 : decode cX7_isOf 6 = .ok (.if_icmp .eq 23, 3) := by decide +kernel
theorem dX7_isOf_9 : decode cX7_isOf 9 = .ok (.iload_n 1, 1) := by decide +kernel
theorem dX7_isOf_10 : decode cX7_isOf 10 = .ok (.iconst 1, 1) := by decide +kernel
theorem dX7_isOf_11 : decode cX7_isOf 11 = .ok (.if_icmp .ne 8, 3) := by decide +kernel
theorem dX7_isOf_14 : decode cX7_isOf 14 = .ok (.iload_n 0, 1) := by decide +kernel
theorem dX7_isOf_15 : decode cX7_isOf 15 = .ok (.iconst 4, 1) := by decide +kernel
theorem dX7_isOf_16 : decode cX7_isOf 16 = .ok (.if_icmp .lt 13, 3) := by decide +kernel
theorem dX7_isOf_19 : decode cX7_isOf 19 = .ok (.iload_n 1, 1) := by decide +kernel
theorem dX7_isOf_20 : decode cX7_isOf 20 = .ok (.iconst 4, 1) := by decide +kernel
theorem dX7_isOf_21 : decode cX7_isOf 21 = .ok (.if_icmp .ne 12, 3) := by decide +kernel
theorem dX7_isOf_24 : decode cX7_isOf 24 = .ok (.iload_n 0, 1) := by decide +kernel
theorem dX7_isOf_25 : decode cX7_isOf 25 = .ok (.iconst 5, 1) := by decide +kernel
theorem dX7_isOf_26 : decode cX7_isOf 26 = .ok (.if_icmp .ne 7, 3) := by decide +kernel
theorem dX7_isOf_29 : decode cX7_isOf 29 = .ok (.iconst 1, 1) := by decide +kernel
theorem dX7_isOf_30 : decode cX7_isOf 30 = .ok (.goto 4, 3) := by decide +kernel
theorem dX7_isOf_33 : decode cX7_isOf 33 = .ok (.iconst 0, 1) := by decide +kernel
theorem dX7_isOf_34 : decode cX7_isOf 34 = .ok (.ireturn, 1) := by decide +kernel
theorem dX7_kind_0 : decode cX7_kind 0 = .ok (.aload_n 0, 1) := by decide +kernel
theorem dX7_kind_1 : decode cX7_kind 1 = .ok (.iconst 0, 1) := by decide +kernel
theorem dX7_kind_2 : decode cX7_kind 2 = .ok (.putfield 53, 3) := by decide +kernel
theorem dX7_kind_5 : decode cX7_kind 5 = .ok (.aload_n 0, 1) := by decide +kernel
theorem dX7_kind_6 : decode cX7_kind 6 = .ok (.iload_n 1, 1) := by decide +kernel
theorem dX7_kind_7 : decode cX7_kind 7 = .ok (.invokevirtual 204, 3) := by decide +kernel
theorem dX7_kind_10 : decode cX7_kind 10 = .ok (.ifCond .eq 15, 3) := by decide +kernel
theorem dX7_kind_13 : decode cX7_kind 13 = .ok (.aload_n 0, 1) := by decide +kernel
theorem dX7_kind_14 : decode cX7_kind 14 = .ok (.getfield 19, 3) := by decide +kernel
theorem dX7_kind_17 : decode cX7_kind 17 = .ok (.iload_n 1, 1) := by decide +kernel
theorem dX7_kind_18 : decode cX7_kind 18 = .ok (.iconst 0, 1) := by decide +kernel
theorem dX7_kind_19 : decode cX7_kind 19 = .ok (.invokestatic 155, 3) := by decide +kernel
theorem dX7_kind_22 : decode cX7_kind 22 = .ok (.goto 5, 3) := by decide +kernel
theorem dX7_kind_25 : decode cX7_kind 25 = .ok (.ldc 73, 2) := by decide +kernel
theorem dX7_kind_27 : decode cX7_kind 27 = .ok (.ireturn, 1) := by decide +kernel
theorem dX7_as_0 : decode cX7_as 0 = .ok (.aload_n 0, 1) := by decide +kernel
theorem dX7_as_1 : decode cX7_as 1 = .ok (.iconst 0, 1) := by decide +kernel
theorem dX7_as_2 : decode cX7_as 2 = .ok (.putfield 53, 3) := by decide +kernel
theorem dX7_as_5 : decode cX7_as 5 = .ok (.aload_n 0, 1) := by decide +kernel
theorem dX7_as_6 : decode cX7_as 6 = .ok (.iload_n 1, 1) := by decide +kernel
theorem dX7_as_7 : decode cX7_as 7 = .ok (.invokevirtual 204, 3) := by decide +kernel
theorem dX7_as_10 : decode cX7_as 10 = .ok (.ifCond .eq 15, 3) := by decide +kernel
theorem dX7_as_13 : decode cX7_as 13 = .ok (.iload_n 2, 1) := by decide +kernel
theorem dX7_as_14 : decode cX7_as 14 = .ok (.i2l, 1) := by decide +kernel
theorem dX7_as_15 : decode cX7_as 15 = .ok (.lconst 0, 1) := by decide +kernel
theorem dX7_as_16 : decode cX7_as 16 = .ok (.ldc2_w 277, 3) := by decide +kernel
theorem dX7_as_19 : decode cX7_as 19 = .ok (.invokestatic 63, 3) := by decide +kernel
theorem dX7_as_22 : decode cX7_as 22 = .ok (.ifCond .ne 6, 3) := by decide +kernel
theorem dX7_as_25 : decode cX7_as 25 = .ok (.ldc 73, 2) := by decide +kernel
theorem dX7_as_27 : decode cX7_as 27 = .ok (.ireturn, 1) := by decide +kernel
theorem dX7_as_28 : decode cX7_as 28 = .ok (.aload_n 0, 1) := by decide +kernel
theorem dX7_as_29 : decode cX7_as 29 = .ok (.iconst 0, 1) := by decide +kernel
theorem dX7_as_30 : decode cX7_as 30 = .ok (.putfield 57, 3) := by decide +kernel
theorem dX7_as_33 : decode cX7_as 33 = .ok (.aload_n 0, 1) := by decide +kernel
theorem dX7_as_34 : decode cX7_as 34 = .ok (.getfield 19, 3) := by decide +kernel
theorem dX7_as_37 : decode cX7_as 37 = .ok (.iload_n 1, 1) := by decide +kernel
theorem dX7_as_38 : decode cX7_as 38 = .ok (.iconst 0, 1) := by decide +kernel
theorem dX7_as_39 : decode cX7_as 39 = .ok (.invokestatic 155, 3) := by decide +kernel
theorem dX7_as_42 : decode cX7_as 42 = .ok (.iload_n 2, 1) := by decide +kernel
theorem dX7_as_43 : decode cX7_as 43 = .ok (.invokestatic 283, 3) := by decide +kernel
theorem dX7_as_46 : decode cX7_as 46 = .ok (.ifCond .eq 7, 3) := by decide +kernel
theorem dX7_as_49 : decode cX7_as 49 = .ok (.iload_n 1, 1) := by decide +kernel
theorem dX7_as_50 : decode cX7_as 50 = .ok (.goto 8, 3) := by decide +kernel
theorem dX7_as_53 : decode cX7_as 53 = .ok (.aload_n 0, 1) := by decide +kernel
theorem dX7_as_54 : decode cX7_as 54 = .ok (.iconst 3, 1) := by decide +kernel
theorem dX7_as_55 : decode cX7_as 55 = .ok (.invokevirtual 74, 3) := by decide +kernel
theorem dX7_as_58 : decode cX7_as 58 = .ok (.ireturn, 1) := by decide +kernel
theorem dX7_began_0 : decode cX7_began 0 = .ok (.aload_n 0, 1) := by decide +kernel
theorem dX7_began_1 : decode cX7_began 1 = .ok (.getfield 286, 3) := by decide +kernel
theorem dX7_began_4 : decode cX7_began 4 = .ok (.bipush 16, 2) := by decide +kernel
theorem dX7_began_6 : decode cX7_began 6 = .ok (.if_icmp .ge 23, 3) := by decide +kernel
theorem dX7_began_9 : decode cX7_began 9 = .ok (.aload_n 0, 1) := by decide +kernel
theorem dX7_began_10 : decode cX7_began 10 = .ok (.getfield 50, 3) := by decide +kernel
theorem dX7_began_13 : decode cX7_began 13 = .ok (.aload_n 0, 1) := by decide +kernel
theorem dX7_began_14 : decode cX7_began 14 = .ok (.getfield 286, 3) := by decide +kernel
theorem dX7_began_17 : decode cX7_began 17 = .ok (.iload_n 1, 1) := by decide +kernel
theorem dX7_began_18 : decode cX7_began 18 = .ok (.iastore, 1) := by decide +kernel
theorem dX7_began_19 : decode cX7_began 19 = .ok (.aload_n 0, 1) := by decide +kernel
theorem dX7_began_20 : decode cX7_began 20 = .ok (.dup, 1) := by decide +kernel
theorem dX7_began_21 : decode cX7_began 21 = .ok (.getfield 286, 3) := by decide +kernel
theorem dX7_began_24 : decode cX7_began 24 = .ok (.iconst 1, 1) := by decide +kernel
theorem dX7_began_25 : decode cX7_began 25 = .ok (.iadd, 1) := by decide +kernel
theorem dX7_began_26 : decode cX7_began 26 = .ok (.putfield 286, 3) := by decide +kernel
theorem dX7_began_29 : decode cX7_began 29 = .ok (.return_, 1) := by decide +kernel
theorem dX7_plainSize_0 : decode cX7_plainSize 0 = .ok (.aload_n 0, 1) := by decide +kernel
theorem dX7_plainSize_1 : decode cX7_plainSize 1 = .ok (.bipush 10, 2) := by decide +kernel
theorem dX7_plainSize_3 : decode cX7_plainSize 3 = .ok (.invokevirtual 289, 3) := by decide +kernel
theorem dX7_plainSize_6 : decode cX7_plainSize 6 = .ok (.aload_n 0, 1) := by decide +kernel
theorem dX7_plainSize_7 : decode cX7_plainSize 7 = .ok (.getfield 19, 3) := by decide +kernel
theorem dX7_plainSize_10 : decode cX7_plainSize 10 = .ok (.iload_n 1, 1) := by decide +kernel
theorem dX7_plainSize_11 : decode cX7_plainSize 11 = .ok (.iconst 5, 1) := by decide +kernel
theorem dX7_plainSize_12 : decode cX7_plainSize 12 = .ok (.invokestatic 155, 3) := by decide +kernel
theorem dX7_plainSize_15 : decode cX7_plainSize 15 = .ok (.ireturn, 1) := by decide +kernel
theorem dX7_thickSize_0 : decode cX7_thickSize 0 = .ok (.aload_n 0, 1) := by decide +kernel
theorem dX7_thickSize_1 : decode cX7_thickSize 1 = .ok (.getfield 19, 3) := by decide +kernel
theorem dX7_thickSize_4 : decode cX7_thickSize 4 = .ok (.iload_n 1, 1) := by decide +kernel
theorem dX7_thickSize_5 : decode cX7_thickSize 5 = .ok (.iconst 0, 1) := by decide +kernel
theorem dX7_thickSize_6 : decode cX7_thickSize 6 = .ok (.invokestatic 155, 3) := by decide +kernel
theorem dX7_thickSize_9 : decode cX7_thickSize 9 = .ok (.iconst 5, 1) := by decide +kernel
theorem dX7_thickSize_10 : decode cX7_thickSize 10 = .ok (.if_icmp .ne 7, 3) := by decide +kernel
theorem dX7_thickSize_13 : decode cX7_thickSize 13 = .ok (.iconst 1, 1) := by decide +kernel
theorem dX7_thickSize_14 : decode cX7_thickSize 14 = .ok (.goto 4, 3) := by decide +kernel
theorem dX7_thickSize_17 : decode cX7_thickSize 17 = .ok (.iconst 0, 1) := by decide +kernel
theorem dX7_thickSize_18 : decode cX7_thickSize 18 = .ok (.istore_n 2, 1) := by decide +kernel
theorem dX7_thickSize_19 : decode cX7_thickSize 19 = .ok (.iload_n 2, 1) := by decide +kernel
theorem dX7_thickSize_20 : decode cX7_thickSize 20 = .ok (.ifCond .eq 9, 3) := by decide +kernel
theorem dX7_thickSize_23 : decode cX7_thickSize 23 = .ok (.aload_n 0, 1) := by decide +kernel
theorem dX7_thickSize_24 : decode cX7_thickSize 24 = .ok (.bipush 14, 2) := by decide +kernel
theorem dX7_thickSize_26 : decode cX7_thickSize 26 = .ok (.invokevirtual 289, 3) := by decide +kernel
theorem dX7_thickSize_29 : decode cX7_thickSize 29 = .ok (.aload_n 0, 1) := by decide +kernel
theorem dX7_thickSize_30 : decode cX7_thickSize 30 = .ok (.bipush 13, 2) := by decide +kernel
theorem dX7_thickSize_32 : decode cX7_thickSize 32 = .ok (.invokevirtual 289, 3) := by decide +kernel
theorem dX7_thickSize_35 : decode cX7_thickSize 35 = .ok (.aload_n 0, 1) := by decide +kernel
theorem dX7_thickSize_36 : decode cX7_thickSize 36 = .ok (.iload_n 1, 1) := by decide +kernel
theorem dX7_thickSize_37 : decode cX7_thickSize 37 = .ok (.invokevirtual 292, 3) := by decide +kernel
theorem dX7_thickSize_40 : decode cX7_thickSize 40 = .ok (.bipush 100, 2) := by decide +kernel
theorem dX7_thickSize_42 : decode cX7_thickSize 42 = .ok (.isub, 1) := by decide +kernel
theorem dX7_thickSize_43 : decode cX7_thickSize 43 = .ok (.istore_n 3, 1) := by decide +kernel
theorem dX7_thickSize_44 : decode cX7_thickSize 44 = .ok (.iload_n 2, 1) := by decide +kernel
theorem dX7_thickSize_45 : decode cX7_thickSize 45 = .ok (.ifCond .eq 9, 3) := by decide +kernel
theorem dX7_thickSize_48 : decode cX7_thickSize 48 = .ok (.iconst 2, 1) := by decide +kernel
theorem dX7_thickSize_49 : decode cX7_thickSize 49 = .ok (.iload_n 3, 1) := by decide +kernel
theorem dX7_thickSize_50 : decode cX7_thickSize 50 = .ok (.imul, 1) := by decide +kernel
theorem dX7_thickSize_51 : decode cX7_thickSize 51 = .ok (.goto 4, 3) := by decide +kernel
theorem dX7_thickSize_54 : decode cX7_thickSize 54 = .ok (.iload_n 3, 1) := by decide +kernel
theorem dX7_thickSize_55 : decode cX7_thickSize 55 = .ok (.ireturn, 1) := by decide +kernel
theorem dX7_markOf_0 : decode cX7_markOf 0 = .ok (.aload_n 0, 1) := by decide +kernel
theorem dX7_markOf_1 : decode cX7_markOf 1 = .ok (.getfield 19, 3) := by decide +kernel
theorem dX7_markOf_4 : decode cX7_markOf 4 = .ok (.iload_n 1, 1) := by decide +kernel
theorem dX7_markOf_5 : decode cX7_markOf 5 = .ok (.iconst 0, 1) := by decide +kernel
theorem dX7_markOf_6 : decode cX7_markOf 6 = .ok (.invokestatic 155, 3) := by decide +kernel
theorem dX7_markOf_9 : decode cX7_markOf 9 = .ok (.istore_n 2, 1) := by decide +kernel
theorem dX7_markOf_10 : decode cX7_markOf 10 = .ok (.iload_n 2, 1) := by decide +kernel
theorem dX7_markOf_11 : decode cX7_markOf 11 = .ok (.iconst 4, 1) := by decide +kernel
theorem dX7_markOf_12 : decode cX7_markOf 12 = .ok (.if_icmp .lt 23, 3) := by decide +kernel
theorem dX7_markOf_15 : decode cX7_markOf 15 = .ok (.aload_n 0, 1) := by decide +kernel
theorem dX7_markOf_16 : decode cX7_markOf 16 = .ok (.bipush 23, 2) := by decide +kernel
theorem dX7_markOf_18 : decode cX7_markOf 18 = .ok (.invokevirtual 289, 3) := by decide +kernel
theorem dX7_markOf_21 : decode cX7_markOf 21 = .ok (.aload_n 0, 1) := by decide +kernel
theorem dX7_markOf_22 : decode cX7_markOf 22 = .ok (.bipush 20, 2) := by decide +kernel
theorem dX7_markOf_24 : decode cX7_markOf 24 = .ok (.invokevirtual 289, 3) := by decide +kernel
theorem dX7_markOf_27 : decode cX7_markOf 27 = .ok (.iload_n 1, 1) := by decide +kernel
theorem dX7_markOf_28 : decode cX7_markOf 28 = .ok (.aload_n 0, 1) := by decide +kernel
theorem dX7_markOf_29 : decode cX7_markOf 29 = .ok (.iload_n 1, 1) := by decide +kernel
theorem dX7_markOf_30 : decode cX7_markOf 30 = .ok (.invokevirtual 295, 3) := by decide +kernel
theorem dX7_markOf_33 : decode cX7_markOf 33 = .ok (.isub, 1) := by decide +kernel
theorem dX7_markOf_34 : decode cX7_markOf 34 = .ok (.ireturn, 1) := by decide +kernel
theorem dX7_markOf_35 : decode cX7_markOf 35 = .ok (.iload_n 2, 1) := by decide +kernel
theorem dX7_markOf_36 : decode cX7_markOf 36 = .ok (.iconst 1, 1) := by decide +kernel
theorem dX7_markOf_37 : decode cX7_markOf 37 = .ok (.if_icmp .eq 19, 3) := by decide +kernel
theorem dX7_markOf_40 : decode cX7_markOf 40 = .ok (.aload_n 0, 1) := by decide +kernel
theorem dX7_markOf_41 : decode cX7_markOf 41 = .ok (.iload_n 2, 1) := by decide +kernel
theorem dX7_markOf_42 : decode cX7_markOf 42 = .ok (.iconst 3, 1) := by decide +kernel
theorem dX7_markOf_43 : decode cX7_markOf 43 = .ok (.if_icmp .ne 8, 3) := by decide +kernel
theorem dX7_markOf_46 : decode cX7_markOf 46 = .ok (.bipush 22, 2) := by decide +kernel
theorem dX7_markOf_48 : decode cX7_markOf 48 = .ok (.goto 5, 3) := by decide +kernel
theorem dX7_markOf_51 : decode cX7_markOf 51 = .ok (.bipush 24, 2) := by decide +kernel
theorem dX7_markOf_53 : decode cX7_markOf 53 = .ok (.invokevirtual 289, 3) := by decide +kernel
theorem dX7_markOf_56 : decode cX7_markOf 56 = .ok (.aload_n 0, 1) := by decide +kernel
theorem dX7_markOf_57 : decode cX7_markOf 57 = .ok (.bipush 21, 2) := by decide +kernel
theorem dX7_markOf_59 : decode cX7_markOf 59 = .ok (.invokevirtual 289, 3) := by decide +kernel
theorem dX7_markOf_62 : decode cX7_markOf 62 = .ok (.aload_n 0, 1) := by decide +kernel
theorem dX7_markOf_63 : decode cX7_markOf 63 = .ok (.bipush 20, 2) := by decide +kernel
theorem dX7_markOf_65 : decode cX7_markOf 65 = .ok (.invokevirtual 289, 3) := by decide +kernel
theorem dX7_markOf_68 : decode cX7_markOf 68 = .ok (.iload_n 1, 1) := by decide +kernel
theorem dX7_markOf_69 : decode cX7_markOf 69 = .ok (.aload_n 0, 1) := by decide +kernel
theorem dX7_markOf_70 : decode cX7_markOf 70 = .ok (.getfield 19, 3) := by decide +kernel
theorem dX7_markOf_73 : decode cX7_markOf 73 = .ok (.iload_n 1, 1) := by decide +kernel
theorem dX7_markOf_74 : decode cX7_markOf 74 = .ok (.iconst 4, 1) := by decide +kernel
theorem dX7_markOf_75 : decode cX7_markOf 75 = .ok (.invokestatic 155, 3) := by decide +kernel
theorem dX7_markOf_78 : decode cX7_markOf 78 = .ok (.iadd, 1) := by decide +kernel
theorem dX7_markOf_79 : decode cX7_markOf 79 = .ok (.istore_n 3, 1) := by decide +kernel
theorem dX7_markOf_80 : decode cX7_markOf 80 = .ok (.iload_n 2, 1) := by decide +kernel
theorem dX7_markOf_81 : decode cX7_markOf 81 = .ok (.iconst 1, 1) := by decide +kernel
theorem dX7_markOf_82 : decode cX7_markOf 82 = .ok (.if_icmp .ne 7, 3) := by decide +kernel
theorem dX7_markOf_85 : decode cX7_markOf 85 = .ok (.iload_n 3, 1) := by decide +kernel
theorem dX7_markOf_86 : decode cX7_markOf 86 = .ok (.goto 19, 3) := by decide +kernel
theorem dX7_markOf_89 : decode cX7_markOf 89 = .ok (.iload_n 2, 1) := by decide +kernel
theorem dX7_markOf_90 : decode cX7_markOf 90 = .ok (.iconst 3, 1) := by decide +kernel
theorem dX7_markOf_91 : decode cX7_markOf 91 = .ok (.if_icmp .ne 11, 3) := by decide +kernel
theorem dX7_markOf_94 : decode cX7_markOf 94 = .ok (.iload_n 3, 1) := by decide +kernel
theorem dX7_markOf_95 : decode cX7_markOf 95 = .ok (.sipush 1000, 3) := by decide +kernel
theorem dX7_markOf_98 : decode cX7_markOf 98 = .ok (.isub, 1) := by decide +kernel
theorem dX7_markOf_99 : decode cX7_markOf 99 = .ok (.goto 6, 3) := by decide +kernel
theorem dX7_markOf_102 : decode cX7_markOf 102 = .ok (.iconst 2, 1) := by decide +kernel
theorem dX7_markOf_103 : decode cX7_markOf 103 = .ok (.iload_n 3, 1) := by decide +kernel
theorem dX7_markOf_104 : decode cX7_markOf 104 = .ok (.imul, 1) := by decide +kernel
theorem dX7_markOf_105 : decode cX7_markOf 105 = .ok (.ireturn, 1) := by decide +kernel
theorem dX7_sizeOf_0 : decode cX7_sizeOf 0 = .ok (.aload_n 0, 1) := by decide +kernel
theorem dX7_sizeOf_1 : decode cX7_sizeOf 1 = .ok (.getfield 19, 3) := by decide +kernel
theorem dX7_sizeOf_4 : decode cX7_sizeOf 4 = .ok (.iload_n 1, 1) := by decide +kernel
theorem dX7_sizeOf_5 : decode cX7_sizeOf 5 = .ok (.iconst 0, 1) := by decide +kernel
theorem dX7_sizeOf_6 : decode cX7_sizeOf 6 = .ok (.invokestatic 155, 3) := by decide +kernel
theorem dX7_sizeOf_9 : decode cX7_sizeOf 9 = .ok (.istore_n 2, 1) := by decide +kernel
theorem dX7_sizeOf_10 : decode cX7_sizeOf 10 = .ok (.iload_n 2, 1) := by decide +kernel
theorem dX7_sizeOf_11 : decode cX7_sizeOf 11 = .ok (.iconst 4, 1) := by decide +kernel
theorem dX7_sizeOf_12 : decode cX7_sizeOf 12 = .ok (.if_icmp .lt 9, 3) := by decide +kernel
theorem dX7_sizeOf_15 : decode cX7_sizeOf 15 = .ok (.aload_n 0, 1) := by decide +kernel
theorem dX7_sizeOf_16 : decode cX7_sizeOf 16 = .ok (.iload_n 1, 1) := by decide +kernel
theorem dX7_sizeOf_17 : decode cX7_sizeOf 17 = .ok (.invokevirtual 295, 3) := by decide +kernel
theorem dX7_sizeOf_20 : decode cX7_sizeOf 20 = .ok (.ireturn, 1) := by decide +kernel
theorem dX7_sizeOf_21 : decode cX7_sizeOf 21 = .ok (.iload_n 2, 1) := by decide +kernel
theorem dX7_sizeOf_22 : decode cX7_sizeOf 22 = .ok (.iconst 2, 1) := by decide +kernel
theorem dX7_sizeOf_23 : decode cX7_sizeOf 23 = .ok (.if_icmp .ne 9, 3) := by decide +kernel
theorem dX7_sizeOf_26 : decode cX7_sizeOf 26 = .ok (.aload_n 0, 1) := by decide +kernel
theorem dX7_sizeOf_27 : decode cX7_sizeOf 27 = .ok (.bipush 12, 2) := by decide +kernel
theorem dX7_sizeOf_29 : decode cX7_sizeOf 29 = .ok (.invokevirtual 289, 3) := by decide +kernel
theorem dX7_sizeOf_32 : decode cX7_sizeOf 32 = .ok (.aload_n 0, 1) := by decide +kernel
theorem dX7_sizeOf_33 : decode cX7_sizeOf 33 = .ok (.bipush 11, 2) := by decide +kernel
theorem dX7_sizeOf_35 : decode cX7_sizeOf 35 = .ok (.invokevirtual 289, 3) := by decide +kernel
theorem dX7_sizeOf_38 : decode cX7_sizeOf 38 = .ok (.aload_n 0, 1) := by decide +kernel
theorem dX7_sizeOf_39 : decode cX7_sizeOf 39 = .ok (.iload_n 1, 1) := by decide +kernel
theorem dX7_sizeOf_40 : decode cX7_sizeOf 40 = .ok (.invokevirtual 292, 3) := by decide +kernel
theorem dX7_sizeOf_43 : decode cX7_sizeOf 43 = .ok (.istore_n 3, 1) := by decide +kernel
theorem dX7_sizeOf_44 : decode cX7_sizeOf 44 = .ok (.iload_n 3, 1) := by decide +kernel
theorem dX7_sizeOf_45 : decode cX7_sizeOf 45 = .ok (.aload_n 0, 1) := by decide +kernel
theorem dX7_sizeOf_46 : decode cX7_sizeOf 46 = .ok (.iload_n 1, 1) := by decide +kernel
theorem dX7_sizeOf_47 : decode cX7_sizeOf 47 = .ok (.invokevirtual 298, 3) := by decide +kernel
theorem dX7_sizeOf_50 : decode cX7_sizeOf 50 = .ok (.iadd, 1) := by decide +kernel
theorem dX7_sizeOf_51 : decode cX7_sizeOf 51 = .ok (.istore_n 3, 1) := by decide +kernel
theorem dX7_sizeOf_52 : decode cX7_sizeOf 52 = .ok (.iload_n 2, 1) := by decide +kernel
theorem dX7_sizeOf_53 : decode cX7_sizeOf 53 = .ok (.iconst 2, 1) := by decide +kernel
theorem dX7_sizeOf_54 : decode cX7_sizeOf 54 = .ok (.if_icmp .ne 8, 3) := by decide +kernel
theorem dX7_sizeOf_57 : decode cX7_sizeOf 57 = .ok (.iload_n 3, 1) := by decide +kernel
theorem dX7_sizeOf_58 : decode cX7_sizeOf 58 = .ok (.ineg, 1) := by decide +kernel
theorem dX7_sizeOf_59 : decode cX7_sizeOf 59 = .ok (.goto 4, 3) := by decide +kernel
theorem dX7_sizeOf_62 : decode cX7_sizeOf 62 = .ok (.iload_n 3, 1) := by decide +kernel
theorem dX7_sizeOf_63 : decode cX7_sizeOf 63 = .ok (.ireturn, 1) := by decide +kernel
theorem dX7_ask_0 : decode cX7_ask 0 = .ok (.aload_n 0, 1) := by decide +kernel
theorem dX7_ask_1 : decode cX7_ask 1 = .ok (.iconst 0, 1) := by decide +kernel
theorem dX7_ask_2 : decode cX7_ask 2 = .ok (.putfield 53, 3) := by decide +kernel
theorem dX7_ask_5 : decode cX7_ask 5 = .ok (.aload_n 0, 1) := by decide +kernel
theorem dX7_ask_6 : decode cX7_ask 6 = .ok (.iload_n 1, 1) := by decide +kernel
theorem dX7_ask_7 : decode cX7_ask 7 = .ok (.invokevirtual 204, 3) := by decide +kernel
theorem dX7_ask_10 : decode cX7_ask 10 = .ok (.ifCond .eq 13, 3) := by decide +kernel
theorem dX7_ask_13 : decode cX7_ask 13 = .ok (.iload_n 2, 1) := by decide +kernel
theorem dX7_ask_14 : decode cX7_ask 14 = .ok (.i2l, 1) := by decide +kernel
theorem dX7_ask_15 : decode cX7_ask 15 = .ok (.lconst 0, 1) := by decide +kernel
theorem dX7_ask_16 : decode cX7_ask 16 = .ok (.lconst 1, 1) := by decide +kernel
theorem dX7_ask_17 : decode cX7_ask 17 = .ok (.invokestatic 63, 3) := by decide +kernel
theorem dX7_ask_20 : decode cX7_ask 20 = .ok (.ifCond .ne 6, 3) := by decide +kernel
theorem dX7_ask_23 : decode cX7_ask 23 = .ok (.ldc 73, 2) := by decide +kernel
theorem dX7_ask_25 : decode cX7_ask 25 = .ok (.ireturn, 1) := by decide +kernel
theorem dX7_ask_26 : decode cX7_ask 26 = .ok (.aload_n 0, 1) := by decide +kernel
theorem dX7_ask_27 : decode cX7_ask 27 = .ok (.iconst 0, 1) := by decide +kernel
theorem dX7_ask_28 : decode cX7_ask 28 = .ok (.putfield 286, 3) := by decide +kernel
theorem dX7_ask_31 : decode cX7_ask 31 = .ok (.iload_n 2, 1) := by decide +kernel
theorem dX7_ask_32 : decode cX7_ask 32 = .ok (.ifCond .ne 11, 3) := by decide +kernel
theorem dX7_ask_35 : decode cX7_ask 35 = .ok (.aload_n 0, 1) := by decide +kernel
theorem dX7_ask_36 : decode cX7_ask 36 = .ok (.iload_n 1, 1) := by decide +kernel
theorem dX7_ask_37 : decode cX7_ask 37 = .ok (.invokevirtual 301, 3) := by decide +kernel
theorem dX7_ask_40 : decode cX7_ask 40 = .ok (.goto 8, 3) := by decide +kernel
theorem dX7_ask_43 : decode cX7_ask 43 = .ok (.aload_n 0, 1) := by decide +kernel
theorem dX7_ask_44 : decode cX7_ask 44 = .ok (.iload_n 1, 1) := by decide +kernel
theorem dX7_ask_45 : decode cX7_ask 45 = .ok (.invokevirtual 298, 3) := by decide +kernel
theorem dX7_ask_48 : decode cX7_ask 48 = .ok (.ireturn, 1) := by decide +kernel
theorem dX7_trace_0 : decode cX7_trace 0 = .ok (.aload_n 0, 1) := by decide +kernel
theorem dX7_trace_1 : decode cX7_trace 1 = .ok (.iconst 0, 1) := by decide +kernel
theorem dX7_trace_2 : decode cX7_trace 2 = .ok (.putfield 53, 3) := by decide +kernel
theorem dX7_trace_5 : decode cX7_trace 5 = .ok (.iload_n 1, 1) := by decide +kernel
theorem dX7_trace_6 : decode cX7_trace 6 = .ok (.i2l, 1) := by decide +kernel
theorem dX7_trace_7 : decode cX7_trace 7 = .ok (.lconst 0, 1) := by decide +kernel
theorem dX7_trace_8 : decode cX7_trace 8 = .ok (.aload_n 0, 1) := by decide +kernel
theorem dX7_trace_9 : decode cX7_trace 9 = .ok (.getfield 286, 3) := by decide +kernel
theorem dX7_trace_12 : decode cX7_trace 12 = .ok (.iconst 1, 1) := by decide +kernel
theorem dX7_trace_13 : decode cX7_trace 13 = .ok (.isub, 1) := by decide +kernel
theorem dX7_trace_14 : decode cX7_trace 14 = .ok (.i2l, 1) := by decide +kernel
theorem dX7_trace_15 : decode cX7_trace 15 = .ok (.invokestatic 63, 3) := by decide +kernel
theorem dX7_trace_18 : decode cX7_trace 18 = .ok (.ifCond .eq 12, 3) := by decide +kernel
theorem dX7_trace_21 : decode cX7_trace 21 = .ok (.aload_n 0, 1) := by decide +kernel
theorem dX7_trace_22 : decode cX7_trace 22 = .ok (.getfield 50, 3) := by decide +kernel
theorem dX7_trace_25 : decode cX7_trace 25 = .ok (.iload_n 1, 1) := by decide +kernel
theorem dX7_trace_26 : decode cX7_trace 26 = .ok (.iaload, 1) := by decide +kernel
theorem dX7_trace_27 : decode cX7_trace 27 = .ok (.goto 5, 3) := by decide +kernel
theorem dX7_trace_30 : decode cX7_trace 30 = .ok (.ldc 96, 2) := by decide +kernel
theorem dX7_trace_32 : decode cX7_trace 32 = .ok (.ireturn, 1) := by decide +kernel
theorem dX7_count_0 : decode cX7_count 0 = .ok (.aload_n 0, 1) := by decide +kernel
theorem dX7_count_1 : decode cX7_count 1 = .ok (.iconst 0, 1) := by decide +kernel
theorem dX7_count_2 : decode cX7_count 2 = .ok (.putfield 53, 3) := by decide +kernel
theorem dX7_count_5 : decode cX7_count 5 = .ok (.iconst 0, 1) := by decide +kernel
theorem dX7_count_6 : decode cX7_count 6 = .ok (.istore_n 2, 1) := by decide +kernel
theorem dX7_count_7 : decode cX7_count 7 = .ok (.iload_n 1, 1) := by decide +kernel
theorem dX7_count_8 : decode cX7_count 8 = .ok (.tableswitch 149 0 6 #[44, 77, 84, 91, 131, 139, 144], 44) := by decide +kernel
theorem dX7_count_52 : decode cX7_count 52 = .ok (.iconst 0, 1) := by decide +kernel
theorem dX7_count_53 : decode cX7_count 53 = .ok (.istore_n 3, 1) := by decide +kernel
theorem dX7_count_54 : decode cX7_count 54 = .ok (.iload_n 3, 1) := by decide +kernel
theorem dX7_count_55 : decode cX7_count 55 = .ok (.bipush 8, 2) := by decide +kernel
theorem dX7_count_57 : decode cX7_count 57 = .ok (.if_icmp .ge 26, 3) := by decide +kernel
theorem dX7_count_60 : decode cX7_count 60 = .ok (.iload_n 2, 1) := by decide +kernel
theorem dX7_count_61 : decode cX7_count 61 = .ok (.aload_n 0, 1) := by decide +kernel
theorem dX7_count_62 : decode cX7_count 62 = .ok (.getfield 7, 3) := by decide +kernel
theorem dX7_count_65 : decode cX7_count 65 = .ok (.iload_n 3, 1) := by decide +kernel
theorem dX7_count_66 : decode cX7_count 66 = .ok (.iaload, 1) := by decide +kernel
theorem dX7_count_67 : decode cX7_count 67 = .ok (.ifCond .lt 7, 3) := by decide +kernel
theorem dX7_count_70 : decode cX7_count 70 = .ok (.iconst 1, 1) := by decide +kernel
theorem dX7_count_71 : decode cX7_count 71 = .ok (.goto 4, 3) := by decide +kernel
theorem dX7_count_74 : decode cX7_count 74 = .ok (.iconst 0, 1) := by decide +kernel
theorem dX7_count_75 : decode cX7_count 75 = .ok (.iadd, 1) := by decide +kernel
theorem dX7_count_76 : decode cX7_count 76 = .ok (.istore_n 2, 1) := by decide +kernel
theorem dX7_count_77 : decode cX7_count 77 = .ok (.iinc 3 1, 3) := by decide +kernel
theorem dX7_count_80 : decode cX7_count 80 = .ok (.goto (-26), 3) := by decide +kernel
theorem dX7_count_83 : decode cX7_count 83 = .ok (.iload_n 2, 1) := by decide +kernel
theorem dX7_count_84 : decode cX7_count 84 = .ok (.ireturn, 1) := by decide +kernel
theorem dX7_count_85 : decode cX7_count 85 = .ok (.aload_n 0, 1) := by decide +kernel
theorem dX7_count_86 : decode cX7_count 86 = .ok (.getfield 19, 3) := by decide +kernel
theorem dX7_count_89 : decode cX7_count 89 = .ok (.iconst 5, 1) := by decide +kernel
theorem dX7_count_90 : decode cX7_count 90 = .ok (.iaload, 1) := by decide +kernel
theorem dX7_count_91 : decode cX7_count 91 = .ok (.ireturn, 1) := by decide +kernel
theorem dX7_count_92 : decode cX7_count 92 = .ok (.aload_n 0, 1) := by decide +kernel
theorem dX7_count_93 : decode cX7_count 93 = .ok (.getfield 19, 3) := by decide +kernel
theorem dX7_count_96 : decode cX7_count 96 = .ok (.iconst 0, 1) := by decide +kernel
theorem dX7_count_97 : decode cX7_count 97 = .ok (.iaload, 1) := by decide +kernel
theorem dX7_count_98 : decode cX7_count 98 = .ok (.ireturn, 1) := by decide +kernel
theorem dX7_count_99 : decode cX7_count 99 = .ok (.iconst 0, 1) := by decide +kernel
theorem dX7_count_100 : decode cX7_count 100 = .ok (.istore_n 3, 1) := by decide +kernel
theorem dX7_count_101 : decode cX7_count 101 = .ok (.iload_n 3, 1) := by decide +kernel
theorem dX7_count_102 : decode cX7_count 102 = .ok (.aload_n 0, 1) := by decide +kernel
theorem dX7_count_103 : decode cX7_count 103 = .ok (.getfield 19, 3) := by decide +kernel
theorem dX7_count_106 : decode cX7_count 106 = .ok (.iconst 0, 1) := by decide +kernel
theorem dX7_count_107 : decode cX7_count 107 = .ok (.iaload, 1) := by decide +kernel
theorem dX7_count_108 : decode cX7_count 108 = .ok (.if_icmp .ge 29, 3) := by decide +kernel
theorem dX7_count_111 : decode cX7_count 111 = .ok (.iload_n 2, 1) := by decide +kernel
theorem dX7_count_112 : decode cX7_count 112 = .ok (.aload_n 0, 1) := by decide +kernel
theorem dX7_count_113 : decode cX7_count 113 = .ok (.getfield 19, 3) := by decide +kernel
theorem dX7_count_116 : decode cX7_count 116 = .ok (.bipush 36, 2) := by decide +kernel
theorem dX7_count_118 : decode cX7_count 118 = .ok (.iload_n 3, 1) := by decide +kernel
theorem dX7_count_119 : decode cX7_count 119 = .ok (.iadd, 1) := by decide +kernel
theorem dX7_count_120 : decode cX7_count 120 = .ok (.iaload, 1) := by decide +kernel
theorem dX7_count_121 : decode cX7_count 121 = .ok (.ifCond .lt 7, 3) := by decide +kernel
theorem dX7_count_124 : decode cX7_count 124 = .ok (.iconst 1, 1) := by decide +kernel
theorem dX7_count_125 : decode cX7_count 125 = .ok (.goto 4, 3) := by decide +kernel
theorem dX7_count_128 : decode cX7_count 128 = .ok (.iconst 0, 1) := by decide +kernel
theorem dX7_count_129 : decode cX7_count 129 = .ok (.iadd, 1) := by decide +kernel
theorem dX7_count_130 : decode cX7_count 130 = .ok (.istore_n 2, 1) := by decide +kernel
theorem dX7_count_131 : decode cX7_count 131 = .ok (.iinc 3 1, 3) := by decide +kernel
theorem dX7_count_134 : decode cX7_count 134 = .ok (.goto (-33), 3) := by decide +kernel
theorem dX7_count_137 : decode cX7_count 137 = .ok (.iload_n 2, 1) := by decide +kernel
theorem dX7_count_138 : decode cX7_count 138 = .ok (.ireturn, 1) := by decide +kernel
theorem dX7_count_139 : decode cX7_count 139 = .ok (.aload_n 0, 1) := by decide +kernel
theorem dX7_count_140 : decode cX7_count 140 = .ok (.getfield 19, 3) := by decide +kernel
theorem dX7_count_143 : decode cX7_count 143 = .ok (.invokestatic 304, 3) := by decide +kernel
theorem dX7_count_146 : decode cX7_count 146 = .ok (.ireturn, 1) := by decide +kernel
theorem dX7_count_147 : decode cX7_count 147 = .ok (.aload_n 0, 1) := by decide +kernel
theorem dX7_count_148 : decode cX7_count 148 = .ok (.getfield 152, 3) := by decide +kernel
theorem dX7_count_151 : decode cX7_count 151 = .ok (.ireturn, 1) := by decide +kernel
theorem dX7_count_152 : decode cX7_count 152 = .ok (.aload_n 0, 1) := by decide +kernel
theorem dX7_count_153 : decode cX7_count 153 = .ok (.getfield 80, 3) := by decide +kernel
theorem dX7_count_156 : decode cX7_count 156 = .ok (.ireturn, 1) := by decide +kernel
theorem dX7_count_157 : decode cX7_count 157 = .ok (.ldc 73, 2) := by decide +kernel
theorem dX7_count_159 : decode cX7_count 159 = .ok (.ireturn, 1) := by decide +kernel
theorem dX7_status_0 : decode cX7_status 0 = .ok (.aload_n 0, 1) := by decide +kernel
theorem dX7_status_1 : decode cX7_status 1 = .ok (.iconst 0, 1) := by decide +kernel
theorem dX7_status_2 : decode cX7_status 2 = .ok (.putfield 53, 3) := by decide +kernel
theorem dX7_status_5 : decode cX7_status 5 = .ok (.aload_n 0, 1) := by decide +kernel
theorem dX7_status_6 : decode cX7_status 6 = .ok (.getfield 57, 3) := by decide +kernel
theorem dX7_status_9 : decode cX7_status 9 = .ok (.ireturn, 1) := by decide +kernel
end
section

abbrev wq_M : Type := (Nat → Nat → Int32) × (Nat → Nat → Option Nat)
def wq_st (M : wq_M) (p k : Nat) (v : Int32) : wq_M := (fun q j => if q = p then (if j = k then v else M.1 q j) else M.1 q j, M.2)
def wq_sr (M : wq_M) (p k : Nat) (v : Option Nat) : wq_M := (M.1, fun q j => if q = p then (if j = k then v else M.2 q j) else M.2 q j)
def wq_cp (M : wq_M) (p i q j n : Nat) : wq_M := (fun a b => if a = q then va_cpy (M.1 p) (M.1 q) i j n b else M.1 a b, M.2)
def wq_b (b : Bool) : Int32 := if b = true then 1 else 0
def wq_in (i : Int32) (n : Nat) : Bool := decide (0 ≤ i) && decide (i.toNatClampNeg < n)
theorem wq_in_vp {i : Int32} {n : Nat} (h : wq_in i n = true) : vp_in i n := by
  simp only [wq_in, Bool.and_eq_true, decide_eq_true_eq] at h
  intro q
  rcases q with q | q
  · exact absurd h.1 (Int32.not_le.mpr q)
  · omega
theorem wq_in_of {i : Int32} {n : Nat} (h : vp_in i n) : wq_in i n = true := by
  simp only [wq_in, Bool.and_eq_true, decide_eq_true_eq]
  refine ⟨Int32.not_lt.mp (fun q => h (Or.inl q)), Nat.not_le.mp (fun q => h (Or.inr q))⟩
abbrev wq_E : Type := va_G × (Nat → Nat) × (Nat → ClassId) × (Nat → Nat)
abbrev wq_Y : Type := Nat × (Nat → Nat) × (Nat → Nat)
def wq_cl : List vw_C := [(RX0, TX0, 3), (RX1, TX1, 4), (RX2, TX2, 6), (RX3, TX3, 3), (RX4, TX4, 9), (RX5, TX5, 6), (RX6, TX6, 9), (RX7, TX7, 26)]
def wq_ty (E : wq_E) : List (ClassId × FieldType) := [(E.2.2.1 0, .int), (E.2.2.1 1, .boolean), (E.2.2.1 2, .object RX3), (E.2.2.1 3, .object RX5)]
def wq_rf (ad : Nat → Nat) (o : Option Nat) : Value := va_rf (o.map ad)
def wq_fl (ad : Nat → Nat) (M : wq_M) (p : Nat) (c : Nat) : List Value := match c with
  | 0 => [.ref (ad (p + 1)), .ref (ad (p + 2)), .int (M.1 p 2)]
  | 1 => [.ref (ad (p + 1)), .int (M.1 p 1), wq_rf ad (M.2 p 2), .int (M.1 p 3)]
  | 2 => [.ref (ad (p + 1)), .int (M.1 p 1), .int (M.1 p 2), .int (M.1 p 3), .int (M.1 p 4), .int (M.1 p 5)]
  | 3 => [.ref (ad (p + 1)), .int (M.1 p 1), .int (M.1 p 2)]
  | 4 => [.ref (ad (p + 1)), .int (M.1 p 1), .int (M.1 p 2), wq_rf ad (M.2 p 3), wq_rf ad (M.2 p 4), wq_rf ad (M.2 p 5), wq_rf ad (M.2 p 6), wq_rf ad (M.2 p 7), .int (M.1 p 8)]
  | 5 => [.int (M.1 p 0), .int (M.1 p 1), .ref (ad (p + 1)), .ref (ad (p + 2)), .ref (ad (p + 3)), .ref (ad (p + 4))]
  | 6 => [.ref (ad (p + 1)), .ref (ad (p + 18)), .ref (ad (p + 20)), .ref (ad (p + 25)), .ref (ad (p + 30)), .ref (ad (p + 41)), .ref (ad (p + 47)), .ref (ad (p + 50)), .int (M.1 p 8)]
  | _ => [.int (M.1 p 0), .int (M.1 p 1), .ref (ad (p + 1)), .ref (ad (p + 2)), .ref (ad (p + 3)), .ref (ad (p + 4)), .ref (ad (p + 5)), .ref (ad (p + 6)), .ref (ad (p + 7)), .int (M.1 p 9), .ref (ad (p + 8)), .int (M.1 p 11), .int (M.1 p 12), .int (M.1 p 13), .int (M.1 p 14), .int (M.1 p 15), .int (M.1 p 16), .int (M.1 p 17), .int (M.1 p 18), .ref (ad (p + 9)), .ref (ad (p + 10)), .ref (ad (p + 11)), .ref (ad (p + 12)), .ref (ad (p + 13)), .ref (ad (p + 14)), .int (M.1 p 25)]
def wq_ce (E : wq_E) (Y : wq_Y) (M : wq_M) (p : Nat) : va_E :=
  if Y.2.1 p < 8 then .inr (Y.2.1 p, wq_fl E.2.1 M p (Y.2.1 p))
  else if Y.2.1 p = 8 then .inl (E.2.2.1 0, Y.2.2 p, .inl (M.1 p))
  else if Y.2.1 p = 9 then .inl (E.2.2.1 1, Y.2.2 p, .inl (M.1 p))
  else if Y.2.1 p = 10 then .inl (E.2.2.1 2, Y.2.2 p, .inr (.inr (.inr (.inr (fun i => some (E.2.1 (2 + 2 * i)))))))
  else .inl (E.2.2.1 3, Y.2.2 p, .inr (.inr (.inr (.inr (fun i => some (E.2.1 (31 + 5 * i)))))))
def wq_ws (E : wq_E) (Y : wq_Y) (M : wq_M) : va_W := (List.range Y.1).map (fun p => (E.2.1 p, wq_ce E Y M p))
theorem wq_ws_at {E : wq_E} {Y : wq_Y} {M : wq_M} {p : Nat} (h : p < Y.1) : (wq_ws E Y M)[p]? = some (E.2.1 p, wq_ce E Y M p) := by
  simp [wq_ws, List.getElem?_map, List.getElem?_range h]
theorem wq_ws_inv {E : wq_E} {Y : wq_Y} {M : wq_M} {k : Nat} {q : Nat × va_E} (h : (wq_ws E Y M)[k]? = some q) : k < Y.1 ∧ q = (E.2.1 k, wq_ce E Y M k) := by
  have hk : k < Y.1 := by
    have := (List.getElem?_eq_some_iff.mp h).1
    simpa [wq_ws] using this
  rw [wq_ws_at hk] at h
  exact ⟨hk, (Option.some.inj h).symm⟩
theorem wq_ws_set {E : wq_E} {Y : wq_Y} {M M' : wq_M} {p : Nat} {e : va_E} (h : p < Y.1) (he : wq_ce E Y M' p = e) (ho : ∀ q, q ≠ p → wq_ce E Y M' q = wq_ce E Y M q) : (wq_ws E Y M).set p (E.2.1 p, e) = wq_ws E Y M' := by
  subst he
  apply List.ext_getElem?
  intro k
  rw [List.getElem?_set]
  by_cases hk : p = k
  · subst hk
    rw [if_pos rfl, wq_ws_at h, if_pos (by simpa [wq_ws] using h)]
  · rw [if_neg hk]
    by_cases hl : k < Y.1
    · rw [wq_ws_at hl, wq_ws_at hl, ho k (fun e => hk e.symm)]
    · have h1 : (wq_ws E Y M)[k]? = none := by rw [List.getElem?_eq_none_iff]; simp [wq_ws]; omega
      have h2 : (wq_ws E Y M')[k]? = none := by rw [List.getElem?_eq_none_iff]; simp [wq_ws]; omega
      rw [h1, h2]
theorem wq_fl_congr {ad : Nat → Nat} {M M' : wq_M} {p c : Nat} (h1 : M'.1 p = M.1 p) (h2 : M'.2 p = M.2 p) : wq_fl ad M' p c = wq_fl ad M p c := by
  unfold wq_fl
  rw [h1, h2]
theorem wq_ce_congr {E : wq_E} {Y : wq_Y} {M M' : wq_M} {p : Nat} (h1 : M'.1 p = M.1 p) (h2 : M'.2 p = M.2 p) : wq_ce E Y M' p = wq_ce E Y M p := by
  unfold wq_ce
  rw [wq_fl_congr h1 h2, h1]
theorem wq_st_ne {M : wq_M} {p k q : Nat} {v : Int32} (h : q ≠ p) : (wq_st M p k v).1 q = M.1 q := by
  funext j
  simp [wq_st, h]
theorem wq_st_self {M : wq_M} {p k : Nat} {v : Int32} : (wq_st M p k v).1 p = upd (M.1 p) k v := by
  funext j
  simp [wq_st, upd]
theorem wq_sr_ne {M : wq_M} {p k q : Nat} {v : Option Nat} (h : q ≠ p) : (wq_sr M p k v).2 q = M.2 q := by
  funext j
  simp [wq_sr, h]
theorem wq_cp_ne {M : wq_M} {p i q j n a : Nat} (h : a ≠ q) : (wq_cp M p i q j n).1 a = M.1 a := by
  funext b
  simp [wq_cp, h]
theorem wq_cp_self {M : wq_M} {p i q j n : Nat} : (wq_cp M p i q j n).1 q = va_cpy (M.1 p) (M.1 q) i j n := by
  funext b
  simp [wq_cp]
theorem wq_ce_o {E : wq_E} {Y : wq_Y} {M : wq_M} {p c : Nat} (h : Y.2.1 p = c) (hc : c < 8) : wq_ce E Y M p = .inr (c, wq_fl E.2.1 M p c) := by
  unfold wq_ce
  rw [h, if_pos hc]
theorem wq_ce_i {E : wq_E} {Y : wq_Y} {M : wq_M} {p n : Nat} (h : Y.2.1 p = 8) (hn : Y.2.2 p = n) : wq_ce E Y M p = .inl (E.2.2.1 0, n, .inl (M.1 p)) := by
  subst hn
  unfold wq_ce
  rw [h]
  rfl
theorem wq_ce_z {E : wq_E} {Y : wq_Y} {M : wq_M} {p n : Nat} (h : Y.2.1 p = 9) (hn : Y.2.2 p = n) : wq_ce E Y M p = .inl (E.2.2.1 1, n, .inl (M.1 p)) := by
  subst hn
  unfold wq_ce
  rw [h]
  rfl
theorem wq_ce_r {E : wq_E} {Y : wq_Y} {M : wq_M} {p n : Nat} (h : Y.2.1 p = 10) (hn : Y.2.2 p = n) : wq_ce E Y M p = .inl (E.2.2.1 2, n, .inr (.inr (.inr (.inr (fun i => some (E.2.1 (2 + 2 * i))))))) := by
  subst hn
  unfold wq_ce
  rw [h]
  rfl
theorem wq_ce_w {E : wq_E} {Y : wq_Y} {M : wq_M} {p n : Nat} (h : Y.2.1 p = 11) (hn : Y.2.2 p = n) : wq_ce E Y M p = .inl (E.2.2.1 3, n, .inr (.inr (.inr (.inr (fun i => some (E.2.1 (31 + 5 * i))))))) := by
  subst hn
  unfold wq_ce
  rw [h]
  rfl
def wq_A (E : wq_E) (Y : wq_Y) : Nat → Prop := fun q => ∃ p, p < Y.1 ∧ E.2.1 p = q
def wq_inj (E : wq_E) (Y : wq_Y) : Prop := ∀ p q, p < Y.1 → q < Y.1 → E.2.1 p = E.2.1 q → p = q
theorem wq_D {E : wq_E} {Y : wq_Y} {M : wq_M} (h : wq_inj E Y) : va_D (wq_A E Y) (wq_ws E Y M) := by
  refine ⟨fun i j p q hi hj e => ?_, fun k q hk => ?_⟩
  · obtain ⟨h1, rfl⟩ := wq_ws_inv hi
    obtain ⟨h2, rfl⟩ := wq_ws_inv hj
    exact h i j h1 h2 e
  · obtain ⟨h1, rfl⟩ := wq_ws_inv hk
    exact ⟨k, h1, rfl⟩
def wq_sn (k : Nat) : String × String := match k with
  | 0 => ("WellPipes", "RULE_LOW")
  | 1 => ("WellPipes", "RULE_HIGH")
  | 2 => ("WellPipes", "FIGURE_HIGH")
  | 3 => ("WellPipes", "WIDER_KIND")
  | 4 => ("WellPipes$Asks", "SIZE_BODIES")
  | _ => ("WellPipes$Asks", "MARK_BODIES")
def wq_tb (k : Nat) : List Int32 := match k with
  | 0 => [0, 0, 0, 1]
  | 1 => [20, 99, 20, 3]
  | 2 => [99, 99, 99, 9, 99]
  | 3 => [0, 0, 1, 1, 0, 4]
  | 4 => [10, 11, 12, 11, 13, 14]
  | _ => [20, 21, 24, 22, 23, 23]
def wq_sf (k : Nat) (j : Nat) : Int32 := (wq_tb k).getD j 0
def wq_sl (k : Nat) : Nat := (wq_tb k).length
def wq_nw : List Cond := [.fieldLinkNest "WellPipes$Reader" 87 "WellPipes" "RULE_LOW" "[I" "WellPipes", .fieldLinkNest "WellPipes$Reader" 90 "WellPipes" "RULE_HIGH" "[I" "WellPipes", .fieldLinkNest "WellPipes$Reader" 80 "WellPipes" "FIGURE_HIGH" "[I" "WellPipes"]
def wq_S (E : wq_E) (Y : wq_Y) (U : State) : Prop := (∀ k, k < 6 → va_Z (wq_sn k).1 (wq_sn k).2 "[I" (.ref (E.2.2.2 k)) (wq_A E Y) U U.heap ∧ va_T .int (E.2.2.2 k) (wq_sl k) (fun j => .int (wq_sf k j)) (wq_A E Y) U U.heap) ∧ ∀ w ∈ wq_nw, va_Nw w U
def wq_TB : List Cond := lw_tbl.filter goodWord
theorem tb_of {w : Cond} (i : Nat) (h : lw_tbl[i]? = some w) (hg : goodWord w = true) : w ∈ wq_TB := List.mem_filter.mpr ⟨List.mem_of_getElem? h, hg⟩
theorem tb_good {ws : List Cond} (h : ∀ w ∈ ws, w ∈ wq_TB) : GoodIn wq_TB ws := fun w hw => ⟨h w hw, good_of_word (List.mem_filter.mp (h w hw)).2⟩
theorem wq_nw_warm {s U : State} (hW : s.WarmedH U.vm) : (∀ w ∈ wq_nw, va_Nw w s) → ∀ w ∈ wq_nw, va_Nw w U := by
  intro h w hw
  have h1 := h w hw
  simp only [wq_nw, List.mem_cons, List.not_mem_nil, or_false] at hw
  rcases hw with rfl | rfl | rfl <;> exact va_Nw.warmF hW h1
theorem wq_S_move {E : wq_E} {Y : wq_Y} {s U : State} (hW : s.WarmedH U.vm) (hk : ∀ a : Nat, a < s.heap.size → ¬ wq_A E Y a → U.heap[a]? = s.heap[a]?) (h : wq_S E Y s) : wq_S E Y U :=
  ⟨fun k hk6 => ⟨va_Z.moved hW.alike ((h.1 k hk6).1.kept hk), va_T.moved hW.alike ((h.1 k hk6).2.kept hk)⟩, wq_nw_warm hW h.2⟩
def wq_rm (d : Nat) : Room := { frames := d + 1, cells := 0, slots := 0, locals := 64 * (d + 1) }
def wq_Q (E : wq_E) (Y : wq_Y) (r : Option Value) (M' : wq_M) : Array Value → State → Outcome → State → Prop := fun _ st oc t => oc = .returned r ∧ va_P E.1 wq_cl (wq_ws E Y M') t.heap ∧ va_F (wq_A E Y) st t
def wq_B (E : wq_E) (Y : wq_Y) (M : wq_M) (U : State) : Prop := va_P E.1 wq_cl (wq_ws E Y M) U.heap ∧ va_K E.1 wq_cl (wq_ty E) U ∧ wq_inj E Y ∧ wq_S E Y U
def wq_ct (l : Launch) (E : wq_E) (Y : wq_Y) (y : MethodName) (cc : ByteArray) (nL : Nat) (ret : Option FieldType) (d : Nat) (vs : List Value) (M : wq_M) (r : Option Value) (M' : wq_M) : Prop :=
  Met l y (Cond.code y cc nL ret :: wq_TB) (wq_rm d) (va_Pc vs (wq_B E Y M)) (wq_Q E Y r M') 0 0 (wq_A E Y)
abbrev wq_G : Type := Option Value × wq_M × Program × Launch × Env × Room × State × MethodId × Array Value × List Frame × Method × Code
def wq_C (g : wq_G) (E : wq_E) (Y : wq_Y) (cc : ByteArray) (nL : Nat) (own : String) (ret : Option FieldType) (d : Nat) : Prop := match g with
  | (_, _, p, _, _, R, s, m, args, _, meth, c) => p.tables.exec = Jvm.exec ∧ c.code = cc ∧ c.maxLocals = nL ∧ s.vm.findClass own = some m.cls ∧ (∀ w ∈ wq_TB, w.before args s = true) ∧ va_K E.1 wq_cl (wq_ty E) s ∧ wq_inj E Y ∧ wq_S E Y s ∧ meth.locks = false ∧ meth.sig.returnType = ret ∧ R = wq_rm d
def wq_pr : Nat → List (Option Value) → List (Nat × Value)
  | _, [] => []
  | i, none :: t => wq_pr (i + 1) t
  | i, some v :: t => (i, v) :: wq_pr (i + 1) t
def wq_has (ls : Array Slot) (nL : Nat) (lv : List (Option Value)) : Prop := lv_has ls nL (wq_pr 0 lv)
theorem wq_pr_mem : ∀ (lv : List (Option Value)) (k i : Nat) (v : Value), lv[i]? = some (some v) → (k + i, v) ∈ wq_pr k lv
  | [], k, i, v, h => by simp at h
  | a :: t, k, 0, v, h => by
    simp at h
    subst h
    simp [wq_pr]
  | none :: t, k, i + 1, v, h => by
    have := wq_pr_mem t (k + 1) i v (by simpa using h)
    rw [show k + (i + 1) = k + 1 + i by omega]
    exact this
  | some u :: t, k, i + 1, v, h => by
    have := wq_pr_mem t (k + 1) i v (by simpa using h)
    rw [show k + (i + 1) = k + 1 + i by omega]
    exact List.mem_cons_of_mem _ this
theorem wq_has_at {ls : Array Slot} {nL i : Nat} {lv : List (Option Value)} {v : Value} (h : wq_has ls nL lv) (hi : lv[i]? = some (some v)) : ls[i]? = some (.val v) := by
  have h1 := h.2.2 _ (wq_pr_mem lv 0 i v hi)
  simpa using h1
theorem wq_pr_ge : ∀ (lv : List (Option Value)) (k : Nat) (q : Nat × Value), q ∈ wq_pr k lv → k ≤ q.1
  | [], k, q, h => by simp [wq_pr] at h
  | none :: t, k, q, h => by
    have := wq_pr_ge t (k + 1) q h
    omega
  | some v :: t, k, q, h => by
    rcases List.mem_cons.mp h with rfl | h
    · exact Nat.le_refl _
    · have := wq_pr_ge t (k + 1) q h
      omega
def wq_c1 (a : Option Value) : Option Value := match a with
  | some (.long _) => none
  | some (.double _) => none
  | x => x
theorem wq_c1_ok {a : Option Value} {v : Value} (h : wq_c1 a = some v) : a = some v ∧ ¬ v.category = 2 := by
  cases a with
  | none => simp [wq_c1] at h
  | some x => cases x <;> simp [wq_c1] at h <;> subst h <;> simp [Value.category]
def wq_se : List (Option Value) → Nat → Value → List (Option Value)
  | [], _, _ => []
  | _ :: t, 0, v => some v :: t
  | a :: t, 1, v => wq_c1 a :: wq_se t 0 v
  | a :: t, i + 2, v => a :: wq_se t (i + 1) v
theorem wq_se_mem : ∀ (lv : List (Option Value)) (i k : Nat) (v : Value) (q : Nat × Value), q ∈ wq_pr k (wq_se lv i v) → q = (k + i, v) ∨ (q ∈ wq_pr k lv ∧ q.1 ≠ k + i ∧ ¬ (q.1 + 1 = k + i ∧ q.2.category = 2))
  | [], i, k, v, q, h => by simp [wq_se, wq_pr] at h
  | a :: t, 0, k, v, q, h => by
    simp only [wq_se, wq_pr, List.mem_cons] at h
    rcases h with rfl | h
    · exact Or.inl rfl
    · have hg := wq_pr_ge _ _ _ h
      refine Or.inr ⟨?_, by omega, by omega⟩
      cases a with
      | none => exact h
      | some x => exact List.mem_cons_of_mem _ h
  | a :: t, 1, k, v, q, h => by
    simp only [wq_se] at h
    have key : q ∈ wq_pr (k + 1) (wq_se t 0 v) → q = (k + 1, v) ∨ (q ∈ wq_pr k (a :: t) ∧ q.1 ≠ k + 1 ∧ ¬ (q.1 + 1 = k + 1 ∧ q.2.category = 2)) := by
      intro h
      rcases wq_se_mem t 0 (k + 1) v q h with h | ⟨h1, h2, h3⟩
      · exact Or.inl h
      · refine Or.inr ⟨?_, h2, ?_⟩
        · cases a with
          | none => exact h1
          | some x => exact List.mem_cons_of_mem _ h1
        · have := wq_pr_ge _ _ _ h1
          omega
    cases hc : wq_c1 a with
    | none =>
      rw [hc] at h
      exact key h
    | some x =>
      rw [hc] at h
      rcases List.mem_cons.mp h with rfl | h
      · obtain ⟨rfl, h2⟩ := wq_c1_ok hc
        exact Or.inr ⟨by simp [wq_pr], by simp, fun z => h2 z.2⟩
      · exact key h
  | a :: t, i + 2, k, v, q, h => by
    simp only [wq_se] at h
    have key : q ∈ wq_pr (k + 1) (wq_se t (i + 1) v) → q = (k + (i + 2), v) ∨ (q ∈ wq_pr k (a :: t) ∧ q.1 ≠ k + (i + 2) ∧ ¬ (q.1 + 1 = k + (i + 2) ∧ q.2.category = 2)) := by
      intro h
      have e : k + (i + 2) = k + 1 + (i + 1) := by omega
      rw [e]
      rcases wq_se_mem t (i + 1) (k + 1) v q h with h | ⟨h1, h2, h3⟩
      · exact Or.inl h
      · refine Or.inr ⟨?_, h2, h3⟩
        cases a with
        | none => exact h1
        | some x => exact List.mem_cons_of_mem _ h1
    cases a with
    | none => exact key h
    | some x =>
      rcases List.mem_cons.mp h with rfl | h
      · refine Or.inr ⟨by simp [wq_pr], by simp, ?_⟩
        simp only []
        omega
      · exact key h
theorem wq_has_se {ls : Array Slot} {nL i : Nat} {lv : List (Option Value)} {v : Value} (h : lv_has ls nL ((i, v) :: (wq_pr 0 lv).filter (fun q => !(q.1 == i) && !(q.1 + 1 == i && q.2.category == 2)))) : wq_has ls nL (wq_se lv i v) := by
  refine ⟨h.1, h.2.1, fun q hq => h.2.2 q ?_⟩
  rcases wq_se_mem lv i 0 v q hq with rfl | ⟨h1, h2, h3⟩
  · simp
  · refine List.mem_cons_of_mem _ (List.mem_filter.mpr ⟨h1, ?_⟩)
    simp only [Nat.zero_add] at h2 h3
    simp only [Bool.and_eq_true, Bool.not_eq_true', beq_eq_false_iff_ne, ne_eq, Bool.and_eq_false_iff]
    refine ⟨h2, ?_⟩
    by_cases e : q.1 + 1 = i
    · exact Or.inr (fun z => h3 ⟨e, z⟩)
    · exact Or.inl e
def wq_d1 : List (Option Value) → List (Option Value)
  | [] => []
  | _ :: t => none :: t
def wq_sd : List (Option Value) → Nat → Value → List (Option Value)
  | [], _, _ => []
  | _ :: t, 0, v => some v :: wq_d1 t
  | a :: t, 1, v => wq_c1 a :: wq_sd t 0 v
  | a :: t, i + 2, v => a :: wq_sd t (i + 1) v
theorem wq_sd_mem : ∀ (lv : List (Option Value)) (i k : Nat) (v : Value) (q : Nat × Value), q ∈ wq_pr k (wq_sd lv i v) → q = (k + i, v) ∨ (q ∈ wq_pr k lv ∧ q.1 ≠ k + i ∧ q.1 ≠ k + i + 1 ∧ ¬ (q.1 + 1 = k + i ∧ q.2.category = 2))
  | [], i, k, v, q, h => by simp [wq_sd, wq_pr] at h
  | a :: t, 0, k, v, q, h => by
    simp only [wq_sd, wq_pr, List.mem_cons] at h
    rcases h with rfl | h
    · exact Or.inl rfl
    · cases t with
      | nil => simp [wq_d1, wq_pr] at h
      | cons b t =>
        simp only [wq_d1, wq_pr] at h
        have hg := wq_pr_ge _ _ _ h
        refine Or.inr ⟨?_, by omega, by omega, by omega⟩
        cases a <;> cases b <;> simp [wq_pr, h]
  | a :: t, 1, k, v, q, h => by
    simp only [wq_sd] at h
    have key : q ∈ wq_pr (k + 1) (wq_sd t 0 v) → q = (k + 1, v) ∨ (q ∈ wq_pr k (a :: t) ∧ q.1 ≠ k + 1 ∧ q.1 ≠ k + 1 + 1 ∧ ¬ (q.1 + 1 = k + 1 ∧ q.2.category = 2)) := by
      intro h
      rcases wq_sd_mem t 0 (k + 1) v q h with h | ⟨h1, h2, h4, h3⟩
      · exact Or.inl h
      · refine Or.inr ⟨?_, h2, h4, ?_⟩
        · cases a with
          | none => exact h1
          | some x => exact List.mem_cons_of_mem _ h1
        · have := wq_pr_ge _ _ _ h1
          omega
    cases hc : wq_c1 a with
    | none =>
      rw [hc] at h
      exact key h
    | some x =>
      rw [hc] at h
      rcases List.mem_cons.mp h with rfl | h
      · obtain ⟨rfl, h2⟩ := wq_c1_ok hc
        exact Or.inr ⟨by simp [wq_pr], by simp, by simp only []; omega, fun z => h2 z.2⟩
      · exact key h
  | a :: t, i + 2, k, v, q, h => by
    simp only [wq_sd] at h
    have key : q ∈ wq_pr (k + 1) (wq_sd t (i + 1) v) → q = (k + (i + 2), v) ∨ (q ∈ wq_pr k (a :: t) ∧ q.1 ≠ k + (i + 2) ∧ q.1 ≠ k + (i + 2) + 1 ∧ ¬ (q.1 + 1 = k + (i + 2) ∧ q.2.category = 2)) := by
      intro h
      have e : k + (i + 2) = k + 1 + (i + 1) := by omega
      rw [e]
      rcases wq_sd_mem t (i + 1) (k + 1) v q h with h | ⟨h1, h2, h3⟩
      · exact Or.inl h
      · refine Or.inr ⟨?_, h2, h3⟩
        cases a with
        | none => exact h1
        | some x => exact List.mem_cons_of_mem _ h1
    cases a with
    | none => exact key h
    | some x =>
      rcases List.mem_cons.mp h with rfl | h
      · refine Or.inr ⟨by simp [wq_pr], by simp, ?_, ?_⟩ <;> simp only [] <;> omega
      · exact key h
theorem wq_has_sd {ls : Array Slot} {nL i : Nat} {lv : List (Option Value)} {v : Value} (h : lv_has ls nL ((i, v) :: (wq_pr 0 lv).filter (fun q => !(q.1 == i) && (!(q.1 == i + 1) && !(q.1 + 1 == i && q.2.category == 2))))) : wq_has ls nL (wq_sd lv i v) := by
  refine ⟨h.1, h.2.1, fun q hq => h.2.2 q ?_⟩
  rcases wq_sd_mem lv i 0 v q hq with rfl | ⟨h1, h2, h4, h3⟩
  · simp
  · refine List.mem_cons_of_mem _ (List.mem_filter.mpr ⟨h1, ?_⟩)
    simp only [Nat.zero_add] at h2 h3 h4
    simp only [Bool.and_eq_true, Bool.not_eq_true', beq_eq_false_iff_ne, ne_eq, Bool.and_eq_false_iff]
    refine ⟨h2, h4, ?_⟩
    by_cases e : q.1 + 1 = i
    · exact Or.inr (fun z => h3 ⟨e, z⟩)
    · exact Or.inl e
def wq_mk : List Bool → List (Option Value) → List (Option Value)
  | [], _ => []
  | _ :: _, [] => []
  | true :: b, a :: t => a :: wq_mk b t
  | false :: b, _ :: t => none :: wq_mk b t
theorem wq_mk_mem : ∀ (bs : List Bool) (lv : List (Option Value)) (k : Nat) (q : Nat × Value), q ∈ wq_pr k (wq_mk bs lv) → q ∈ wq_pr k lv
  | [], lv, k, q, h => by simp [wq_mk, wq_pr] at h
  | b :: bs, [], k, q, h => by simp [wq_mk, wq_pr] at h
  | true :: bs, none :: t, k, q, h => wq_mk_mem bs t (k + 1) q h
  | true :: bs, some v :: t, k, q, h => by
    rcases List.mem_cons.mp h with rfl | h
    · exact List.mem_cons_self
    · exact List.mem_cons_of_mem _ (wq_mk_mem bs t (k + 1) q h)
  | false :: bs, none :: t, k, q, h => wq_mk_mem bs t (k + 1) q h
  | false :: bs, some v :: t, k, q, h => List.mem_cons_of_mem _ (wq_mk_mem bs t (k + 1) q h)
theorem wq_has_mk {ls : Array Slot} {nL : Nat} {lv : List (Option Value)} (bs : List Bool) (h : wq_has ls nL lv) : wq_has ls nL (wq_mk bs lv) := ⟨h.1, h.2.1, fun q hq => h.2.2 q (wq_mk_mem bs lv 0 q hq)⟩
def wq_g (g : wq_G) (E : wq_E) (Y : wq_Y) (nL : Nat) (pc : Nat) (lv : List (Option Value)) (st : List Value) (M : wq_M) : Prop := match g with
  | (r0, M0, p, l, e, R, s, m, args, below, meth, c) => ∀ (H : Heap) (ls : Array Slot) (locs : List Loc), wq_has ls nL lv → va_P E.1 wq_cl (wq_ws E Y M) H → va_S (wq_A E Y) s.heap H locs → W p l e R s m args below meth c H locs 0 0 (MQ below (wq_Q E Y r0 M0) args s 0 0 (wq_A E Y)) (F0 m pc ls st)
section WQ
variable {g : wq_G} {E : wq_E} {Y : wq_Y} {cc : ByteArray} {nL : Nat} {own : String} {ret : Option FieldType} {d : Nat} {pc : Nat} {lv lv' : List (Option Value)} {st : List Value} {M : wq_M}
theorem wq_mask (bs : List Bool) (hb : wq_mk bs lv = lv') (k : wq_g g E Y nL pc lv' st M) : wq_g g E Y nL pc lv st M := by
  obtain ⟨r0, M0, p, l, e, R, s, m, args, below, meth, c⟩ := g
  intro H ls locs hl hP hW
  subst hb
  exact k H ls locs (wq_has_mk bs hl) hP hW

theorem wq_iconst (h : wq_C g E Y cc nL own ret d) {n : Int} {v : Int32} (hd : decode cc pc = .ok (.iconst n, 1)) (hv : Int32.ofInt n = v) (k : wq_g g E Y nL (pc + 1) lv (.int v :: st) M) : wq_g g E Y nL pc lv (st) M := by
  obtain ⟨r0, M0, p, l, e, R, s, m, args, below, meth, c⟩ := g
  obtain ⟨hx, hb, hml, hown, hts, hK, hi, hS, hlk, hr, rfl⟩ := h
  intro H ls locs hl hP hW
  exact lv_iconst hx hb hd hv (k H ls locs hl hP hW)

theorem wq_bipush (h : wq_C g E Y cc nL own ret d) {n : Int} {v : Int32} (hd : decode cc pc = .ok (.bipush n, 2)) (hv : (Int8.ofInt n).toInt32 = v) (k : wq_g g E Y nL (pc + 2) lv (.int v :: st) M) : wq_g g E Y nL pc lv (st) M := by
  obtain ⟨r0, M0, p, l, e, R, s, m, args, below, meth, c⟩ := g
  obtain ⟨hx, hb, hml, hown, hts, hK, hi, hS, hlk, hr, rfl⟩ := h
  intro H ls locs hl hP hW
  exact lv_bipush hx hb hd hv (k H ls locs hl hP hW)

theorem wq_sipush (h : wq_C g E Y cc nL own ret d) {n : Int} {v : Int32} (hd : decode cc pc = .ok (.sipush n, 3)) (hv : (Int16.ofInt n).toInt32 = v) (k : wq_g g E Y nL (pc + 3) lv (.int v :: st) M) : wq_g g E Y nL pc lv (st) M := by
  obtain ⟨r0, M0, p, l, e, R, s, m, args, below, meth, c⟩ := g
  obtain ⟨hx, hb, hml, hown, hts, hK, hi, hS, hlk, hr, rfl⟩ := h
  intro H ls locs hl hP hW
  exact lv_sipush hx hb hd hv (k H ls locs hl hP hW)

theorem wq_lconst (h : wq_C g E Y cc nL own ret d) {n : Fin 2} {v : Int64} (hd : decode cc pc = .ok (.lconst n, 1)) (hv : Int64.ofNat (n : Nat) = v) (k : wq_g g E Y nL (pc + 1) lv (.long v :: st) M) : wq_g g E Y nL pc lv (st) M := by
  obtain ⟨r0, M0, p, l, e, R, s, m, args, below, meth, c⟩ := g
  obtain ⟨hx, hb, hml, hown, hts, hK, hi, hS, hlk, hr, rfl⟩ := h
  intro H ls locs hl hP hW
  exact lv_lconst hx hb hd hv (k H ls locs hl hP hW)

theorem wq_iload_n (h : wq_C g E Y cc nL own ret d) {kk : Fin 4} {i : Nat} {x : Int32} (hd : decode cc pc = .ok (.iload_n kk, 1)) (hi2 : (kk : Nat) = i) (hl2 : lv[i]? = some (some (.int x))) (k : wq_g g E Y nL (pc + 1) lv (.int x :: st) M) : wq_g g E Y nL pc lv (st) M := by
  obtain ⟨r0, M0, p, l, e, R, s, m, args, below, meth, c⟩ := g
  obtain ⟨hx, hb, hml, hown, hts, hK, hi, hS, hlk, hr, rfl⟩ := h
  intro H ls locs hl hP hW
  exact lv_iload_n hx hb hd hi2 (wq_has_at hl hl2) (k H ls locs hl hP hW)

theorem wq_iload (h : wq_C g E Y cc nL own ret d) {i : Nat} {x : Int32} (hd : decode cc pc = .ok (.iload i, 2)) (hl2 : lv[i]? = some (some (.int x))) (k : wq_g g E Y nL (pc + 2) lv (.int x :: st) M) : wq_g g E Y nL pc lv (st) M := by
  obtain ⟨r0, M0, p, l, e, R, s, m, args, below, meth, c⟩ := g
  obtain ⟨hx, hb, hml, hown, hts, hK, hi, hS, hlk, hr, rfl⟩ := h
  intro H ls locs hl hP hW
  exact lv_iload hx hb hd (wq_has_at hl hl2) (k H ls locs hl hP hW)

theorem wq_istore_n (h : wq_C g E Y cc nL own ret d) {kk : Fin 4} {i : Nat} {x : Int32} (hd : decode cc pc = .ok (.istore_n kk, 1)) (hi2 : (kk : Nat) = i) (hn : i < nL) (hl2 : wq_se lv i (.int x) = lv') (k : wq_g g E Y nL (pc + 1) lv' st M) : wq_g g E Y nL pc lv (.int x :: st) M := by
  obtain ⟨r0, M0, p, l, e, R, s, m, args, below, meth, c⟩ := g
  obtain ⟨hx, hb, hml, hown, hts, hK, hi, hS, hlk, hr, rfl⟩ := h
  intro H ls locs hl hP hW
  subst hl2
  exact lv_istore_n hx hb hd hi2 hl hn rfl (fun ls1 hl1 => k H ls1 locs (wq_has_se hl1) hP hW)

theorem wq_istore (h : wq_C g E Y cc nL own ret d) {i : Nat} {x : Int32} (hd : decode cc pc = .ok (.istore i, 2)) (hn : i < nL) (hl2 : wq_se lv i (.int x) = lv') (k : wq_g g E Y nL (pc + 2) lv' st M) : wq_g g E Y nL pc lv (.int x :: st) M := by
  obtain ⟨r0, M0, p, l, e, R, s, m, args, below, meth, c⟩ := g
  obtain ⟨hx, hb, hml, hown, hts, hK, hi, hS, hlk, hr, rfl⟩ := h
  intro H ls locs hl hP hW
  subst hl2
  exact lv_istore hx hb hd hl hn rfl (fun ls1 hl1 => k H ls1 locs (wq_has_se hl1) hP hW)

theorem wq_lload_n (h : wq_C g E Y cc nL own ret d) {kk : Fin 4} {i : Nat} {x : Int64} (hd : decode cc pc = .ok (.lload_n kk, 1)) (hi2 : (kk : Nat) = i) (hl2 : lv[i]? = some (some (.long x))) (k : wq_g g E Y nL (pc + 1) lv (.long x :: st) M) : wq_g g E Y nL pc lv (st) M := by
  obtain ⟨r0, M0, p, l, e, R, s, m, args, below, meth, c⟩ := g
  obtain ⟨hx, hb, hml, hown, hts, hK, hi, hS, hlk, hr, rfl⟩ := h
  intro H ls locs hl hP hW
  exact lv_lload_n hx hb hd hi2 (wq_has_at hl hl2) (k H ls locs hl hP hW)

theorem wq_lload (h : wq_C g E Y cc nL own ret d) {i : Nat} {x : Int64} (hd : decode cc pc = .ok (.lload i, 2)) (hl2 : lv[i]? = some (some (.long x))) (k : wq_g g E Y nL (pc + 2) lv (.long x :: st) M) : wq_g g E Y nL pc lv (st) M := by
  obtain ⟨r0, M0, p, l, e, R, s, m, args, below, meth, c⟩ := g
  obtain ⟨hx, hb, hml, hown, hts, hK, hi, hS, hlk, hr, rfl⟩ := h
  intro H ls locs hl hP hW
  exact lv_lload hx hb hd (wq_has_at hl hl2) (k H ls locs hl hP hW)

theorem wq_lstore_n (h : wq_C g E Y cc nL own ret d) {kk : Fin 4} {i : Nat} {x : Int64} (hd : decode cc pc = .ok (.lstore_n kk, 1)) (hi2 : (kk : Nat) = i) (hn : i + 1 < nL) (hl2 : wq_sd lv i (.long x) = lv') (k : wq_g g E Y nL (pc + 1) lv' st M) : wq_g g E Y nL pc lv (.long x :: st) M := by
  obtain ⟨r0, M0, p, l, e, R, s, m, args, below, meth, c⟩ := g
  obtain ⟨hx, hb, hml, hown, hts, hK, hi, hS, hlk, hr, rfl⟩ := h
  intro H ls locs hl hP hW
  subst hl2
  exact lv_lstore_n hx hb hd hi2 hl hn rfl (fun ls1 hl1 => k H ls1 locs (wq_has_sd hl1) hP hW)

theorem wq_lstore (h : wq_C g E Y cc nL own ret d) {i : Nat} {x : Int64} (hd : decode cc pc = .ok (.lstore i, 2)) (hn : i + 1 < nL) (hl2 : wq_sd lv i (.long x) = lv') (k : wq_g g E Y nL (pc + 2) lv' st M) : wq_g g E Y nL pc lv (.long x :: st) M := by
  obtain ⟨r0, M0, p, l, e, R, s, m, args, below, meth, c⟩ := g
  obtain ⟨hx, hb, hml, hown, hts, hK, hi, hS, hlk, hr, rfl⟩ := h
  intro H ls locs hl hP hW
  subst hl2
  exact lv_lstore hx hb hd hl hn rfl (fun ls1 hl1 => k H ls1 locs (wq_has_sd hl1) hP hW)

theorem wq_aload_n (h : wq_C g E Y cc nL own ret d) {kk : Fin 4} {i : Nat} {x : Nat} (hd : decode cc pc = .ok (.aload_n kk, 1)) (hi2 : (kk : Nat) = i) (hl2 : lv[i]? = some (some (.ref x))) (k : wq_g g E Y nL (pc + 1) lv (.ref x :: st) M) : wq_g g E Y nL pc lv (st) M := by
  obtain ⟨r0, M0, p, l, e, R, s, m, args, below, meth, c⟩ := g
  obtain ⟨hx, hb, hml, hown, hts, hK, hi, hS, hlk, hr, rfl⟩ := h
  intro H ls locs hl hP hW
  exact lv_aload_n hx hb hd hi2 (wq_has_at hl hl2) (k H ls locs hl hP hW)

theorem wq_aload (h : wq_C g E Y cc nL own ret d) {i : Nat} {x : Nat} (hd : decode cc pc = .ok (.aload i, 2)) (hl2 : lv[i]? = some (some (.ref x))) (k : wq_g g E Y nL (pc + 2) lv (.ref x :: st) M) : wq_g g E Y nL pc lv (st) M := by
  obtain ⟨r0, M0, p, l, e, R, s, m, args, below, meth, c⟩ := g
  obtain ⟨hx, hb, hml, hown, hts, hK, hi, hS, hlk, hr, rfl⟩ := h
  intro H ls locs hl hP hW
  exact lv_aload hx hb hd (wq_has_at hl hl2) (k H ls locs hl hP hW)

theorem wq_astore_n (h : wq_C g E Y cc nL own ret d) {kk : Fin 4} {i : Nat} {x : Nat} (hd : decode cc pc = .ok (.astore_n kk, 1)) (hi2 : (kk : Nat) = i) (hn : i < nL) (hl2 : wq_se lv i (.ref x) = lv') (k : wq_g g E Y nL (pc + 1) lv' st M) : wq_g g E Y nL pc lv (.ref x :: st) M := by
  obtain ⟨r0, M0, p, l, e, R, s, m, args, below, meth, c⟩ := g
  obtain ⟨hx, hb, hml, hown, hts, hK, hi, hS, hlk, hr, rfl⟩ := h
  intro H ls locs hl hP hW
  subst hl2
  exact lv_astore_n hx hb hd hi2 hl hn rfl (fun ls1 hl1 => k H ls1 locs (wq_has_se hl1) hP hW)

theorem wq_astore (h : wq_C g E Y cc nL own ret d) {i : Nat} {x : Nat} (hd : decode cc pc = .ok (.astore i, 2)) (hn : i < nL) (hl2 : wq_se lv i (.ref x) = lv') (k : wq_g g E Y nL (pc + 2) lv' st M) : wq_g g E Y nL pc lv (.ref x :: st) M := by
  obtain ⟨r0, M0, p, l, e, R, s, m, args, below, meth, c⟩ := g
  obtain ⟨hx, hb, hml, hown, hts, hK, hi, hS, hlk, hr, rfl⟩ := h
  intro H ls locs hl hP hW
  subst hl2
  exact lv_astore hx hb hd hl hn rfl (fun ls1 hl1 => k H ls1 locs (wq_has_se hl1) hP hW)

theorem wq_iinc (h : wq_C g E Y cc nL own ret d) {i : Nat} {n : Int} {x v : Int32} (hd : decode cc pc = .ok (.iinc i n, 3)) (hl1 : lv[i]? = some (some (.int x))) (hv : x + Int32.ofInt n = v) (hn : i < nL) (hl2 : wq_se lv i (.int v) = lv') (k : wq_g g E Y nL (pc + 3) lv' st M) : wq_g g E Y nL pc lv st M := by
  obtain ⟨r0, M0, p, l, e, R, s, m, args, below, meth, c⟩ := g
  obtain ⟨hx, hb, hml, hown, hts, hK, hi, hS, hlk, hr, rfl⟩ := h
  intro H ls locs hl hP hW
  subst hl2
  obtain ⟨j, hj⟩ := List.getElem?_of_mem (wq_pr_mem lv 0 i _ hl1)
  rw [Nat.zero_add] at hj
  exact lv_iinc hx hb hd hl hj hv hn rfl (fun ls1 hl1 => k H ls1 locs (wq_has_se hl1) hP hW)

theorem wq_iadd (h : wq_C g E Y cc nL own ret d) {x y : Int32} (hd : decode cc pc = .ok (.iadd, 1))  (k : wq_g g E Y nL (pc + 1) lv (.int (x + y) :: st) M) : wq_g g E Y nL pc lv (.int y :: .int x :: st) M := by
  obtain ⟨r0, M0, p, l, e, R, s, m, args, below, meth, c⟩ := g
  obtain ⟨hx, hb, hml, hown, hts, hK, hi, hS, hlk, hr, rfl⟩ := h
  intro H ls locs hl hP hW
  exact lv_iadd hx hb hd (k H ls locs hl hP hW)

theorem wq_isub (h : wq_C g E Y cc nL own ret d) {x y : Int32} (hd : decode cc pc = .ok (.isub, 1))  (k : wq_g g E Y nL (pc + 1) lv (.int (x - y) :: st) M) : wq_g g E Y nL pc lv (.int y :: .int x :: st) M := by
  obtain ⟨r0, M0, p, l, e, R, s, m, args, below, meth, c⟩ := g
  obtain ⟨hx, hb, hml, hown, hts, hK, hi, hS, hlk, hr, rfl⟩ := h
  intro H ls locs hl hP hW
  exact lv_isub hx hb hd (k H ls locs hl hP hW)

theorem wq_imul (h : wq_C g E Y cc nL own ret d) {x y : Int32} (hd : decode cc pc = .ok (.imul, 1))  (k : wq_g g E Y nL (pc + 1) lv (.int (x * y) :: st) M) : wq_g g E Y nL pc lv (.int y :: .int x :: st) M := by
  obtain ⟨r0, M0, p, l, e, R, s, m, args, below, meth, c⟩ := g
  obtain ⟨hx, hb, hml, hown, hts, hK, hi, hS, hlk, hr, rfl⟩ := h
  intro H ls locs hl hP hW
  exact lv_imul hx hb hd (k H ls locs hl hP hW)

theorem wq_iand (h : wq_C g E Y cc nL own ret d) {x y : Int32} (hd : decode cc pc = .ok (.iand, 1))  (k : wq_g g E Y nL (pc + 1) lv (.int (x &&& y) :: st) M) : wq_g g E Y nL pc lv (.int y :: .int x :: st) M := by
  obtain ⟨r0, M0, p, l, e, R, s, m, args, below, meth, c⟩ := g
  obtain ⟨hx, hb, hml, hown, hts, hK, hi, hS, hlk, hr, rfl⟩ := h
  intro H ls locs hl hP hW
  exact lv_iand hx hb hd (k H ls locs hl hP hW)

theorem wq_ior (h : wq_C g E Y cc nL own ret d) {x y : Int32} (hd : decode cc pc = .ok (.ior, 1))  (k : wq_g g E Y nL (pc + 1) lv (.int (x ||| y) :: st) M) : wq_g g E Y nL pc lv (.int y :: .int x :: st) M := by
  obtain ⟨r0, M0, p, l, e, R, s, m, args, below, meth, c⟩ := g
  obtain ⟨hx, hb, hml, hown, hts, hK, hi, hS, hlk, hr, rfl⟩ := h
  intro H ls locs hl hP hW
  exact lv_ior hx hb hd (k H ls locs hl hP hW)

theorem wq_ishl (h : wq_C g E Y cc nL own ret d) {x y : Int32} (hd : decode cc pc = .ok (.ishl, 1))  (k : wq_g g E Y nL (pc + 1) lv (.int (x <<< (y &&& 31)) :: st) M) : wq_g g E Y nL pc lv (.int y :: .int x :: st) M := by
  obtain ⟨r0, M0, p, l, e, R, s, m, args, below, meth, c⟩ := g
  obtain ⟨hx, hb, hml, hown, hts, hK, hi, hS, hlk, hr, rfl⟩ := h
  intro H ls locs hl hP hW
  exact lv_ishl hx hb hd (k H ls locs hl hP hW)

theorem wq_ishr (h : wq_C g E Y cc nL own ret d) {x y : Int32} (hd : decode cc pc = .ok (.ishr, 1))  (k : wq_g g E Y nL (pc + 1) lv (.int (x >>> (y &&& 31)) :: st) M) : wq_g g E Y nL pc lv (.int y :: .int x :: st) M := by
  obtain ⟨r0, M0, p, l, e, R, s, m, args, below, meth, c⟩ := g
  obtain ⟨hx, hb, hml, hown, hts, hK, hi, hS, hlk, hr, rfl⟩ := h
  intro H ls locs hl hP hW
  exact lv_ishr hx hb hd (k H ls locs hl hP hW)

theorem wq_idiv (h : wq_C g E Y cc nL own ret d) {x y : Int32} (hd : decode cc pc = .ok (.idiv, 1)) (hne : ¬ y = 0) (k : wq_g g E Y nL (pc + 1) lv (.int (x / y) :: st) M) : wq_g g E Y nL pc lv (.int y :: .int x :: st) M := by
  obtain ⟨r0, M0, p, l, e, R, s, m, args, below, meth, c⟩ := g
  obtain ⟨hx, hb, hml, hown, hts, hK, hi, hS, hlk, hr, rfl⟩ := h
  intro H ls locs hl hP hW
  exact lv_idiv hx hb hd hne (k H ls locs hl hP hW)

theorem wq_irem (h : wq_C g E Y cc nL own ret d) {x y : Int32} (hd : decode cc pc = .ok (.irem, 1)) (hne : ¬ y = 0) (k : wq_g g E Y nL (pc + 1) lv (.int (x - x / y * y) :: st) M) : wq_g g E Y nL pc lv (.int y :: .int x :: st) M := by
  obtain ⟨r0, M0, p, l, e, R, s, m, args, below, meth, c⟩ := g
  obtain ⟨hx, hb, hml, hown, hts, hK, hi, hS, hlk, hr, rfl⟩ := h
  intro H ls locs hl hP hW
  exact lv_irem hx hb hd hne (k H ls locs hl hP hW)

theorem wq_ineg (h : wq_C g E Y cc nL own ret d) {x : Int32} (hd : decode cc pc = .ok (.ineg, 1))  (k : wq_g g E Y nL (pc + 1) lv (.int (-x) :: st) M) : wq_g g E Y nL pc lv (.int x :: st) M := by
  obtain ⟨r0, M0, p, l, e, R, s, m, args, below, meth, c⟩ := g
  obtain ⟨hx, hb, hml, hown, hts, hK, hi, hS, hlk, hr, rfl⟩ := h
  intro H ls locs hl hP hW
  exact lv_ineg hx hb hd (k H ls locs hl hP hW)

theorem wq_ladd (h : wq_C g E Y cc nL own ret d) {x y : Int64} (hd : decode cc pc = .ok (.ladd, 1))  (k : wq_g g E Y nL (pc + 1) lv (.long (x + y) :: st) M) : wq_g g E Y nL pc lv (.long y :: .long x :: st) M := by
  obtain ⟨r0, M0, p, l, e, R, s, m, args, below, meth, c⟩ := g
  obtain ⟨hx, hb, hml, hown, hts, hK, hi, hS, hlk, hr, rfl⟩ := h
  intro H ls locs hl hP hW
  exact lv_ladd hx hb hd (k H ls locs hl hP hW)

theorem wq_lsub (h : wq_C g E Y cc nL own ret d) {x y : Int64} (hd : decode cc pc = .ok (.lsub, 1))  (k : wq_g g E Y nL (pc + 1) lv (.long (x - y) :: st) M) : wq_g g E Y nL pc lv (.long y :: .long x :: st) M := by
  obtain ⟨r0, M0, p, l, e, R, s, m, args, below, meth, c⟩ := g
  obtain ⟨hx, hb, hml, hown, hts, hK, hi, hS, hlk, hr, rfl⟩ := h
  intro H ls locs hl hP hW
  exact lv_lsub hx hb hd (k H ls locs hl hP hW)

theorem wq_lmul (h : wq_C g E Y cc nL own ret d) {x y : Int64} (hd : decode cc pc = .ok (.lmul, 1))  (k : wq_g g E Y nL (pc + 1) lv (.long (x * y) :: st) M) : wq_g g E Y nL pc lv (.long y :: .long x :: st) M := by
  obtain ⟨r0, M0, p, l, e, R, s, m, args, below, meth, c⟩ := g
  obtain ⟨hx, hb, hml, hown, hts, hK, hi, hS, hlk, hr, rfl⟩ := h
  intro H ls locs hl hP hW
  exact lv_lmul hx hb hd (k H ls locs hl hP hW)

theorem wq_ldiv (h : wq_C g E Y cc nL own ret d) {x y : Int64} (hd : decode cc pc = .ok (.ldiv, 1)) (hne : ¬ y = 0) (k : wq_g g E Y nL (pc + 1) lv (.long (x / y) :: st) M) : wq_g g E Y nL pc lv (.long y :: .long x :: st) M := by
  obtain ⟨r0, M0, p, l, e, R, s, m, args, below, meth, c⟩ := g
  obtain ⟨hx, hb, hml, hown, hts, hK, hi, hS, hlk, hr, rfl⟩ := h
  intro H ls locs hl hP hW
  exact lv_ldiv hx hb hd hne (k H ls locs hl hP hW)

theorem wq_lrem (h : wq_C g E Y cc nL own ret d) {x y : Int64} (hd : decode cc pc = .ok (.lrem, 1)) (hne : ¬ y = 0) (k : wq_g g E Y nL (pc + 1) lv (.long (x - x / y * y) :: st) M) : wq_g g E Y nL pc lv (.long y :: .long x :: st) M := by
  obtain ⟨r0, M0, p, l, e, R, s, m, args, below, meth, c⟩ := g
  obtain ⟨hx, hb, hml, hown, hts, hK, hi, hS, hlk, hr, rfl⟩ := h
  intro H ls locs hl hP hW
  exact lv_lrem hx hb hd hne (k H ls locs hl hP hW)

theorem wq_i2l (h : wq_C g E Y cc nL own ret d) {x : Int32} (hd : decode cc pc = .ok (.i2l, 1))  (k : wq_g g E Y nL (pc + 1) lv (.long x.toInt64 :: st) M) : wq_g g E Y nL pc lv (.int x :: st) M := by
  obtain ⟨r0, M0, p, l, e, R, s, m, args, below, meth, c⟩ := g
  obtain ⟨hx, hb, hml, hown, hts, hK, hi, hS, hlk, hr, rfl⟩ := h
  intro H ls locs hl hP hW
  exact lv_i2l hx hb hd rfl (k H ls locs hl hP hW)

theorem wq_l2i (h : wq_C g E Y cc nL own ret d) {x : Int64} (hd : decode cc pc = .ok (.l2i, 1))  (k : wq_g g E Y nL (pc + 1) lv (.int x.toInt32 :: st) M) : wq_g g E Y nL pc lv (.long x :: st) M := by
  obtain ⟨r0, M0, p, l, e, R, s, m, args, below, meth, c⟩ := g
  obtain ⟨hx, hb, hml, hown, hts, hK, hi, hS, hlk, hr, rfl⟩ := h
  intro H ls locs hl hP hW
  exact lv_l2i hx hb hd rfl (k H ls locs hl hP hW)

theorem wq_i2b (h : wq_C g E Y cc nL own ret d) {x : Int32} (hd : decode cc pc = .ok (.i2b, 1))  (k : wq_g g E Y nL (pc + 1) lv (.int x.toInt8.toInt32 :: st) M) : wq_g g E Y nL pc lv (.int x :: st) M := by
  obtain ⟨r0, M0, p, l, e, R, s, m, args, below, meth, c⟩ := g
  obtain ⟨hx, hb, hml, hown, hts, hK, hi, hS, hlk, hr, rfl⟩ := h
  intro H ls locs hl hP hW
  exact lv_i2b hx hb hd rfl (k H ls locs hl hP hW)

theorem wq_i2s (h : wq_C g E Y cc nL own ret d) {x : Int32} (hd : decode cc pc = .ok (.i2s, 1))  (k : wq_g g E Y nL (pc + 1) lv (.int x.toInt16.toInt32 :: st) M) : wq_g g E Y nL pc lv (.int x :: st) M := by
  obtain ⟨r0, M0, p, l, e, R, s, m, args, below, meth, c⟩ := g
  obtain ⟨hx, hb, hml, hown, hts, hK, hi, hS, hlk, hr, rfl⟩ := h
  intro H ls locs hl hP hW
  exact lv_i2s hx hb hd rfl (k H ls locs hl hP hW)

theorem wq_lcmp (h : wq_C g E Y cc nL own ret d) {x y : Int64} (hd : decode cc pc = .ok (.lcmp, 1)) (k : wq_g g E Y nL (pc + 1) lv (.int (lg_cmp x y) :: st) M) : wq_g g E Y nL pc lv (.long y :: .long x :: st) M := by
  obtain ⟨r0, M0, p, l, e, R, s, m, args, below, meth, c⟩ := g
  obtain ⟨hx, hb, hml, hown, hts, hK, hi, hS, hlk, hr, rfl⟩ := h
  intro H ls locs hl hP hW
  exact W.lcmp hx hb hd (k H ls locs hl hP hW)

theorem wq_dup (h : wq_C g E Y cc nL own ret d) {va : Value} (hd : decode cc pc = .ok (.dup, 1)) (hc : va.category = 1) (k : wq_g g E Y nL (pc + 1) lv (va :: va :: st) M) : wq_g g E Y nL pc lv (va :: st) M := by
  obtain ⟨r0, M0, p, l, e, R, s, m, args, below, meth, c⟩ := g
  obtain ⟨hx, hb, hml, hown, hts, hK, hi, hS, hlk, hr, rfl⟩ := h
  intro H ls locs hl hP hW
  exact lv_dup hx hb hd hc (k H ls locs hl hP hW)

theorem wq_dup2 (h : wq_C g E Y cc nL own ret d) {va vb : Value} (hd : decode cc pc = .ok (.dup2, 1)) (hc : va.category = 1) (hc2 : vb.category = 1) (k : wq_g g E Y nL (pc + 1) lv (va :: vb :: va :: vb :: st) M) : wq_g g E Y nL pc lv (va :: vb :: st) M := by
  obtain ⟨r0, M0, p, l, e, R, s, m, args, below, meth, c⟩ := g
  obtain ⟨hx, hb, hml, hown, hts, hK, hi, hS, hlk, hr, rfl⟩ := h
  intro H ls locs hl hP hW
  exact lv_dup2_11 hx hb hd hc hc2 (k H ls locs hl hP hW)

theorem wq_pop (h : wq_C g E Y cc nL own ret d) {va : Value} (hd : decode cc pc = .ok (.pop, 1)) (hc : va.category = 1) (k : wq_g g E Y nL (pc + 1) lv (st) M) : wq_g g E Y nL pc lv (va :: st) M := by
  obtain ⟨r0, M0, p, l, e, R, s, m, args, below, meth, c⟩ := g
  obtain ⟨hx, hb, hml, hown, hts, hK, hi, hS, hlk, hr, rfl⟩ := h
  intro H ls locs hl hP hW
  exact lv_pop hx hb hd hc (k H ls locs hl hP hW)

theorem wq_if_eq (h : wq_C g E Y cc nL own ret d) {x : Int32} {off : Int} {tgt : Nat} (hd : decode cc pc = .ok (.ifCond .eq off, 3)) (ht : (pc : Int) + off = (tgt : Int)) (kt : x = 0 → wq_g g E Y nL tgt lv st M) (kf : ¬ x = 0 → wq_g g E Y nL (pc + 3) lv st M) : wq_g g E Y nL pc lv (.int x :: st) M := by
  obtain ⟨r0, M0, p, l, e, R, s, m, args, below, meth, c⟩ := g
  obtain ⟨hx, hb, hml, hown, hts, hK, hi, hS, hlk, hr, rfl⟩ := h
  intro H ls locs hl hP hW
  exact lv_if_eq hx hb hd ht (fun z => kt z H ls locs hl hP hW) (fun z => kf z H ls locs hl hP hW)

theorem wq_if_ne (h : wq_C g E Y cc nL own ret d) {x : Int32} {off : Int} {tgt : Nat} (hd : decode cc pc = .ok (.ifCond .ne off, 3)) (ht : (pc : Int) + off = (tgt : Int)) (kt : ¬ x = 0 → wq_g g E Y nL tgt lv st M) (kf : x = 0 → wq_g g E Y nL (pc + 3) lv st M) : wq_g g E Y nL pc lv (.int x :: st) M := by
  obtain ⟨r0, M0, p, l, e, R, s, m, args, below, meth, c⟩ := g
  obtain ⟨hx, hb, hml, hown, hts, hK, hi, hS, hlk, hr, rfl⟩ := h
  intro H ls locs hl hP hW
  exact lv_if_ne hx hb hd ht (fun z => kt z H ls locs hl hP hW) (fun z => kf z H ls locs hl hP hW)

theorem wq_if_lt (h : wq_C g E Y cc nL own ret d) {x : Int32} {off : Int} {tgt : Nat} (hd : decode cc pc = .ok (.ifCond .lt off, 3)) (ht : (pc : Int) + off = (tgt : Int)) (kt : x < 0 → wq_g g E Y nL tgt lv st M) (kf : ¬ x < 0 → wq_g g E Y nL (pc + 3) lv st M) : wq_g g E Y nL pc lv (.int x :: st) M := by
  obtain ⟨r0, M0, p, l, e, R, s, m, args, below, meth, c⟩ := g
  obtain ⟨hx, hb, hml, hown, hts, hK, hi, hS, hlk, hr, rfl⟩ := h
  intro H ls locs hl hP hW
  exact lv_if_lt hx hb hd ht (fun z => kt z H ls locs hl hP hW) (fun z => kf z H ls locs hl hP hW)

theorem wq_if_ge (h : wq_C g E Y cc nL own ret d) {x : Int32} {off : Int} {tgt : Nat} (hd : decode cc pc = .ok (.ifCond .ge off, 3)) (ht : (pc : Int) + off = (tgt : Int)) (kt : 0 ≤ x → wq_g g E Y nL tgt lv st M) (kf : ¬ 0 ≤ x → wq_g g E Y nL (pc + 3) lv st M) : wq_g g E Y nL pc lv (.int x :: st) M := by
  obtain ⟨r0, M0, p, l, e, R, s, m, args, below, meth, c⟩ := g
  obtain ⟨hx, hb, hml, hown, hts, hK, hi, hS, hlk, hr, rfl⟩ := h
  intro H ls locs hl hP hW
  exact lv_if_ge hx hb hd ht (fun z => kt z H ls locs hl hP hW) (fun z => kf z H ls locs hl hP hW)

theorem wq_if_gt (h : wq_C g E Y cc nL own ret d) {x : Int32} {off : Int} {tgt : Nat} (hd : decode cc pc = .ok (.ifCond .gt off, 3)) (ht : (pc : Int) + off = (tgt : Int)) (kt : 0 < x → wq_g g E Y nL tgt lv st M) (kf : ¬ 0 < x → wq_g g E Y nL (pc + 3) lv st M) : wq_g g E Y nL pc lv (.int x :: st) M := by
  obtain ⟨r0, M0, p, l, e, R, s, m, args, below, meth, c⟩ := g
  obtain ⟨hx, hb, hml, hown, hts, hK, hi, hS, hlk, hr, rfl⟩ := h
  intro H ls locs hl hP hW
  exact lv_if_gt hx hb hd ht (fun z => kt z H ls locs hl hP hW) (fun z => kf z H ls locs hl hP hW)

theorem wq_if_le (h : wq_C g E Y cc nL own ret d) {x : Int32} {off : Int} {tgt : Nat} (hd : decode cc pc = .ok (.ifCond .le off, 3)) (ht : (pc : Int) + off = (tgt : Int)) (kt : x ≤ 0 → wq_g g E Y nL tgt lv st M) (kf : ¬ x ≤ 0 → wq_g g E Y nL (pc + 3) lv st M) : wq_g g E Y nL pc lv (.int x :: st) M := by
  obtain ⟨r0, M0, p, l, e, R, s, m, args, below, meth, c⟩ := g
  obtain ⟨hx, hb, hml, hown, hts, hK, hi, hS, hlk, hr, rfl⟩ := h
  intro H ls locs hl hP hW
  exact lv_if_le hx hb hd ht (fun z => kt z H ls locs hl hP hW) (fun z => kf z H ls locs hl hP hW)

theorem wq_icmp_eq (h : wq_C g E Y cc nL own ret d) {x y : Int32} {off : Int} {tgt : Nat} (hd : decode cc pc = .ok (.if_icmp .eq off, 3)) (ht : (pc : Int) + off = (tgt : Int)) (kt : x = y → wq_g g E Y nL tgt lv st M) (kf : ¬ x = y → wq_g g E Y nL (pc + 3) lv st M) : wq_g g E Y nL pc lv (.int y :: .int x :: st) M := by
  obtain ⟨r0, M0, p, l, e, R, s, m, args, below, meth, c⟩ := g
  obtain ⟨hx, hb, hml, hown, hts, hK, hi, hS, hlk, hr, rfl⟩ := h
  intro H ls locs hl hP hW
  exact lv_icmp_eq hx hb hd ht (fun z => kt z H ls locs hl hP hW) (fun z => kf z H ls locs hl hP hW)

theorem wq_icmp_ne (h : wq_C g E Y cc nL own ret d) {x y : Int32} {off : Int} {tgt : Nat} (hd : decode cc pc = .ok (.if_icmp .ne off, 3)) (ht : (pc : Int) + off = (tgt : Int)) (kt : ¬ x = y → wq_g g E Y nL tgt lv st M) (kf : x = y → wq_g g E Y nL (pc + 3) lv st M) : wq_g g E Y nL pc lv (.int y :: .int x :: st) M := by
  obtain ⟨r0, M0, p, l, e, R, s, m, args, below, meth, c⟩ := g
  obtain ⟨hx, hb, hml, hown, hts, hK, hi, hS, hlk, hr, rfl⟩ := h
  intro H ls locs hl hP hW
  exact lv_icmp_ne hx hb hd ht (fun z => kt z H ls locs hl hP hW) (fun z => kf z H ls locs hl hP hW)

theorem wq_icmp_lt (h : wq_C g E Y cc nL own ret d) {x y : Int32} {off : Int} {tgt : Nat} (hd : decode cc pc = .ok (.if_icmp .lt off, 3)) (ht : (pc : Int) + off = (tgt : Int)) (kt : x < y → wq_g g E Y nL tgt lv st M) (kf : ¬ x < y → wq_g g E Y nL (pc + 3) lv st M) : wq_g g E Y nL pc lv (.int y :: .int x :: st) M := by
  obtain ⟨r0, M0, p, l, e, R, s, m, args, below, meth, c⟩ := g
  obtain ⟨hx, hb, hml, hown, hts, hK, hi, hS, hlk, hr, rfl⟩ := h
  intro H ls locs hl hP hW
  exact lv_icmp_lt hx hb hd ht (fun z => kt z H ls locs hl hP hW) (fun z => kf z H ls locs hl hP hW)

theorem wq_icmp_ge (h : wq_C g E Y cc nL own ret d) {x y : Int32} {off : Int} {tgt : Nat} (hd : decode cc pc = .ok (.if_icmp .ge off, 3)) (ht : (pc : Int) + off = (tgt : Int)) (kt : y ≤ x → wq_g g E Y nL tgt lv st M) (kf : ¬ y ≤ x → wq_g g E Y nL (pc + 3) lv st M) : wq_g g E Y nL pc lv (.int y :: .int x :: st) M := by
  obtain ⟨r0, M0, p, l, e, R, s, m, args, below, meth, c⟩ := g
  obtain ⟨hx, hb, hml, hown, hts, hK, hi, hS, hlk, hr, rfl⟩ := h
  intro H ls locs hl hP hW
  exact lv_icmp_ge hx hb hd ht (fun z => kt z H ls locs hl hP hW) (fun z => kf z H ls locs hl hP hW)

theorem wq_icmp_gt (h : wq_C g E Y cc nL own ret d) {x y : Int32} {off : Int} {tgt : Nat} (hd : decode cc pc = .ok (.if_icmp .gt off, 3)) (ht : (pc : Int) + off = (tgt : Int)) (kt : y < x → wq_g g E Y nL tgt lv st M) (kf : ¬ y < x → wq_g g E Y nL (pc + 3) lv st M) : wq_g g E Y nL pc lv (.int y :: .int x :: st) M := by
  obtain ⟨r0, M0, p, l, e, R, s, m, args, below, meth, c⟩ := g
  obtain ⟨hx, hb, hml, hown, hts, hK, hi, hS, hlk, hr, rfl⟩ := h
  intro H ls locs hl hP hW
  exact lv_icmp_gt hx hb hd ht (fun z => kt z H ls locs hl hP hW) (fun z => kf z H ls locs hl hP hW)

theorem wq_icmp_le (h : wq_C g E Y cc nL own ret d) {x y : Int32} {off : Int} {tgt : Nat} (hd : decode cc pc = .ok (.if_icmp .le off, 3)) (ht : (pc : Int) + off = (tgt : Int)) (kt : x ≤ y → wq_g g E Y nL tgt lv st M) (kf : ¬ x ≤ y → wq_g g E Y nL (pc + 3) lv st M) : wq_g g E Y nL pc lv (.int y :: .int x :: st) M := by
  obtain ⟨r0, M0, p, l, e, R, s, m, args, below, meth, c⟩ := g
  obtain ⟨hx, hb, hml, hown, hts, hK, hi, hS, hlk, hr, rfl⟩ := h
  intro H ls locs hl hP hW
  exact lv_icmp_le hx hb hd ht (fun z => kt z H ls locs hl hP hW) (fun z => kf z H ls locs hl hP hW)

theorem wq_goto (h : wq_C g E Y cc nL own ret d) {off : Int} {tgt : Nat} (hd : decode cc pc = .ok (.goto off, 3)) (ht : (pc : Int) + off = (tgt : Int)) (k : wq_g g E Y nL tgt lv st M) : wq_g g E Y nL pc lv st M := by
  obtain ⟨r0, M0, p, l, e, R, s, m, args, below, meth, c⟩ := g
  obtain ⟨hx, hb, hml, hown, hts, hK, hi, hS, hlk, hr, rfl⟩ := h
  intro H ls locs hl hP hW
  exact lv_goto hx hb hd ht (k H ls locs hl hP hW)

theorem wq_lookup (h : wq_C g E Y cc nL own ret d) {dflt : Int} {ps : Array (Int × Int)} {len : Nat} {x : Int32} {off : Int} {tgt : Nat} (hd : decode cc pc = .ok (.lookupswitch dflt ps, len)) (hp : (ps.toList.zip (ps.toList.drop 1)).all (fun (a, next) => a.1 < next.1) = true) (ho : Op.lookupswitch.offset ps.toList dflt x.toInt = off) (ht : (pc : Int) + off = (tgt : Int)) (k : wq_g g E Y nL tgt lv st M) : wq_g g E Y nL pc lv (.int x :: st) M := by
  obtain ⟨r0, M0, p, l, e, R, s, m, args, below, meth, c⟩ := g
  obtain ⟨hx, hb, hml, hown, hts, hK, hi, hS, hlk, hr, rfl⟩ := h
  intro H ls locs hl hP hW
  exact lv_lookup hx hb hd hp ho ht (k H ls locs hl hP hW)

theorem wq_tableOut (h : wq_C g E Y cc nL own ret d) {dflt lo hi2 : Int} {offs : Array Int} {len : Nat} {x : Int32} {tgt : Nat} (hd : decode cc pc = .ok (.tableswitch dflt lo hi2 offs, len)) (ho : x.toInt < lo ∨ hi2 < x.toInt) (ht : (pc : Int) + dflt = (tgt : Int)) (k : wq_g g E Y nL tgt lv st M) : wq_g g E Y nL pc lv (.int x :: st) M := by
  obtain ⟨r0, M0, p, l, e, R, s, m, args, below, meth, c⟩ := g
  obtain ⟨hx, hb, hml, hown, hts, hK, hi, hS, hlk, hr, rfl⟩ := h
  intro H ls locs hl hP hW
  exact lv_tableOut hx hb hd ho ht (k H ls locs hl hP hW)

theorem wq_tableIn (h : wq_C g E Y cc nL own ret d) {dflt lo hi2 : Int} {offs : Array Int} {len : Nat} {x : Int32} {off : Int} {tgt : Nat} (hd : decode cc pc = .ok (.tableswitch dflt lo hi2 offs, len)) (h1 : ¬ x.toInt < lo) (h2 : ¬ hi2 < x.toInt) (ho : offs[(x.toInt - lo).toNat]? = some off) (ht : (pc : Int) + off = (tgt : Int)) (k : wq_g g E Y nL tgt lv st M) : wq_g g E Y nL pc lv (.int x :: st) M := by
  obtain ⟨r0, M0, p, l, e, R, s, m, args, below, meth, c⟩ := g
  obtain ⟨hx, hb, hml, hown, hts, hK, hi, hS, hlk, hr, rfl⟩ := h
  intro H ls locs hl hP hW
  exact lv_tableIn hx hb hd h1 h2 ho ht (k H ls locs hl hP hW)

theorem wq_ldc (h : wq_C g E Y cc nL own ret d) {idx : Nat} {v : Int32} (hc : Jvm.Cond.constant own idx v ∈ wq_TB) (hd : decode cc pc = .ok (.ldc idx, 2)) (k : wq_g g E Y nL (pc + 2) lv (.int v :: st) M) : wq_g g E Y nL pc lv st M := by
  obtain ⟨r0, M0, p, l, e, R, s, m, args, below, meth, c⟩ := g
  obtain ⟨hx, hb, hml, hown, hts, hK, hi, hS, hlk, hr, rfl⟩ := h
  intro H ls locs hl hP hW
  exact lv_ldc hx hb hown (hts _ hc) hd (k H ls locs hl hP hW)

theorem wq_ldc2 (h : wq_C g E Y cc nL own ret d) {idx : Nat} {v : Int64} (hc : Jvm.Cond.constantLong own idx v ∈ wq_TB) (hd : decode cc pc = .ok (.ldc2_w idx, 3)) (k : wq_g g E Y nL (pc + 3) lv (.long v :: st) M) : wq_g g E Y nL pc lv st M := by
  obtain ⟨r0, M0, p, l, e, R, s, m, args, below, meth, c⟩ := g
  obtain ⟨hx, hb, hml, hown, hts, hK, hi, hS, hlk, hr, rfl⟩ := h
  intro H ls locs hl hP hW
  exact lv_ldc2 hx hb hown (hts _ hc) hd (k H ls locs hl hP hW)

theorem wq_get (h : wq_C g E Y cc nL own ret d) {p0 ci kf idx N0 : Nat} {C0 : String} {T0 : u_T} {v : Value} (hp : p0 < Y.1) (hk : Y.2.1 p0 = ci) (hc8 : ci < 8) (hc : wq_cl[ci]? = some (C0, T0, N0)) (hin : ∀ w ∈ u_ws C0 T0 N0, w ∈ wq_TB) (hkN : kf < N0) (hf : (wq_fl E.2.1 M p0 ci)[kf]? = some v) (hlink : Cond.fieldLink own idx (T0 kf).1 (T0 kf).2.1 (T0 kf).2.2.1 ∈ wq_TB) (hd : decode cc pc = .ok (.getfield idx, 3)) (k : wq_g g E Y nL (pc + 3) lv (v :: st) M) : wq_g g E Y nL pc lv (.ref (E.2.1 p0) :: st) M := by
  obtain ⟨r0, M0, p, l, e, R, s, m, args, below, meth, c⟩ := g
  obtain ⟨hx, hb, hml, hown, hts, hK, hi, hS, hlk, hr, rfl⟩ := h
  intro H ls locs hl hP hW
  exact va_get hx hb hts hin hown hK hP p0 (by rw [wq_ws_at hp, wq_ce_o hk hc8]) hc kf hkN (hts _ hlink) (fun _ z => z) hf hd (k H ls locs hl hP hW)

theorem wq_put (h : wq_C g E Y cc nL own ret d) {p0 ci kf idx N0 : Nat} {C0 : String} {T0 : u_T} {v : Value} {M1 : wq_M} {ty : FieldType} (ty0 : Nat → FieldType) (hty : ∀ k, k < N0 → parseFieldDescriptor (T0 k).2.2.1 = some (ty0 k)) (hnm : ∀ a, a < N0 → ∀ b, b < N0 → a ≠ b → (T0 a).2.1 ≠ (T0 b).2.1) (hp : p0 < Y.1) (hk : Y.2.1 p0 = ci) (hc8 : ci < 8) (hc : wq_cl[ci]? = some (C0, T0, N0)) (hin : ∀ w ∈ u_ws C0 T0 N0, w ∈ wq_TB) (hkN : kf < N0) (hfin : (T0 kf).2.2.2 = false) (hdt : parseFieldDescriptor (T0 kf).2.2.1 = some ty) (hn : narrow ty v = v) (hfit : fits ty v = true) (hlen : kf < (wq_fl E.2.1 M p0 ci).length) (hset : wq_fl E.2.1 M1 p0 ci = (wq_fl E.2.1 M p0 ci).set kf v) (hne : ∀ q, q ≠ p0 → M1.1 q = M.1 q ∧ M1.2 q = M.2 q) (hlink : Cond.fieldLink own idx (T0 kf).1 (T0 kf).2.1 (T0 kf).2.2.1 ∈ wq_TB) (hd : decode cc pc = .ok (.putfield idx, 3)) (k : wq_g g E Y nL (pc + 3) lv st M1) : wq_g g E Y nL pc lv (v :: .ref (E.2.1 p0) :: st) M := by
  obtain ⟨r0, M0, p, l, e, R, s, m, args, below, meth, c⟩ := g
  obtain ⟨hx, hb, hml, hown, hts, hK, hi, hS, hlk, hr, rfl⟩ := h
  intro H ls locs hl hP hW
  refine va_put hx hb hts hin ty0 hty hnm hown hK hP (wq_D hi) hW p0 (by rw [wq_ws_at hp, wq_ce_o hk hc8]) hc kf hkN (hts _ hlink) (fun _ z => z) hfin hdt hn hfit hlen hd (fun H1 locs1 hP1 _ hS1 => ?_)
  rw [wq_ws_set (M' := M1) hp (by rw [wq_ce_o hk hc8, hset]) (fun q hq => wq_ce_congr (hne q hq).1 (hne q hq).2)] at hP1
  exact k H1 ls locs1 hl hP1 hS1

theorem wq_iald (h : wq_C g E Y cc nL own ret d) {p0 n : Nat} {i : Int32} (hp : p0 < Y.1) (hk : Y.2.1 p0 = 8) (hn : Y.2.2 p0 = n) (hin : wq_in i n = true) (hd : decode cc pc = .ok (.iaload, 1)) (k : wq_g g E Y nL (pc + 1) lv (.int (M.1 p0 i.toNatClampNeg) :: st) M) : wq_g g E Y nL pc lv (.int i :: .ref (E.2.1 p0) :: st) M := by
  obtain ⟨r0, M0, p, l, e, R, s, m, args, below, meth, c⟩ := g
  obtain ⟨hx, hb, hml, hown, hts, hK, hi, hS, hlk, hr, rfl⟩ := h
  intro H ls locs hl hP hW
  exact va_iald hx hb hK hP p0 0 (by rw [wq_ws_at hp, wq_ce_i hk hn]) rfl (wq_in_vp hin) hd (k H ls locs hl hP hW)

theorem wq_zald (h : wq_C g E Y cc nL own ret d) {p0 n : Nat} {i : Int32} (hp : p0 < Y.1) (hk : Y.2.1 p0 = 9) (hn : Y.2.2 p0 = n) (hin : wq_in i n = true) (hd : decode cc pc = .ok (.baload, 1)) (k : wq_g g E Y nL (pc + 1) lv (.int (M.1 p0 i.toNatClampNeg) :: st) M) : wq_g g E Y nL pc lv (.int i :: .ref (E.2.1 p0) :: st) M := by
  obtain ⟨r0, M0, p, l, e, R, s, m, args, below, meth, c⟩ := g
  obtain ⟨hx, hb, hml, hown, hts, hK, hi, hS, hlk, hr, rfl⟩ := h
  intro H ls locs hl hP hW
  exact va_zald hx hb hK hP p0 1 (by rw [wq_ws_at hp, wq_ce_z hk hn]) rfl (wq_in_vp hin) hd (k H ls locs hl hP hW)

theorem wq_iast (h : wq_C g E Y cc nL own ret d) {p0 n : Nat} {i x : Int32} (hp : p0 < Y.1) (hk : Y.2.1 p0 = 8) (hn : Y.2.2 p0 = n) (hin : wq_in i n = true) (hd : decode cc pc = .ok (.iastore, 1)) (k : wq_g g E Y nL (pc + 1) lv st (wq_st M p0 i.toNatClampNeg x)) : wq_g g E Y nL pc lv (.int x :: .int i :: .ref (E.2.1 p0) :: st) M := by
  obtain ⟨r0, M0, p, l, e, R, s, m, args, below, meth, c⟩ := g
  obtain ⟨hx, hb, hml, hown, hts, hK, hi, hS, hlk, hr, rfl⟩ := h
  intro H ls locs hl hP hW
  refine va_iast hx hb hK hP (wq_D hi) hW p0 0 (by rw [wq_ws_at hp, wq_ce_i hk hn]) rfl (wq_in_vp hin) hd (fun H1 locs1 hP1 _ hS1 => ?_)
  rw [wq_ws_set (M' := wq_st M p0 i.toNatClampNeg x) hp (by rw [wq_ce_i hk hn, wq_st_self]) (fun q hq => wq_ce_congr (wq_st_ne hq) rfl)] at hP1
  exact k H1 ls locs1 hl hP1 hS1

theorem wq_zast (h : wq_C g E Y cc nL own ret d) {p0 n : Nat} {i x : Int32} (hp : p0 < Y.1) (hk : Y.2.1 p0 = 9) (hn : Y.2.2 p0 = n) (hin : wq_in i n = true) (hx1 : vp_nar .boolean x = x) (hd : decode cc pc = .ok (.bastore, 1)) (k : wq_g g E Y nL (pc + 1) lv st (wq_st M p0 i.toNatClampNeg x)) : wq_g g E Y nL pc lv (.int x :: .int i :: .ref (E.2.1 p0) :: st) M := by
  obtain ⟨r0, M0, p, l, e, R, s, m, args, below, meth, c⟩ := g
  obtain ⟨hx, hb, hml, hown, hts, hK, hi, hS, hlk, hr, rfl⟩ := h
  intro H ls locs hl hP hW
  refine va_zast hx hb hK hP (wq_D hi) hW p0 1 (by rw [wq_ws_at hp, wq_ce_z hk hn]) rfl (wq_in_vp hin) hd (fun H1 locs1 hP1 _ hS1 => ?_)
  rw [hx1, wq_ws_set (M' := wq_st M p0 i.toNatClampNeg x) hp (by rw [wq_ce_z hk hn, wq_st_self]) (fun q hq => wq_ce_congr (wq_st_ne hq) rfl)] at hP1
  exact k H1 ls locs1 hl hP1 hS1

theorem wq_aldR (h : wq_C g E Y cc nL own ret d) {p0 n : Nat} {i : Int32} (hp : p0 < Y.1) (hk : Y.2.1 p0 = 10) (hn : Y.2.2 p0 = n) (hin : wq_in i n = true) (hd : decode cc pc = .ok (.aaload, 1)) (k : wq_g g E Y nL (pc + 1) lv (.ref (E.2.1 (2 + 2 * i.toNatClampNeg)) :: st) M) : wq_g g E Y nL pc lv (.int i :: .ref (E.2.1 p0) :: st) M := by
  obtain ⟨r0, M0, p, l, e, R, s, m, args, below, meth, c⟩ := g
  obtain ⟨hx, hb, hml, hown, hts, hK, hi, hS, hlk, hr, rfl⟩ := h
  intro H ls locs hl hP hW
  exact va_aldq (f := fun i => some (E.2.1 (2 + 2 * i))) hx hb hK hP p0 2 (by rw [wq_ws_at hp, wq_ce_r hk hn]) rfl (wq_in_vp hin) hd (k H ls locs hl hP hW)

theorem wq_aldW (h : wq_C g E Y cc nL own ret d) {p0 n : Nat} {i : Int32} (hp : p0 < Y.1) (hk : Y.2.1 p0 = 11) (hn : Y.2.2 p0 = n) (hin : wq_in i n = true) (hd : decode cc pc = .ok (.aaload, 1)) (k : wq_g g E Y nL (pc + 1) lv (.ref (E.2.1 (31 + 5 * i.toNatClampNeg)) :: st) M) : wq_g g E Y nL pc lv (.int i :: .ref (E.2.1 p0) :: st) M := by
  obtain ⟨r0, M0, p, l, e, R, s, m, args, below, meth, c⟩ := g
  obtain ⟨hx, hb, hml, hown, hts, hK, hi, hS, hlk, hr, rfl⟩ := h
  intro H ls locs hl hP hW
  exact va_aldq (f := fun i => some (E.2.1 (31 + 5 * i))) hx hb hK hP p0 3 (by rw [wq_ws_at hp, wq_ce_w hk hn]) rfl (wq_in_vp hin) hd (k H ls locs hl hP hW)

theorem wq_alen (h : wq_C g E Y cc nL own ret d) {p0 n : Nat} {v : Int32} (hp : p0 < Y.1) (hk : Y.2.1 p0 = 8) (hn : Y.2.2 p0 = n) (hv : Int32.ofNat n = v) (hd : decode cc pc = .ok (.arraylength, 1)) (k : wq_g g E Y nL (pc + 1) lv (.int v :: st) M) : wq_g g E Y nL pc lv (.ref (E.2.1 p0) :: st) M := by
  obtain ⟨r0, M0, p, l, e, R, s, m, args, below, meth, c⟩ := g
  obtain ⟨hx, hb, hml, hown, hts, hK, hi, hS, hlk, hr, rfl⟩ := h
  intro H ls locs hl hP hW
  exact va_alen hx hb hK hP p0 0 (by rw [wq_ws_at hp, wq_ce_i hk hn]) rfl hv hd (k H ls locs hl hP hW)

theorem wq_copy (h : wq_C g E Y cc nL own ret d) {p0 p1 n0 n1 idx : Nat} {sp dp n : Int32} (hlink : Cond.methodLink own idx arraycopyName ∈ wq_TB) (hnat : Cond.native arraycopyName ∈ wq_TB) (hstat : Cond.static arraycopyName ∈ wq_TB) (hini : Cond.initialized "java/lang/System" ∈ wq_TB) (hp0 : p0 < Y.1) (hk0 : Y.2.1 p0 = 8) (hn0 : Y.2.2 p0 = n0) (hp1 : p1 < Y.1) (hk1 : Y.2.1 p1 = 8) (hn1 : Y.2.2 p1 = n1) (h1 : ¬ sp < 0) (h2 : ¬ dp < 0) (h3 : ¬ n < 0) (h4 : sp.toNatClampNeg + n.toNatClampNeg ≤ n0) (h5 : dp.toNatClampNeg + n.toNatClampNeg ≤ n1) (hst : (st.map fun v => v.category).sum ≤ 8) (hd : decode cc pc = .ok (.invokestatic idx, 3)) (k : wq_g g E Y nL (pc + 3) lv st (wq_cp M p0 sp.toNatClampNeg p1 dp.toNatClampNeg n.toNatClampNeg)) : wq_g g E Y nL pc lv (.int n :: .int dp :: .ref (E.2.1 p1) :: .int sp :: .ref (E.2.1 p0) :: st) M := by
  obtain ⟨r0, M0, p, l, e, R, s, m, args, below, meth, c⟩ := g
  obtain ⟨hx, hb, hml, hown, hts, hK, hi, hS, hlk, hr, rfl⟩ := h
  intro H ls locs hl hP hW
  refine va_copyi hx hb (by rw [hml, hl.1]) hown (hts _ hlink) (hts _ hnat) (hts _ hstat) (hts _ hini) hK hP (wq_D hi) hW p0 p1 0 0 (by rw [wq_ws_at hp0, wq_ce_i hk0 hn0]) (by rw [wq_ws_at hp1, wq_ce_i hk1 hn1]) rfl rfl rfl h1 h2 h3 h4 h5 (fun _ _ => rfl) (by show 1 ≤ d + 1; omega) ?_ hd (fun H1 locs1 hP1 _ hS1 => ?_)
  · have e : nativeFrameWords "java/lang/System" "arraycopy" 5 + 11 ≤ 56 := by decide +kernel
    show _ ≤ 64 * (d + 1)
    omega
  · rw [wq_ws_set (M' := wq_cp M p0 sp.toNatClampNeg p1 dp.toNatClampNeg n.toNatClampNeg) hp1 (by rw [wq_ce_i hk1 hn1, wq_cp_self]) (fun q hq => wq_ce_congr (wq_cp_ne hq) rfl)] at hP1
    exact k H1 ls locs1 hl hP1 hS1

theorem wq_gets (h : wq_C g E Y cc nL own ret d) (ks : Nat) {idx : Nat} (hks : ks < 6) (hlink : Cond.fieldLink own idx (wq_sn ks).1 (wq_sn ks).2 "[I" ∈ wq_TB) (hd : decode cc pc = .ok (.getstatic idx, 3)) (k : wq_g g E Y nL (pc + 3) lv (.ref (E.2.2.2 ks) :: st) M) : wq_g g E Y nL pc lv st M := by
  obtain ⟨r0, M0, p, l, e, R, s, m, args, below, meth, c⟩ := g
  obtain ⟨hx, hb, hml, hown, hts, hK, hi, hS, hlk, hr, rfl⟩ := h
  intro H ls locs hl hP hW
  exact va_gets hx hb (hS.1 ks hks).1 hW hown (hts _ hlink) (fun _ z => z) hd (k H ls locs hl hP hW)

theorem wq_getsN (h : wq_C g E Y cc nL own ret d) (ks : Nat) {idx : Nat} {host : String} (hks : ks < 6) (hlink : Cond.fieldLinkNest own idx (wq_sn ks).1 (wq_sn ks).2 "[I" host ∈ wq_nw) (hd : decode cc pc = .ok (.getstatic idx, 3)) (k : wq_g g E Y nL (pc + 3) lv (.ref (E.2.2.2 ks) :: st) M) : wq_g g E Y nL pc lv st M := by
  obtain ⟨r0, M0, p, l, e, R, s, m, args, below, meth, c⟩ := g
  obtain ⟨hx, hb, hml, hown, hts, hK, hi, hS, hlk, hr, rfl⟩ := h
  intro H ls locs hl hP hW
  exact va_getsN hx hb (hS.1 ks hks).1 hW hown (va_Nw.use rfl (hS.2 _ hlink)) (fun _ z => z) hd (k H ls locs hl hP hW)

theorem wq_tald (h : wq_C g E Y cc nL own ret d) (ks : Nat) {n : Nat} {i : Int32} (hks : ks < 6) (hn : wq_sl ks = n) (hin : wq_in i n = true) (hd : decode cc pc = .ok (.iaload, 1)) (k : wq_g g E Y nL (pc + 1) lv (.int (wq_sf ks i.toNatClampNeg) :: st) M) : wq_g g E Y nL pc lv (.int i :: .ref (E.2.2.2 ks) :: st) M := by
  obtain ⟨r0, M0, p, l, e, R, s, m, args, below, meth, c⟩ := g
  obtain ⟨hx, hb, hml, hown, hts, hK, hi, hS, hlk, hr, rfl⟩ := h
  intro H ls locs hl hP hW
  subst hn
  exact va_ti hx hb (hS.1 ks hks).2 hW (wq_in_vp hin) rfl hd (k H ls locs hl hP hW)

theorem wq_iret (h : wq_C g E Y cc nL own (some .int) d) {v : Int32} (hd : decode cc pc = .ok (.ireturn, 1)) (hr0 : g.1 = some (.int v)) (hM0 : g.2.1 = M) : wq_g g E Y nL pc lv [.int v] M := by
  obtain ⟨r0, M0, p, l, e, R, s, m, args, below, meth, c⟩ := g
  obtain ⟨hx, hb, hml, hown, hts, hK, hi, hS, hlk, hr, rfl⟩ := h
  intro H ls locs hl hP hW
  simp only at hr0 hM0
  subst hr0
  subst hM0
  exact W.iret hx hb hr (fun t ht hw => ⟨rfl, by rw [ht]; exact hP, hW.F ht⟩) hW.2.2 hd hlk

theorem wq_lret (h : wq_C g E Y cc nL own (some .long) d) {v : Int64} (hd : decode cc pc = .ok (.lreturn, 1)) (hr0 : g.1 = some (.long v)) (hM0 : g.2.1 = M) : wq_g g E Y nL pc lv [.long v] M := by
  obtain ⟨r0, M0, p, l, e, R, s, m, args, below, meth, c⟩ := g
  obtain ⟨hx, hb, hml, hown, hts, hK, hi, hS, hlk, hr, rfl⟩ := h
  intro H ls locs hl hP hW
  simp only at hr0 hM0
  subst hr0
  subst hM0
  exact W.lret hx hb hr (fun t ht hw => ⟨rfl, by rw [ht]; exact hP, hW.F ht⟩) hW.2.2 hd hlk

theorem wq_vret (h : wq_C g E Y cc nL own (none) d) (hd : decode cc pc = .ok (.return_, 1)) (hr0 : g.1 = none) (hM0 : g.2.1 = M) : wq_g g E Y nL pc lv [] M := by
  obtain ⟨r0, M0, p, l, e, R, s, m, args, below, meth, c⟩ := g
  obtain ⟨hx, hb, hml, hown, hts, hK, hi, hS, hlk, hr, rfl⟩ := h
  intro H ls locs hl hP hW
  simp only at hr0 hM0
  subst hr0
  subst hM0
  exact W.vret hx hb hr (fun t ht hw => ⟨rfl, by rw [ht]; exact hP, hW.F ht⟩) hW.2.2 hd hlk

theorem wq_zret (h : wq_C g E Y cc nL own (some .boolean) d) {v : Int32} {b : Bool} (hd : decode cc pc = .ok (.ireturn, 1)) (hv : v = wq_b b) (hr0 : g.1 = some (.int (wq_b b))) (hM0 : g.2.1 = M) : wq_g g E Y nL pc lv [.int v] M := by
  obtain ⟨r0, M0, p, l, e, R, s, m, args, below, meth, c⟩ := g
  obtain ⟨hx, hb, hml, hown, hts, hK, hi, hS, hlk, hr, rfl⟩ := h
  intro H ls locs hl hP hW
  simp only at hr0 hM0
  subst hr0
  subst hM0
  subst hv
  exact W.zret hx hb hr (by cases b <;> rfl) (fun t ht hw => ⟨rfl, by rw [ht]; exact hP, hW.F ht⟩) hW.2.2 hd hlk

theorem wq_blind {E : wq_E} {Y : wq_Y} {M : wq_M} {vs : List Value} : FrameBlind (va_Pc vs (wq_B E Y M)) := by
  intro a U g1 mk q
  obtain ⟨q0, qP, qK, qi, qS1, qS2⟩ := q
  exact ⟨q0, qP, va_K.moved (u := U) (U := U.calling g1 mk a) (Vm.Alike.refl U.vm) qK, qi, fun k hk => ⟨va_Z.moved (u := U) (U := U.calling g1 mk a) (Vm.Alike.refl U.vm) (qS1 k hk).1, va_T.moved (u := U) (U := U.calling g1 mk a) (Vm.Alike.refl U.vm) (qS1 k hk).2⟩, fun w hw => va_Nw.same (u := U) (U := U.calling g1 mk a) (by simp only [wq_nw, List.mem_cons, List.not_mem_nil, or_false] at hw; rcases hw with rfl | rfl | rfl <;> rfl) rfl (qS2 w hw)⟩
theorem wq_room {d' : Nat} {nM : Nat} (hd : d' < d) (hn : nM ≤ 45) : (wq_rm d').frames + 1 ≤ (wq_rm d).frames ∧ 8 + (nM + 11) + (wq_rm d').locals ≤ (wq_rm d).locals := by
  show d' + 1 + 1 ≤ d + 1 ∧ 8 + (nM + 11) + 64 * (d' + 1) ≤ 64 * (d + 1)
  omega
theorem wq_run_res {r : Option Value} {M1 : wq_M} {rest : List Value} {st0 : List Value} {a : Array Value}
    {p : Program} {l : Launch} {e : Env} {R : Room} {s : State} {m : MethodId} {args : Array Value} {below : List Frame} {meth : Method} {c : Code} {H : Heap} {locs : List Loc} {ls : Array Slot} {Q : State → Prop}
    (hr : va_Run p l e R s m args below meth c H locs 0 0 0 0 (F0 m pc ls st0) rest (wq_Q E Y r M1 a) (wq_A E Y)) (hW : va_S (wq_A E Y) s.heap H locs)
    (k : ∀ (H1 : Heap) (locs1 : List Loc), va_P E.1 wq_cl (wq_ws E Y M1) H1 → va_S (wq_A E Y) s.heap H1 locs1 → W p l e R s m args below meth c H1 locs1 0 0 Q (F0 m (pc + 3) ls (r.toList ++ rest))) :
    W p l e R s m args below meth c H locs 0 0 Q (F0 m pc ls st0) := by
  intro T hT X
  obtain ⟨v, st₀, t, T', L, h0, X', hL, e1, e2, ⟨hv, hP1, hz, hk⟩, st⟩ := hr T hT X
  cases hv
  rw [h0] at hz hk
  rw [← e1] at hP1
  obtain ⟨t2, a1, b1⟩ := k T'.heap (locs ++ L) hP1
    ⟨Nat.le_trans hW.1 (by rw [e1]; exact hz), fun q h1 h2 => by rw [e1, hk q (Nat.lt_of_lt_of_le h1 hW.1) h2]; exact hW.2.1 q h1 h2, fun q hq => by
      rcases List.mem_append.mp hq with h | h
      · exact hW.2.2 q h
      · exact hL q h⟩ T' rfl X'
  exact ⟨t2, st t2 a1, b1⟩
theorem wq_callV (h : wq_C g E Y cc nL own ret d) {p0 ci idx N0 n d' nM : Nat} {C0 : String} {T0 : u_T} {y : MethodName} {cb : ByteArray} {rt : Option FieldType} {As : List Value} {r : Option Value} {M1 : wq_M}
    (hct : wq_ct g.2.2.2.1 E Y y cb nM rt d' (.ref (E.2.1 p0) :: As) M r M1) (hd' : d' < d) (hnM : nM ≤ 45)
    (hp : p0 < Y.1) (hk : Y.2.1 p0 = ci) (hc8 : ci < 8) (hc : wq_cl[ci]? = some (C0, T0, N0)) (hyc : y.cls = C0)
    (hn : As.length = n) (hnp : y.cls ≠ "java/lang/invoke/MethodHandle" ∧ y.cls ≠ "java/lang/invoke/VarHandle" ∧ (parseMethodDescriptor y.desc).map (fun d => d.parameters.length) = some n)
    (w1 : Cond.methodLink own idx y ∈ wq_TB) (w2 : Cond.instanceMethod y ∈ wq_TB) (w3 : Cond.selects C0 y y ∈ wq_TB) (w4 : Cond.initialized C0 ∈ wq_TB) (w5 : Cond.code y cb nM rt ∈ wq_TB)
    (hst : (st.map fun v => v.category).sum ≤ 8) {st0 : List Value} (hs0 : st0 = As.reverse ++ .ref (E.2.1 p0) :: st) (hd : decode cc pc = .ok (.invokevirtual idx, 3)) {st1 : List Value} (hs1 : r.toList ++ st = st1) (k : wq_g g E Y nL (pc + 3) lv st1 M1) : wq_g g E Y nL pc lv st0 M := by
  obtain ⟨r0, M0, p, l, e, R, s, m, args, below, meth, c⟩ := g
  obtain ⟨hx, hb, hml, hown, hts, hK, hi, hS, hlk, hr, rfl⟩ := h
  intro H ls locs hl hP hW
  subst hs0
  subst hs1
  have hG : GoodIn wq_TB (wsV own idx C0 y (Cond.code y cb nM rt :: wq_TB)) := tb_good (fun w hw => by
    simp only [wsV, List.cons_append, List.nil_append, List.mem_cons] at hw
    rcases hw with rfl | rfl | rfl | rfl | rfl | hw
    · exact w1
    · exact w2
    · exact w3
    · exact w4
    · exact w5
    · exact hw)
  have hrun := va_runV (As := As) (rest := st) (g := F0 m pc ls (As.reverse ++ .ref (E.2.1 p0) :: st)) (cells := 0) (slots := 0) (locs := locs) (H := H) (below := below) (meth := meth) (e := e) (R := wq_rm d) (nL := nL) (Ts := wq_TB) ⟨hx, hb, hml, hown, hts⟩ hct (cwV n hts hG rfl rfl rfl ⟨hyc, hnp⟩ (wq_room hd' hnM)) ⟨wq_blind, va_recv hK hP hc (show (wq_ws E Y M)[p0]? = some (E.2.1 p0, .inr (ci, wq_fl E.2.1 M p0 ci)) by rw [wq_ws_at hp, wq_ce_o hk hc8]), fun U hU hw => ⟨rfl, by rw [hU]; exact hP, va_K.moved hw.alike hK, hi, wq_S_move hw (fun a ha hA => by rw [hU]; exact hW.2.1 a ha hA) hS⟩⟩ rfl hn hl.1 rfl (lv_room hst) hd ⟨by show 0 + 0 ≤ 0; omega, by show 0 + 0 ≤ 0; omega⟩
  exact wq_run_res hrun hW (fun H1 locs1 hP1 hS1 => k H1 ls locs1 hl hP1 hS1)
theorem wq_callS (h : wq_C g E Y cc nL own ret d) {idx n d' nM : Nat} {y : MethodName} {cb : ByteArray} {rt : Option FieldType} {As : List Value} {r : Option Value} {M1 : wq_M}
    (hct : wq_ct g.2.2.2.1 E Y y cb nM rt d' As M r M1) (hd' : d' < d) (hnM : nM ≤ 45)
    (hn : As.length = n) (hnp : y.cls ≠ "java/lang/invoke/MethodHandle" ∧ y.cls ≠ "java/lang/invoke/VarHandle" ∧ (parseMethodDescriptor y.desc).map (fun d => d.parameters.length) = some n)
    (w1 : Cond.methodLink own idx y ∈ wq_TB) (w2 : Cond.static y ∈ wq_TB) (w4 : Cond.initialized y.cls ∈ wq_TB) (w5 : Cond.code y cb nM rt ∈ wq_TB)
    (hst : (st.map fun v => v.category).sum ≤ 8) {st0 : List Value} (hs0 : st0 = As.reverse ++ st) (hd : decode cc pc = .ok (.invokestatic idx, 3)) {st1 : List Value} (hs1 : r.toList ++ st = st1) (k : wq_g g E Y nL (pc + 3) lv st1 M1) : wq_g g E Y nL pc lv st0 M := by
  obtain ⟨r0, M0, p, l, e, R, s, m, args, below, meth, c⟩ := g
  obtain ⟨hx, hb, hml, hown, hts, hK, hi, hS, hlk, hr, rfl⟩ := h
  intro H ls locs hl hP hW
  subst hs0
  subst hs1
  have hG : GoodIn wq_TB (va_wsS own idx y (Cond.code y cb nM rt :: wq_TB)) := tb_good (fun w hw => by
    simp only [va_wsS, List.cons_append, List.nil_append, List.mem_cons] at hw
    rcases hw with rfl | rfl | rfl | rfl | hw
    · exact w1
    · exact w2
    · exact w4
    · exact w5
    · exact hw)
  have hrun := va_runS (As := As) (rest := st) (g := F0 m pc ls (As.reverse ++ st)) (cells := 0) (slots := 0) (locs := locs) (H := H) (below := below) (meth := meth) (e := e) (R := wq_rm d) (nL := nL) (Ts := wq_TB) ⟨hx, hb, hml, hown, hts⟩ hct (va_cwS n hts hG rfl rfl rfl hnp (wq_room hd' hnM)) ⟨wq_blind, fun U hU hw => ⟨rfl, by rw [hU]; exact hP, va_K.moved hw.alike hK, hi, wq_S_move hw (fun a ha hA => by rw [hU]; exact hW.2.1 a ha hA) hS⟩⟩ rfl hn hl.1 rfl (lv_room hst) hd ⟨by show 0 + 0 ≤ 0; omega, by show 0 + 0 ≤ 0; omega⟩
  exact wq_run_res hrun hW (fun H1 locs1 hP1 hS1 => k H1 ls locs1 hl hP1 hS1)
end WQ
theorem wq_ent {l : Launch} {E : wq_E} {Y : wq_Y} {y : MethodName} {cc : ByteArray} {nL : Nat} {ret : Option FieldType} {d : Nat} {vs : List Value} {M : wq_M} {r : Option Value} {M' : wq_M} {own : String} {lv0 : List (Option Value)}
    (hy : plainName y.cls = true) (hown : y.cls = own) (hlen : (lg_sl vs).length ≤ nL) (hlv : wq_pr 0 lv0 = lv_args 0 vs)
    (k : ∀ g : wq_G, g.1 = r → g.2.1 = M' → wq_C g E Y cc nL own ret d → wq_g g E Y nL 0 lv0 [] M) : wq_ct l E Y y cc nL ret d vs M r M' := by
  refine Met.ofW (cc := cc) (maxL := nL) (ret := ret) hy rfl ?_
  intro p e s m args below meth c s₁ B hml hv
  obtain ⟨rfl, hP, hK, hi, hS⟩ := hv
  have hts : ∀ w ∈ wq_TB, w.before vs.toArray s = true := fun w hw => atoms_spec (ws := Cond.code y cc nL ret :: wq_TB) B.pre w (List.mem_cons_of_mem _ hw)
  have hfc : s.vm.findClass own = some m.cls := by rw [← hown]; exact findClass_of_methodNamed B.named
  have hl := lv_entry vs (n := nL) hlen
  rw [lg_entry_eq]
  rw [← hlv] at hl
  exact k (r, M', p, l, e, (headSpec (Cond.code y cc nL ret :: wq_TB) (wq_rm d)).room, s, m, vs.toArray, below, meth, c) rfl rfl ⟨B.exec, B.bytes, hml, hfc, hts, hK, hi, hS, B.notSynchronized, B.returns, rfl⟩ s.heap _ [] hl hP va_S.rf
def wq_lp {α β : Type} (body : α → Option (α ⊕ β)) : Nat → α → Option β
  | 0, _ => none
  | n + 1, s => match body s with
    | none => none
    | some (.inl s1) => wq_lp body n s1
    | some (.inr y) => some y
theorem wq_lp_ok {α β : Type} {body : α → Option (α ⊕ β)} {Hd : α → Prop} {Kx : β → Prop} (hb : ∀ s x, body s = some x → (match x with | .inl s1 => Hd s1 | .inr y => Kx y) → Hd s) : ∀ (n : Nat) (s : α) (y : β), wq_lp body n s = some y → Kx y → Hd s
  | 0, s, y, h, _ => by simp [wq_lp] at h
  | n + 1, s, y, h, K => by
    cases hs : body s with
    | none => simp [wq_lp, hs] at h
    | some x =>
      cases x with
      | inl s1 =>
        simp only [wq_lp, hs] at h
        exact hb s _ hs (wq_lp_ok hb n s1 y h K)
      | inr z =>
        simp only [wq_lp, hs] at h
        cases h
        exact hb s _ hs K
theorem wq_ob {α β : Type} {x : Option α} {f : α → Option β} {y : β} (h : x.bind f = some y) : ∃ a, x = some a ∧ f a = some y := by
  cases x with
  | none => cases h
  | some a => exact ⟨a, rfl, h⟩
end
section
theorem tb_m0 {w : Cond} (h : w ∈ k2_sels lw_privs) (hg : goodWord w = true) : w ∈ wq_TB := List.mem_filter.mpr ⟨List.mem_append_left _ h, hg⟩
theorem tb_m {w : Cond} (h : w ∈ tables_1) (hg : goodWord w = true) : w ∈ wq_TB := List.mem_filter.mpr ⟨List.mem_append_right _ h, hg⟩
theorem tb_0 {w : Cond} (i : Nat) (h : (k2_sels lw_privs)[i]? = some w) (hg : goodWord w = true) : w ∈ wq_TB := tb_m0 (List.mem_of_getElem? h) hg
theorem tb_1 {w : Cond} (i : Nat) (h : tables_1_1[i]? = some w) (hg : goodWord w = true) : w ∈ wq_TB := tb_m (List.mem_append_left _ (List.mem_of_getElem? h)) hg
theorem tb_2 {w : Cond} (i : Nat) (h : tables_1_2[i]? = some w) (hg : goodWord w = true) : w ∈ wq_TB := tb_m (List.mem_append_right _ (List.mem_append_left _ (List.mem_of_getElem? h))) hg
theorem tb_3 {w : Cond} (i : Nat) (h : tables_1_3[i]? = some w) (hg : goodWord w = true) : w ∈ wq_TB := tb_m (List.mem_append_right _ (List.mem_append_right _ (List.mem_append_left _ (List.mem_of_getElem? h)))) hg
theorem tb_4 {w : Cond} (i : Nat) (h : tables_1_4[i]? = some w) (hg : goodWord w = true) : w ∈ wq_TB := tb_m (List.mem_append_right _ (List.mem_append_right _ (List.mem_append_right _ (List.mem_append_left _ (List.mem_of_getElem? h))))) hg
theorem tb_5 {w : Cond} (i : Nat) (h : tables_1_5[i]? = some w) (hg : goodWord w = true) : w ∈ wq_TB := tb_m (List.mem_append_right _ (List.mem_append_right _ (List.mem_append_right _ (List.mem_append_right _ (List.mem_of_getElem? h))))) hg
theorem tw_0 : Jvm.Cond.selects "WellPipes" ({ cls := "WellPipes", name := "found", desc := "(I)I" } : Jvm.MethodName) ({ cls := "WellPipes", name := "found", desc := "(I)I" } : Jvm.MethodName) ∈ wq_TB := tb_0 0 rfl rfl
theorem tw_1 : Jvm.Cond.selects "WellPipes" ({ cls := "WellPipes", name := "passed", desc := "(I)I" } : Jvm.MethodName) ({ cls := "WellPipes", name := "passed", desc := "(I)I" } : Jvm.MethodName) ∈ wq_TB := tb_0 1 rfl rfl
theorem tw_2 : Jvm.Cond.selects "WellPipes$Reader" ({ cls := "WellPipes$Reader", name := "readLaw", desc := "(LWellPipes$Well;)V" } : Jvm.MethodName) ({ cls := "WellPipes$Reader", name := "readLaw", desc := "(LWellPipes$Well;)V" } : Jvm.MethodName) ∈ wq_TB := tb_0 2 rfl rfl
theorem tw_3 : Jvm.Cond.selects "WellPipes$Reader" ({ cls := "WellPipes$Reader", name := "readSign", desc := "(C)V" } : Jvm.MethodName) ({ cls := "WellPipes$Reader", name := "readSign", desc := "(C)V" } : Jvm.MethodName) ∈ wq_TB := tb_0 3 rfl rfl
theorem tw_4 : Jvm.Cond.selects "WellPipes$Reader" ({ cls := "WellPipes$Reader", name := "fail", desc := "(I)V" } : Jvm.MethodName) ({ cls := "WellPipes$Reader", name := "fail", desc := "(I)V" } : Jvm.MethodName) ∈ wq_TB := tb_0 4 rfl rfl
theorem tw_5 : Jvm.Cond.selects "WellPipes$Reader" ({ cls := "WellPipes$Reader", name := "readNumber", desc := "(II)I" } : Jvm.MethodName) ({ cls := "WellPipes$Reader", name := "readNumber", desc := "(II)I" } : Jvm.MethodName) ∈ wq_TB := tb_0 5 rfl rfl
theorem tw_6 : Jvm.Cond.selects "WellPipes$Reader" ({ cls := "WellPipes$Reader", name := "readRule", desc := "(I)I" } : Jvm.MethodName) ({ cls := "WellPipes$Reader", name := "readRule", desc := "(I)I" } : Jvm.MethodName) ∈ wq_TB := tb_0 6 rfl rfl
theorem tw_7 : Jvm.Cond.selects "WellPipes$Reader" ({ cls := "WellPipes$Reader", name := "readGas", desc := "(LWellPipes$Well;)V" } : Jvm.MethodName) ({ cls := "WellPipes$Reader", name := "readGas", desc := "(LWellPipes$Well;)V" } : Jvm.MethodName) ∈ wq_TB := tb_0 7 rfl rfl
theorem tw_8 : Jvm.Cond.selects "WellPipes$Reader" ({ cls := "WellPipes$Reader", name := "readGrade", desc := "(LWellPipes$Well;I)V" } : Jvm.MethodName) ({ cls := "WellPipes$Reader", name := "readGrade", desc := "(LWellPipes$Well;I)V" } : Jvm.MethodName) ∈ wq_TB := tb_0 8 rfl rfl
theorem tw_9 : Jvm.Cond.selects "WellPipes$Reader" ({ cls := "WellPipes$Reader", name := "kindAtHand", desc := "()I" } : Jvm.MethodName) ({ cls := "WellPipes$Reader", name := "kindAtHand", desc := "()I" } : Jvm.MethodName) ∈ wq_TB := tb_0 9 rfl rfl
theorem tw_10 : Jvm.Cond.selects "WellPipes" ({ cls := "WellPipes", name := "isStep", desc := "(I)Z" } : Jvm.MethodName) ({ cls := "WellPipes", name := "isStep", desc := "(I)Z" } : Jvm.MethodName) ∈ wq_TB := tb_0 10 rfl rfl
theorem tw_11 : Jvm.Cond.selects "WellPipes" ({ cls := "WellPipes", name := "isGrade", desc := "(I)Z" } : Jvm.MethodName) ({ cls := "WellPipes", name := "isGrade", desc := "(I)Z" } : Jvm.MethodName) ∈ wq_TB := tb_0 11 rfl rfl
theorem tw_12 : Jvm.Cond.selects "WellPipes" ({ cls := "WellPipes", name := "hasNoWell", desc := "()Z" } : Jvm.MethodName) ({ cls := "WellPipes", name := "hasNoWell", desc := "()Z" } : Jvm.MethodName) ∈ wq_TB := tb_0 12 rfl rfl
theorem tw_13 : Jvm.Cond.selects "WellPipes$Search" ({ cls := "WellPipes$Search", name := "swap", desc := "()V" } : Jvm.MethodName) ({ cls := "WellPipes$Search", name := "swap", desc := "()V" } : Jvm.MethodName) ∈ wq_TB := tb_0 13 rfl rfl
theorem tw_14 : Jvm.Cond.selects "WellPipes$Search" ({ cls := "WellPipes$Search", name := "layOnAll", desc := "(II)V" } : Jvm.MethodName) ({ cls := "WellPipes$Search", name := "layOnAll", desc := "(II)V" } : Jvm.MethodName) ∈ wq_TB := tb_0 14 rfl rfl
theorem tw_15 : Jvm.Cond.selects "WellPipes$Search" ({ cls := "WellPipes$Search", name := "layOn", desc := "(IIII)V" } : Jvm.MethodName) ({ cls := "WellPipes$Search", name := "layOn", desc := "(IIII)V" } : Jvm.MethodName) ∈ wq_TB := tb_0 15 rfl rfl
theorem tw_16 : Jvm.Cond.selects "WellPipes$Search" ({ cls := "WellPipes$Search", name := "choose", desc := "()Z" } : Jvm.MethodName) ({ cls := "WellPipes$Search", name := "choose", desc := "()Z" } : Jvm.MethodName) ∈ wq_TB := tb_0 16 rfl rfl
theorem tw_17 : Jvm.Cond.selects "WellPipes$Search" ({ cls := "WellPipes$Search", name := "tellString", desc := "(I)V" } : Jvm.MethodName) ({ cls := "WellPipes$Search", name := "tellString", desc := "(I)V" } : Jvm.MethodName) ∈ wq_TB := tb_0 17 rfl rfl
theorem tw_18 : Jvm.Cond.selects "WellPipes" ({ cls := "WellPipes", name := "isBest", desc := "(LWellPipes$Well;LWellPipes$Row;I)Z" } : Jvm.MethodName) ({ cls := "WellPipes", name := "isBest", desc := "(LWellPipes$Well;LWellPipes$Row;I)Z" } : Jvm.MethodName) ∈ wq_TB := tb_0 18 rfl rfl
theorem tw_19 : Jvm.Cond.selects "WellPipes$Asks" ({ cls := "WellPipes$Asks", name := "bodyFor", desc := "(I)I" } : Jvm.MethodName) ({ cls := "WellPipes$Asks", name := "bodyFor", desc := "(I)I" } : Jvm.MethodName) ∈ wq_TB := tb_0 19 rfl rfl
theorem tw_20 : Jvm.Cond.selects "WellPipes$Asks" ({ cls := "WellPipes$Asks", name := "begin", desc := "(II)I" } : Jvm.MethodName) ({ cls := "WellPipes$Asks", name := "begin", desc := "(II)I" } : Jvm.MethodName) ∈ wq_TB := tb_0 20 rfl rfl
theorem tw_21 : Jvm.Cond.selects "WellPipes" ({ cls := "WellPipes", name := "howManyRows", desc := "()I" } : Jvm.MethodName) ({ cls := "WellPipes", name := "howManyRows", desc := "()I" } : Jvm.MethodName) ∈ wq_TB := tb_0 21 rfl rfl
theorem tw_22 : Jvm.Cond.selects "WellPipesModel" ({ cls := "WellPipesModel", name := "finding", desc := "(I)I" } : Jvm.MethodName) ({ cls := "WellPipesModel", name := "finding", desc := "(I)I" } : Jvm.MethodName) ∈ wq_TB := tb_0 22 rfl rfl
theorem tw_23 : Jvm.Cond.selects "WellPipesModel" ({ cls := "WellPipesModel", name := "begin", desc := "()V" } : Jvm.MethodName) ({ cls := "WellPipesModel", name := "begin", desc := "()V" } : Jvm.MethodName) ∈ wq_TB := tb_0 23 rfl rfl
theorem tw_24 : Jvm.Cond.selects "WellPipesModel" ({ cls := "WellPipesModel", name := "nextToken", desc := "()V" } : Jvm.MethodName) ({ cls := "WellPipesModel", name := "nextToken", desc := "()V" } : Jvm.MethodName) ∈ wq_TB := tb_0 24 rfl rfl
theorem tw_25 : Jvm.Cond.selects "WellPipesModel" ({ cls := "WellPipesModel", name := "isLetter", desc := "(I)Z" } : Jvm.MethodName) ({ cls := "WellPipesModel", name := "isLetter", desc := "(I)Z" } : Jvm.MethodName) ∈ wq_TB := tb_0 25 rfl rfl
theorem tw_26 : Jvm.Cond.selects "WellPipesModel" ({ cls := "WellPipesModel", name := "must", desc := "(Z)V" } : Jvm.MethodName) ({ cls := "WellPipesModel", name := "must", desc := "(Z)V" } : Jvm.MethodName) ∈ wq_TB := tb_0 26 rfl rfl
theorem tw_27 : Jvm.Cond.selects "WellPipesModel" ({ cls := "WellPipesModel", name := "bad", desc := "(I)V" } : Jvm.MethodName) ({ cls := "WellPipesModel", name := "bad", desc := "(I)V" } : Jvm.MethodName) ∈ wq_TB := tb_0 27 rfl rfl
theorem tw_28 : Jvm.Cond.selects "WellPipesModel" ({ cls := "WellPipesModel", name := "number", desc := "(II)I" } : Jvm.MethodName) ({ cls := "WellPipesModel", name := "number", desc := "(II)I" } : Jvm.MethodName) ∈ wq_TB := tb_0 28 rfl rfl
theorem tw_29 : Jvm.Cond.selects "WellPipesModel" ({ cls := "WellPipesModel", name := "mustSign", desc := "(I)V" } : Jvm.MethodName) ({ cls := "WellPipesModel", name := "mustSign", desc := "(I)V" } : Jvm.MethodName) ∈ wq_TB := tb_0 29 rfl rfl
theorem tw_30 : Jvm.Cond.selects "WellPipesModel" ({ cls := "WellPipesModel", name := "isSort", desc := "()Z" } : Jvm.MethodName) ({ cls := "WellPipesModel", name := "isSort", desc := "()Z" } : Jvm.MethodName) ∈ wq_TB := tb_0 30 rfl rfl
theorem tw_31 : Jvm.Cond.selects "WellPipesModel" ({ cls := "WellPipesModel", name := "readGrade", desc := "()V" } : Jvm.MethodName) ({ cls := "WellPipesModel", name := "readGrade", desc := "()V" } : Jvm.MethodName) ∈ wq_TB := tb_0 31 rfl rfl
theorem tw_32 : Jvm.Cond.selects "WellPipesModel" ({ cls := "WellPipesModel", name := "failed", desc := "()Z" } : Jvm.MethodName) ({ cls := "WellPipesModel", name := "failed", desc := "()Z" } : Jvm.MethodName) ∈ wq_TB := tb_0 32 rfl rfl
theorem tw_33 : Jvm.Cond.selects "WellPipesModel" ({ cls := "WellPipesModel", name := "isStep", desc := "(I)Z" } : Jvm.MethodName) ({ cls := "WellPipesModel", name := "isStep", desc := "(I)Z" } : Jvm.MethodName) ∈ wq_TB := tb_0 33 rfl rfl
theorem tw_34 : Jvm.Cond.selects "WellPipesModel" ({ cls := "WellPipesModel", name := "isGrade", desc := "(I)Z" } : Jvm.MethodName) ({ cls := "WellPipesModel", name := "isGrade", desc := "(I)Z" } : Jvm.MethodName) ∈ wq_TB := tb_0 34 rfl rfl
theorem tw_35 : Jvm.Cond.selects "WellPipesModel" ({ cls := "WellPipesModel", name := "keep", desc := "()V" } : Jvm.MethodName) ({ cls := "WellPipesModel", name := "keep", desc := "()V" } : Jvm.MethodName) ∈ wq_TB := tb_0 35 rfl rfl
theorem tw_36 : Jvm.Cond.selects "WellPipesModel" ({ cls := "WellPipesModel", name := "isThere", desc := "()Z" } : Jvm.MethodName) ({ cls := "WellPipesModel", name := "isThere", desc := "()Z" } : Jvm.MethodName) ∈ wq_TB := tb_0 36 rfl rfl
theorem tw_37 : Jvm.Cond.selects "WellPipesModel" ({ cls := "WellPipesModel", name := "laysBest", desc := "([II)I" } : Jvm.MethodName) ({ cls := "WellPipesModel", name := "laysBest", desc := "([II)I" } : Jvm.MethodName) ∈ wq_TB := tb_0 37 rfl rfl
theorem tw_38 : Jvm.Cond.selects "WellPipesModel" ({ cls := "WellPipesModel", name := "leastAt", desc := "([IIIIII)I" } : Jvm.MethodName) ({ cls := "WellPipesModel", name := "leastAt", desc := "([IIIIII)I" } : Jvm.MethodName) ∈ wq_TB := tb_0 38 rfl rfl
theorem tw_39 : Jvm.Cond.selects "WellPipesModel" ({ cls := "WellPipesModel", name := "through", desc := "([IIIIII)I" } : Jvm.MethodName) ({ cls := "WellPipesModel", name := "through", desc := "([IIIIII)I" } : Jvm.MethodName) ∈ wq_TB := tb_0 39 rfl rfl
theorem tw_40 : Jvm.Cond.selects "WellPipesModel" ({ cls := "WellPipesModel", name := "firstLoose", desc := "()I" } : Jvm.MethodName) ({ cls := "WellPipesModel", name := "firstLoose", desc := "()I" } : Jvm.MethodName) ∈ wq_TB := tb_0 40 rfl rfl
theorem tw_41 : Jvm.Cond.selects "WellPipesModel" ({ cls := "WellPipesModel", name := "layThen", desc := "()V" } : Jvm.MethodName) ({ cls := "WellPipesModel", name := "layThen", desc := "()V" } : Jvm.MethodName) ∈ wq_TB := tb_0 41 rfl rfl
theorem tw_42 : Jvm.Cond.selects "WellPipesModel" ({ cls := "WellPipesModel", name := "heftAt", desc := "(I)I" } : Jvm.MethodName) ({ cls := "WellPipesModel", name := "heftAt", desc := "(I)I" } : Jvm.MethodName) ∈ wq_TB := tb_0 42 rfl rfl
theorem tw_43 : Jvm.Cond.selects "WellPipesModel" ({ cls := "WellPipesModel", name := "bestTurn", desc := "(II)I" } : Jvm.MethodName) ({ cls := "WellPipesModel", name := "bestTurn", desc := "(II)I" } : Jvm.MethodName) ∈ wq_TB := tb_0 43 rfl rfl
theorem tw_44 : Jvm.Cond.selects "WellPipesModel" ({ cls := "WellPipesModel", name := "rowFound", desc := "(III)I" } : Jvm.MethodName) ({ cls := "WellPipesModel", name := "rowFound", desc := "(III)I" } : Jvm.MethodName) ∈ wq_TB := tb_0 44 rfl rfl
theorem tw_45 : Jvm.Cond.selects "WellPipesModel" ({ cls := "WellPipesModel", name := "sizeOf", desc := "(I)I" } : Jvm.MethodName) ({ cls := "WellPipesModel", name := "sizeOf", desc := "(I)I" } : Jvm.MethodName) ∈ wq_TB := tb_0 45 rfl rfl
theorem tw_46 : Jvm.Cond.selects "WellPipesModel" ({ cls := "WellPipesModel", name := "thickSize", desc := "(I)I" } : Jvm.MethodName) ({ cls := "WellPipesModel", name := "thickSize", desc := "(I)I" } : Jvm.MethodName) ∈ wq_TB := tb_0 46 rfl rfl
theorem tw_47 : Jvm.Cond.selects "WellPipesModel" ({ cls := "WellPipesModel", name := "began", desc := "(I)V" } : Jvm.MethodName) ({ cls := "WellPipesModel", name := "began", desc := "(I)V" } : Jvm.MethodName) ∈ wq_TB := tb_0 47 rfl rfl
theorem tw_48 : Jvm.Cond.selects "WellPipesModel" ({ cls := "WellPipesModel", name := "plainSize", desc := "(I)I" } : Jvm.MethodName) ({ cls := "WellPipesModel", name := "plainSize", desc := "(I)I" } : Jvm.MethodName) ∈ wq_TB := tb_0 48 rfl rfl
theorem tw_49 : Jvm.Cond.selects "WellPipesModel" ({ cls := "WellPipesModel", name := "markOf", desc := "(I)I" } : Jvm.MethodName) ({ cls := "WellPipesModel", name := "markOf", desc := "(I)I" } : Jvm.MethodName) ∈ wq_TB := tb_0 49 rfl rfl
theorem tw_50 : Jvm.Cond.initialized "WellPipesLaw" ∈ wq_TB := tb_1 0 rfl rfl
theorem tw_51 : Jvm.Cond.initialized "WellPipes" ∈ wq_TB := tb_1 1 rfl rfl
theorem tw_52 : Jvm.Cond.initialized "WellPipes$Reader" ∈ wq_TB := tb_1 2 rfl rfl
theorem tw_53 : Jvm.Cond.initialized "WellPipes$Well" ∈ wq_TB := tb_1 3 rfl rfl
theorem tw_54 : Jvm.Cond.initialized "WellPipes$Search" ∈ wq_TB := tb_1 4 rfl rfl
theorem tw_55 : Jvm.Cond.initialized "WellPipes$Acts" ∈ wq_TB := tb_1 5 rfl rfl
theorem tw_56 : Jvm.Cond.initialized "WellPipes$Asks" ∈ wq_TB := tb_1 6 rfl rfl
theorem tw_57 : Jvm.Cond.initialized "WellPipes$Row" ∈ wq_TB := tb_1 7 rfl rfl
theorem tw_58 : Jvm.Cond.initialized "WellPipesModel" ∈ wq_TB := tb_1 8 rfl rfl
theorem tw_59 : Jvm.Cond.initialized "java/util/Arrays" ∈ wq_TB := tb_1 9 rfl rfl
theorem tw_60 : Jvm.Cond.initialized "java/lang/System" ∈ wq_TB := tb_1 10 rfl rfl
theorem tw_61 : Jvm.Cond.initialized "java/lang/Math" ∈ wq_TB := tb_1 11 rfl rfl
theorem tw_64 : Jvm.Cond.methodLink "WellPipesLaw" (9 : Nat) ({ cls := "WellPipes", name := "<init>", desc := "()V" } : Jvm.MethodName) ∈ wq_TB := tb_1 14 rfl rfl
theorem tw_65 : Jvm.Cond.instanceMethod ({ cls := "WellPipes", name := "<init>", desc := "()V" } : Jvm.MethodName) ∈ wq_TB := tb_1 15 rfl rfl
theorem tw_66 : Jvm.Cond.code ({ cls := "WellPipes", name := "<init>", desc := "()V" } : Jvm.MethodName) prog_1_method_1_code (2 : Nat) (Option.none : Option Jvm.ClassFile.FieldType) ∈ wq_TB := tb_1 16 rfl rfl
theorem tw_67 : Jvm.Cond.methodLink "WellPipes" (1 : Nat) ({ cls := "java/lang/Object", name := "<init>", desc := "()V" } : Jvm.MethodName) ∈ wq_TB := tb_1 17 rfl rfl
theorem tw_68 : Jvm.Cond.instanceMethod ({ cls := "java/lang/Object", name := "<init>", desc := "()V" } : Jvm.MethodName) ∈ wq_TB := tb_1 18 rfl rfl
theorem tw_69 : Jvm.Cond.code ({ cls := "java/lang/Object", name := "<init>", desc := "()V" } : Jvm.MethodName) object_method_1_code (1 : Nat) (Option.none : Option Jvm.ClassFile.FieldType) ∈ wq_TB := tb_1 19 rfl rfl
theorem tw_75 : Jvm.Cond.instanceMethod ({ cls := "WellPipes$Reader", name := "<init>", desc := "()V" } : Jvm.MethodName) ∈ wq_TB := tb_1 25 rfl rfl
theorem tw_76 : Jvm.Cond.code ({ cls := "WellPipes$Reader", name := "<init>", desc := "()V" } : Jvm.MethodName) prog_4_method_1_code (1 : Nat) (Option.none : Option Jvm.ClassFile.FieldType) ∈ wq_TB := tb_1 26 rfl rfl
theorem tw_77 : Jvm.Cond.methodLink "WellPipes$Reader" (3 : Nat) ({ cls := "java/lang/Object", name := "<init>", desc := "()V" } : Jvm.MethodName) ∈ wq_TB := tb_1 27 rfl rfl
theorem tw_78 : Jvm.Cond.fieldLink "WellPipes$Reader" (9 : Nat) "WellPipes$Reader" "bytes" "[I" ∈ wq_TB := tb_1 28 rfl rfl
theorem tw_79 : Jvm.Cond.fieldLink "WellPipes$Reader" (15 : Nat) "WellPipes$Reader" "length" "I" ∈ wq_TB := tb_1 29 rfl rfl
theorem tw_80 : Jvm.Cond.fieldLink "WellPipes" (106 : Nat) "WellPipes$Reader" "length" "I" ∈ wq_TB := tb_1 30 rfl rfl
theorem tw_81 : Jvm.Cond.fieldLink "WellPipes" (115 : Nat) "WellPipes$Reader" "faultPlace" "I" ∈ wq_TB := tb_1 31 rfl rfl
theorem tw_82 : Jvm.Cond.fieldLink "WellPipes$Reader" (93 : Nat) "WellPipes$Reader" "faultPlace" "I" ∈ wq_TB := tb_1 32 rfl rfl
theorem tw_83 : Jvm.Cond.fieldLink "WellPipes" (128 : Nat) "WellPipes$Reader" "latestFault" "I" ∈ wq_TB := tb_1 33 rfl rfl
theorem tw_84 : Jvm.Cond.fieldLink "WellPipes$Reader" (96 : Nat) "WellPipes$Reader" "latestFault" "I" ∈ wq_TB := tb_1 34 rfl rfl
theorem tw_85 : Jvm.Cond.fieldLink "WellPipes$Reader" (19 : Nat) "WellPipes$Reader" "at" "I" ∈ wq_TB := tb_1 35 rfl rfl
theorem tw_86 : Jvm.Cond.fieldLink "WellPipes$Reader" (22 : Nat) "WellPipes$Reader" "failed" "Z" ∈ wq_TB := tb_1 36 rfl rfl
theorem tw_104 : Jvm.Cond.instanceMethod ({ cls := "WellPipes$Well", name := "<init>", desc := "()V" } : Jvm.MethodName) ∈ wq_TB := tb_1 54 rfl rfl
theorem tw_105 : Jvm.Cond.code ({ cls := "WellPipes$Well", name := "<init>", desc := "()V" } : Jvm.MethodName) prog_7_method_1_code (1 : Nat) (Option.none : Option Jvm.ClassFile.FieldType) ∈ wq_TB := tb_1 55 rfl rfl
theorem tw_106 : Jvm.Cond.methodLink "WellPipes$Well" (3 : Nat) ({ cls := "java/lang/Object", name := "<init>", desc := "()V" } : Jvm.MethodName) ∈ wq_TB := tb_1 56 rfl rfl
theorem tw_107 : Jvm.Cond.fieldLink "WellPipes$Well" (24 : Nat) "WellPipes$Well" "steps" "I" ∈ wq_TB := tb_1 57 rfl rfl
theorem tw_108 : Jvm.Cond.fieldLink "WellPipes$Search" (55 : Nat) "WellPipes$Well" "steps" "I" ∈ wq_TB := tb_1 58 rfl rfl
theorem tw_109 : Jvm.Cond.fieldLink "WellPipes$Reader" (59 : Nat) "WellPipes$Well" "steps" "I" ∈ wq_TB := tb_1 59 rfl rfl
theorem tw_110 : Jvm.Cond.fieldLink "WellPipes" (211 : Nat) "WellPipes$Well" "steps" "I" ∈ wq_TB := tb_1 60 rfl rfl
theorem tw_111 : Jvm.Cond.fieldLink "WellPipes$Well" (28 : Nat) "WellPipes$Well" "grades" "I" ∈ wq_TB := tb_1 61 rfl rfl
theorem tw_112 : Jvm.Cond.fieldLink "WellPipes$Search" (61 : Nat) "WellPipes$Well" "grades" "I" ∈ wq_TB := tb_1 62 rfl rfl
theorem tw_113 : Jvm.Cond.fieldLink "WellPipes$Reader" (33 : Nat) "WellPipes$Well" "grades" "I" ∈ wq_TB := tb_1 63 rfl rfl
theorem tw_114 : Jvm.Cond.fieldLink "WellPipes" (125 : Nat) "WellPipes$Well" "grades" "I" ∈ wq_TB := tb_1 64 rfl rfl
theorem tw_115 : Jvm.Cond.fieldLink "WellPipes$Well" (9 : Nat) "WellPipes$Well" "rules" "[I" ∈ wq_TB := tb_1 65 rfl rfl
theorem tw_116 : Jvm.Cond.fieldLink "WellPipes$Search" (31 : Nat) "WellPipes$Well" "rules" "[I" ∈ wq_TB := tb_1 66 rfl rfl
theorem tw_117 : Jvm.Cond.fieldLink "WellPipes$Acts" (38 : Nat) "WellPipes$Well" "rules" "[I" ∈ wq_TB := tb_1 67 rfl rfl
theorem tw_118 : Jvm.Cond.fieldLink "WellPipes$Reader" (62 : Nat) "WellPipes$Well" "rules" "[I" ∈ wq_TB := tb_1 68 rfl rfl
theorem tw_119 : Jvm.Cond.fieldLink "WellPipes" (174 : Nat) "WellPipes$Well" "rules" "[I" ∈ wq_TB := tb_1 69 rfl rfl
theorem tw_120 : Jvm.Cond.fieldLink "WellPipes$Well" (15 : Nat) "WellPipes$Well" "kinds" "[I" ∈ wq_TB := tb_1 70 rfl rfl
theorem tw_121 : Jvm.Cond.fieldLink "WellPipes$Asks" (34 : Nat) "WellPipes$Well" "kinds" "[I" ∈ wq_TB := tb_1 71 rfl rfl
theorem tw_122 : Jvm.Cond.fieldLink "WellPipes$Reader" (77 : Nat) "WellPipes$Well" "kinds" "[I" ∈ wq_TB := tb_1 72 rfl rfl
theorem tw_123 : Jvm.Cond.fieldLink "WellPipes" (236 : Nat) "WellPipes$Well" "kinds" "[I" ∈ wq_TB := tb_1 73 rfl rfl
theorem tw_124 : Jvm.Cond.fieldLink "WellPipes$Well" (18 : Nat) "WellPipes$Well" "figures" "[I" ∈ wq_TB := tb_1 74 rfl rfl
theorem tw_125 : Jvm.Cond.fieldLink "WellPipes$Well" (21 : Nat) "WellPipes$Well" "laid" "[I" ∈ wq_TB := tb_1 75 rfl rfl
theorem tw_126 : Jvm.Cond.fieldLink "WellPipes$Reader" (42 : Nat) "WellPipes$Well" "laid" "[I" ∈ wq_TB := tb_1 76 rfl rfl
theorem tw_127 : Jvm.Cond.fieldLink "WellPipes" (144 : Nat) "WellPipes$Well" "laid" "[I" ∈ wq_TB := tb_1 77 rfl rfl
theorem tw_145 : Jvm.Cond.instanceMethod ({ cls := "WellPipes$Search", name := "<init>", desc := "()V" } : Jvm.MethodName) ∈ wq_TB := tb_1 95 rfl rfl
theorem tw_146 : Jvm.Cond.code ({ cls := "WellPipes$Search", name := "<init>", desc := "()V" } : Jvm.MethodName) prog_6_method_1_code (1 : Nat) (Option.none : Option Jvm.ClassFile.FieldType) ∈ wq_TB := tb_1 96 rfl rfl
theorem tw_147 : Jvm.Cond.methodLink "WellPipes$Search" (5 : Nat) ({ cls := "java/lang/Object", name := "<init>", desc := "()V" } : Jvm.MethodName) ∈ wq_TB := tb_1 97 rfl rfl
theorem tw_148 : Jvm.Cond.fieldLink "WellPipes$Search" (11 : Nat) "WellPipes$Search" "string" "[I" ∈ wq_TB := tb_1 98 rfl rfl
theorem tw_149 : Jvm.Cond.fieldLink "WellPipes" (162 : Nat) "WellPipes$Search" "string" "[I" ∈ wq_TB := tb_1 99 rfl rfl
theorem tw_150 : Jvm.Cond.fieldLink "WellPipes$Search" (95 : Nat) "WellPipes$Search" "cost" "I" ∈ wq_TB := tb_1 100 rfl rfl
theorem tw_151 : Jvm.Cond.fieldLink "WellPipes" (165 : Nat) "WellPipes$Search" "cost" "I" ∈ wq_TB := tb_1 101 rfl rfl
theorem tw_152 : Jvm.Cond.fieldLink "WellPipes$Search" (92 : Nat) "WellPipes$Search" "heft" "I" ∈ wq_TB := tb_1 102 rfl rfl
theorem tw_153 : Jvm.Cond.fieldLink "WellPipes" (223 : Nat) "WellPipes$Search" "heft" "I" ∈ wq_TB := tb_1 103 rfl rfl
theorem tw_154 : Jvm.Cond.fieldLink "WellPipes$Search" (15 : Nat) "WellPipes$Search" "below" "[I" ∈ wq_TB := tb_1 104 rfl rfl
theorem tw_155 : Jvm.Cond.fieldLink "WellPipes$Search" (18 : Nat) "WellPipes$Search" "above" "[I" ∈ wq_TB := tb_1 105 rfl rfl
theorem tw_156 : Jvm.Cond.fieldLink "WellPipes$Search" (21 : Nat) "WellPipes$Search" "wholeBelow" "[I" ∈ wq_TB := tb_1 106 rfl rfl
theorem tw_157 : Jvm.Cond.fieldLink "WellPipes$Search" (24 : Nat) "WellPipes$Search" "wholeAbove" "[I" ∈ wq_TB := tb_1 107 rfl rfl
theorem tw_158 : Jvm.Cond.fieldLink "WellPipes$Search" (27 : Nat) "WellPipes$Search" "well" "LWellPipes$Well;" ∈ wq_TB := tb_1 108 rfl rfl
theorem tw_159 : Jvm.Cond.fieldLink "WellPipes$Search" (45 : Nat) "WellPipes$Search" "least" "I" ∈ wq_TB := tb_1 109 rfl rfl
theorem tw_182 : Jvm.Cond.instanceMethod ({ cls := "WellPipes$Acts", name := "<init>", desc := "()V" } : Jvm.MethodName) ∈ wq_TB := tb_1 132 rfl rfl
theorem tw_183 : Jvm.Cond.code ({ cls := "WellPipes$Acts", name := "<init>", desc := "()V" } : Jvm.MethodName) prog_2_method_1_code (1 : Nat) (Option.none : Option Jvm.ClassFile.FieldType) ∈ wq_TB := tb_1 133 rfl rfl
theorem tw_184 : Jvm.Cond.methodLink "WellPipes$Acts" (5 : Nat) ({ cls := "java/lang/Object", name := "<init>", desc := "()V" } : Jvm.MethodName) ∈ wq_TB := tb_1 134 rfl rfl
theorem tw_185 : Jvm.Cond.fieldLink "WellPipes$Acts" (11 : Nat) "WellPipes$Acts" "whats" "[I" ∈ wq_TB := tb_1 135 rfl rfl
theorem tw_186 : Jvm.Cond.fieldLink "WellPipes$Acts" (15 : Nat) "WellPipes$Acts" "befores" "[I" ∈ wq_TB := tb_1 136 rfl rfl
theorem tw_187 : Jvm.Cond.fieldLink "WellPipes$Acts" (18 : Nat) "WellPipes$Acts" "kept" "I" ∈ wq_TB := tb_1 137 rfl rfl
theorem tw_188 : Jvm.Cond.fieldLink "WellPipes" (131 : Nat) "WellPipes$Acts" "kept" "I" ∈ wq_TB := tb_1 138 rfl rfl
theorem tw_199 : Jvm.Cond.instanceMethod ({ cls := "WellPipes$Asks", name := "<init>", desc := "()V" } : Jvm.MethodName) ∈ wq_TB := tb_1 149 rfl rfl
theorem tw_200 : Jvm.Cond.code ({ cls := "WellPipes$Asks", name := "<init>", desc := "()V" } : Jvm.MethodName) prog_3_method_1_code (1 : Nat) (Option.none : Option Jvm.ClassFile.FieldType) ∈ wq_TB := tb_1 150 rfl rfl
theorem tw_201 : Jvm.Cond.methodLink "WellPipes$Asks" (3 : Nat) ({ cls := "java/lang/Object", name := "<init>", desc := "()V" } : Jvm.MethodName) ∈ wq_TB := tb_1 151 rfl rfl
theorem tw_202 : Jvm.Cond.fieldLink "WellPipes$Asks" (9 : Nat) "WellPipes$Asks" "bodies" "[I" ∈ wq_TB := tb_1 152 rfl rfl
theorem tw_203 : Jvm.Cond.fieldLink "WellPipes" (283 : Nat) "WellPipes$Asks" "bodies" "[I" ∈ wq_TB := tb_1 153 rfl rfl
theorem tw_204 : Jvm.Cond.fieldLink "WellPipes$Asks" (23 : Nat) "WellPipes$Asks" "left" "I" ∈ wq_TB := tb_1 154 rfl rfl
theorem tw_205 : Jvm.Cond.fieldLink "WellPipes" (280 : Nat) "WellPipes$Asks" "left" "I" ∈ wq_TB := tb_1 155 rfl rfl
theorem tw_206 : Jvm.Cond.fieldLink "WellPipes$Asks" (15 : Nat) "WellPipes$Asks" "well" "LWellPipes$Well;" ∈ wq_TB := tb_1 156 rfl rfl
theorem tw_207 : Jvm.Cond.fieldLink "WellPipes$Asks" (19 : Nat) "WellPipes$Asks" "one" "I" ∈ wq_TB := tb_1 157 rfl rfl
theorem tw_219 : Jvm.Cond.instanceMethod ({ cls := "WellPipes$Row", name := "<init>", desc := "()V" } : Jvm.MethodName) ∈ wq_TB := tb_1 169 rfl rfl
theorem tw_220 : Jvm.Cond.code ({ cls := "WellPipes$Row", name := "<init>", desc := "()V" } : Jvm.MethodName) prog_5_method_1_code (1 : Nat) (Option.none : Option Jvm.ClassFile.FieldType) ∈ wq_TB := tb_1 170 rfl rfl
theorem tw_221 : Jvm.Cond.methodLink "WellPipes$Row" (3 : Nat) ({ cls := "java/lang/Object", name := "<init>", desc := "()V" } : Jvm.MethodName) ∈ wq_TB := tb_1 171 rfl rfl
theorem tw_222 : Jvm.Cond.fieldLink "WellPipes$Row" (9 : Nat) "WellPipes$Row" "items" "[I" ∈ wq_TB := tb_1 172 rfl rfl
theorem tw_223 : Jvm.Cond.fieldLink "WellPipes" (90 : Nat) "WellPipes$Row" "items" "[I" ∈ wq_TB := tb_1 173 rfl rfl
theorem tw_224 : Jvm.Cond.fieldLink "WellPipes$Row" (19 : Nat) "WellPipes$Row" "lane" "I" ∈ wq_TB := tb_1 174 rfl rfl
theorem tw_225 : Jvm.Cond.fieldLink "WellPipes" (86 : Nat) "WellPipes$Row" "lane" "I" ∈ wq_TB := tb_1 175 rfl rfl
theorem tw_226 : Jvm.Cond.fieldLink "WellPipes$Row" (15 : Nat) "WellPipes$Row" "size" "I" ∈ wq_TB := tb_1 176 rfl rfl
theorem tw_227 : Jvm.Cond.fieldLink "WellPipes" (100 : Nat) "WellPipes$Row" "size" "I" ∈ wq_TB := tb_1 177 rfl rfl
theorem tw_235 : Jvm.Cond.fieldLink "WellPipes" (11 : Nat) "WellPipes" "rows" "[LWellPipes$Row;" ∈ wq_TB := tb_1 185 rfl rfl
theorem tw_236 : Jvm.Cond.fieldLink "WellPipes" (18 : Nat) "WellPipes" "reader" "LWellPipes$Reader;" ∈ wq_TB := tb_1 186 rfl rfl
theorem tw_237 : Jvm.Cond.fieldLink "WellPipes" (25 : Nat) "WellPipes" "now" "LWellPipes$Well;" ∈ wq_TB := tb_1 187 rfl rfl
theorem tw_238 : Jvm.Cond.fieldLink "WellPipes" (29 : Nat) "WellPipes" "supposed" "LWellPipes$Well;" ∈ wq_TB := tb_1 188 rfl rfl
theorem tw_239 : Jvm.Cond.fieldLink "WellPipes" (32 : Nat) "WellPipes" "images" "[LWellPipes$Well;" ∈ wq_TB := tb_1 189 rfl rfl
theorem tw_240 : Jvm.Cond.fieldLink "WellPipes" (39 : Nat) "WellPipes" "search" "LWellPipes$Search;" ∈ wq_TB := tb_1 190 rfl rfl
theorem tw_241 : Jvm.Cond.fieldLink "WellPipes" (46 : Nat) "WellPipes" "acts" "LWellPipes$Acts;" ∈ wq_TB := tb_1 191 rfl rfl
theorem tw_242 : Jvm.Cond.fieldLink "WellPipes" (53 : Nat) "WellPipes" "asks" "LWellPipes$Asks;" ∈ wq_TB := tb_1 192 rfl rfl
theorem tw_243 : Jvm.Cond.fieldLink "WellPipes" (295 : Nat) "WellPipes" "finding" "I" ∈ wq_TB := tb_1 193 rfl rfl
theorem tw_263 : Jvm.Cond.methodLink "WellPipesLaw" (13 : Nat) ({ cls := "WellPipes", name := "row", desc := "(III)I" } : Jvm.MethodName) ∈ wq_TB := tb_1 213 rfl rfl
theorem tw_264 : Jvm.Cond.instanceMethod ({ cls := "WellPipes", name := "row", desc := "(III)I" } : Jvm.MethodName) ∈ wq_TB := tb_1 214 rfl rfl
theorem tw_265 : Jvm.Cond.selects "WellPipes" ({ cls := "WellPipes", name := "row", desc := "(III)I" } : Jvm.MethodName) ({ cls := "WellPipes", name := "row", desc := "(III)I" } : Jvm.MethodName) ∈ wq_TB := tb_1 215 rfl rfl
theorem tw_266 : Jvm.Cond.code ({ cls := "WellPipes", name := "row", desc := "(III)I" } : Jvm.MethodName) prog_1_method_2_code (4 : Nat) (Option.some Jvm.ClassFile.FieldType.int) ∈ wq_TB := tb_1 216 rfl rfl
theorem tw_267 : Jvm.Cond.methodLink "WellPipes" (58 : Nat) ({ cls := "WellPipes", name := "isRow", desc := "(I)Z" } : Jvm.MethodName) ∈ wq_TB := tb_1 217 rfl rfl
theorem tw_268 : Jvm.Cond.static ({ cls := "WellPipes", name := "isRow", desc := "(I)Z" } : Jvm.MethodName) ∈ wq_TB := tb_1 218 rfl rfl
theorem tw_269 : Jvm.Cond.code ({ cls := "WellPipes", name := "isRow", desc := "(I)Z" } : Jvm.MethodName) prog_1_method_38_code (1 : Nat) (Option.some Jvm.ClassFile.FieldType.boolean) ∈ wq_TB := tb_1 219 rfl rfl
theorem tw_270 : Jvm.Cond.constant "WellPipes" (62 : Nat) (-1000001 : Int32) ∈ wq_TB := tb_1 220 rfl rfl
theorem tw_271 : Jvm.Cond.methodLink "WellPipes" (63 : Nat) ({ cls := "WellPipes", name := "found", desc := "(I)I" } : Jvm.MethodName) ∈ wq_TB := tb_1 221 rfl rfl
theorem tw_273 : Jvm.Cond.instanceMethod ({ cls := "WellPipes", name := "found", desc := "(I)I" } : Jvm.MethodName) ∈ wq_TB := tb_1 223 rfl rfl
theorem tw_274 : Jvm.Cond.code ({ cls := "WellPipes", name := "found", desc := "(I)I" } : Jvm.MethodName) prog_1_method_36_code (2 : Nat) (Option.some Jvm.ClassFile.FieldType.int) ∈ wq_TB := tb_1 224 rfl rfl
theorem tw_275 : Jvm.Cond.constant "WellPipes" (298 : Nat) (-1000010 : Int32) ∈ wq_TB := tb_1 225 rfl rfl
theorem tw_276 : Jvm.Cond.methodLink "WellPipes" (67 : Nat) ({ cls := "WellPipes$Row", name := "begin", desc := "(II)V" } : Jvm.MethodName) ∈ wq_TB := tb_1 226 rfl rfl
theorem tw_277 : Jvm.Cond.instanceMethod ({ cls := "WellPipes$Row", name := "begin", desc := "(II)V" } : Jvm.MethodName) ∈ wq_TB := tb_1 227 rfl rfl
theorem tw_278 : Jvm.Cond.selects "WellPipes$Row" ({ cls := "WellPipes$Row", name := "begin", desc := "(II)V" } : Jvm.MethodName) ({ cls := "WellPipes$Row", name := "begin", desc := "(II)V" } : Jvm.MethodName) ∈ wq_TB := tb_1 228 rfl rfl
theorem tw_279 : Jvm.Cond.code ({ cls := "WellPipes$Row", name := "begin", desc := "(II)V" } : Jvm.MethodName) prog_5_method_3_code (3 : Nat) (Option.none : Option Jvm.ClassFile.FieldType) ∈ wq_TB := tb_1 229 rfl rfl
theorem tw_280 : Jvm.Cond.methodLink "WellPipes$Row" (22 : Nat) ({ cls := "java/util/Arrays", name := "fill", desc := "([II)V" } : Jvm.MethodName) ∈ wq_TB := tb_1 230 rfl rfl
theorem tw_281 : Jvm.Cond.static ({ cls := "java/util/Arrays", name := "fill", desc := "([II)V" } : Jvm.MethodName) ∈ wq_TB := tb_1 231 rfl rfl
theorem tw_282 : Jvm.Cond.code ({ cls := "java/util/Arrays", name := "fill", desc := "([II)V" } : Jvm.MethodName) prog_12_method_103_code (4 : Nat) (Option.none : Option Jvm.ClassFile.FieldType) ∈ wq_TB := tb_1 232 rfl rfl
theorem tw_283 : Jvm.Cond.methodLink "WellPipes" (71 : Nat) ({ cls := "WellPipes", name := "passed", desc := "(I)I" } : Jvm.MethodName) ∈ wq_TB := tb_1 233 rfl rfl
theorem tw_285 : Jvm.Cond.instanceMethod ({ cls := "WellPipes", name := "passed", desc := "(I)I" } : Jvm.MethodName) ∈ wq_TB := tb_1 235 rfl rfl
theorem tw_286 : Jvm.Cond.code ({ cls := "WellPipes", name := "passed", desc := "(I)I" } : Jvm.MethodName) prog_1_method_37_code (2 : Nat) (Option.some Jvm.ClassFile.FieldType.int) ∈ wq_TB := tb_1 236 rfl rfl
theorem tw_287 : Jvm.Cond.methodLink "WellPipesLaw" (18 : Nat) ({ cls := "WellPipes", name := "set", desc := "(III)I" } : Jvm.MethodName) ∈ wq_TB := tb_1 237 rfl rfl
theorem tw_288 : Jvm.Cond.instanceMethod ({ cls := "WellPipes", name := "set", desc := "(III)I" } : Jvm.MethodName) ∈ wq_TB := tb_1 238 rfl rfl
theorem tw_289 : Jvm.Cond.selects "WellPipes" ({ cls := "WellPipes", name := "set", desc := "(III)I" } : Jvm.MethodName) ({ cls := "WellPipes", name := "set", desc := "(III)I" } : Jvm.MethodName) ∈ wq_TB := tb_1 239 rfl rfl
theorem tw_290 : Jvm.Cond.code ({ cls := "WellPipes", name := "set", desc := "(III)I" } : Jvm.MethodName) prog_1_method_3_code (5 : Nat) (Option.some Jvm.ClassFile.FieldType.int) ∈ wq_TB := tb_2 0 rfl rfl
theorem tw_291 : Jvm.Cond.methodLink "WellPipes" (74 : Nat) ({ cls := "WellPipes$Row", name := "isMissing", desc := "()Z" } : Jvm.MethodName) ∈ wq_TB := tb_2 1 rfl rfl
theorem tw_292 : Jvm.Cond.instanceMethod ({ cls := "WellPipes$Row", name := "isMissing", desc := "()Z" } : Jvm.MethodName) ∈ wq_TB := tb_2 2 rfl rfl
theorem tw_293 : Jvm.Cond.selects "WellPipes$Row" ({ cls := "WellPipes$Row", name := "isMissing", desc := "()Z" } : Jvm.MethodName) ({ cls := "WellPipes$Row", name := "isMissing", desc := "()Z" } : Jvm.MethodName) ∈ wq_TB := tb_2 3 rfl rfl
theorem tw_294 : Jvm.Cond.code ({ cls := "WellPipes$Row", name := "isMissing", desc := "()Z" } : Jvm.MethodName) prog_5_method_2_code (1 : Nat) (Option.some Jvm.ClassFile.FieldType.boolean) ∈ wq_TB := tb_2 4 rfl rfl
theorem tw_295 : Jvm.Cond.methodLink "WellPipes" (78 : Nat) ({ cls := "WellPipes$Row", name := "hasPlaces", desc := "(II)Z" } : Jvm.MethodName) ∈ wq_TB := tb_2 5 rfl rfl
theorem tw_296 : Jvm.Cond.instanceMethod ({ cls := "WellPipes$Row", name := "hasPlaces", desc := "(II)Z" } : Jvm.MethodName) ∈ wq_TB := tb_2 6 rfl rfl
theorem tw_297 : Jvm.Cond.selects "WellPipes$Row" ({ cls := "WellPipes$Row", name := "hasPlaces", desc := "(II)Z" } : Jvm.MethodName) ({ cls := "WellPipes$Row", name := "hasPlaces", desc := "(II)Z" } : Jvm.MethodName) ∈ wq_TB := tb_2 7 rfl rfl
theorem tw_298 : Jvm.Cond.code ({ cls := "WellPipes$Row", name := "hasPlaces", desc := "(II)Z" } : Jvm.MethodName) prog_5_method_4_code (3 : Nat) (Option.some Jvm.ClassFile.FieldType.boolean) ∈ wq_TB := tb_2 8 rfl rfl
theorem tw_299 : Jvm.Cond.methodLink "WellPipes" (82 : Nat) ({ cls := "WellPipes$Row", name := "put", desc := "(II)I" } : Jvm.MethodName) ∈ wq_TB := tb_2 9 rfl rfl
theorem tw_300 : Jvm.Cond.instanceMethod ({ cls := "WellPipes$Row", name := "put", desc := "(II)I" } : Jvm.MethodName) ∈ wq_TB := tb_2 10 rfl rfl
theorem tw_301 : Jvm.Cond.selects "WellPipes$Row" ({ cls := "WellPipes$Row", name := "put", desc := "(II)I" } : Jvm.MethodName) ({ cls := "WellPipes$Row", name := "put", desc := "(II)I" } : Jvm.MethodName) ∈ wq_TB := tb_2 11 rfl rfl
theorem tw_302 : Jvm.Cond.code ({ cls := "WellPipes$Row", name := "put", desc := "(II)I" } : Jvm.MethodName) prog_5_method_5_code (3 : Nat) (Option.some Jvm.ClassFile.FieldType.int) ∈ wq_TB := tb_2 12 rfl rfl
theorem tw_303 : Jvm.Cond.methodLink "WellPipesLaw" (22 : Nat) ({ cls := "WellPipes", name := "copy", desc := "(IIIII)I" } : Jvm.MethodName) ∈ wq_TB := tb_2 13 rfl rfl
theorem tw_304 : Jvm.Cond.instanceMethod ({ cls := "WellPipes", name := "copy", desc := "(IIIII)I" } : Jvm.MethodName) ∈ wq_TB := tb_2 14 rfl rfl
theorem tw_305 : Jvm.Cond.selects "WellPipes" ({ cls := "WellPipes", name := "copy", desc := "(IIIII)I" } : Jvm.MethodName) ({ cls := "WellPipes", name := "copy", desc := "(IIIII)I" } : Jvm.MethodName) ∈ wq_TB := tb_2 15 rfl rfl
theorem tw_306 : Jvm.Cond.code ({ cls := "WellPipes", name := "copy", desc := "(IIIII)I" } : Jvm.MethodName) prog_1_method_4_code (8 : Nat) (Option.some Jvm.ClassFile.FieldType.int) ∈ wq_TB := tb_2 16 rfl rfl
theorem tw_307 : Jvm.Cond.methodLink "WellPipes" (94 : Nat) ({ cls := "java/lang/System", name := "arraycopy", desc := "(Ljava/lang/Object;ILjava/lang/Object;II)V" } : Jvm.MethodName) ∈ wq_TB := tb_2 17 rfl rfl
theorem tw_308 : Jvm.Cond.static ({ cls := "java/lang/System", name := "arraycopy", desc := "(Ljava/lang/Object;ILjava/lang/Object;II)V" } : Jvm.MethodName) ∈ wq_TB := tb_2 18 rfl rfl
theorem tw_309 : Jvm.Cond.native ({ cls := "java/lang/System", name := "arraycopy", desc := "(Ljava/lang/Object;ILjava/lang/Object;II)V" } : Jvm.MethodName) ∈ wq_TB := tb_2 19 rfl rfl
theorem tw_310 : Jvm.Cond.methodLink "WellPipesLaw" (27 : Nat) ({ cls := "WellPipes", name := "drop", desc := "(I)I" } : Jvm.MethodName) ∈ wq_TB := tb_2 20 rfl rfl
theorem tw_311 : Jvm.Cond.instanceMethod ({ cls := "WellPipes", name := "drop", desc := "(I)I" } : Jvm.MethodName) ∈ wq_TB := tb_2 21 rfl rfl
theorem tw_312 : Jvm.Cond.selects "WellPipes" ({ cls := "WellPipes", name := "drop", desc := "(I)I" } : Jvm.MethodName) ({ cls := "WellPipes", name := "drop", desc := "(I)I" } : Jvm.MethodName) ∈ wq_TB := tb_2 22 rfl rfl
theorem tw_313 : Jvm.Cond.code ({ cls := "WellPipes", name := "drop", desc := "(I)I" } : Jvm.MethodName) prog_1_method_5_code (4 : Nat) (Option.some Jvm.ClassFile.FieldType.int) ∈ wq_TB := tb_2 23 rfl rfl
theorem tw_314 : Jvm.Cond.methodLink "WellPipesLaw" (32 : Nat) ({ cls := "WellPipes", name := "feed", desc := "(I)I" } : Jvm.MethodName) ∈ wq_TB := tb_2 24 rfl rfl
theorem tw_315 : Jvm.Cond.instanceMethod ({ cls := "WellPipes", name := "feed", desc := "(I)I" } : Jvm.MethodName) ∈ wq_TB := tb_2 25 rfl rfl
theorem tw_316 : Jvm.Cond.selects "WellPipes" ({ cls := "WellPipes", name := "feed", desc := "(I)I" } : Jvm.MethodName) ({ cls := "WellPipes", name := "feed", desc := "(I)I" } : Jvm.MethodName) ∈ wq_TB := tb_2 26 rfl rfl
theorem tw_317 : Jvm.Cond.code ({ cls := "WellPipes", name := "feed", desc := "(I)I" } : Jvm.MethodName) prog_1_method_6_code (2 : Nat) (Option.some Jvm.ClassFile.FieldType.int) ∈ wq_TB := tb_2 27 rfl rfl
theorem tw_318 : Jvm.Cond.methodLink "WellPipes" (103 : Nat) ({ cls := "WellPipes$Reader", name := "take", desc := "(I)Z" } : Jvm.MethodName) ∈ wq_TB := tb_2 28 rfl rfl
theorem tw_319 : Jvm.Cond.instanceMethod ({ cls := "WellPipes$Reader", name := "take", desc := "(I)Z" } : Jvm.MethodName) ∈ wq_TB := tb_2 29 rfl rfl
theorem tw_320 : Jvm.Cond.selects "WellPipes$Reader" ({ cls := "WellPipes$Reader", name := "take", desc := "(I)Z" } : Jvm.MethodName) ({ cls := "WellPipes$Reader", name := "take", desc := "(I)Z" } : Jvm.MethodName) ∈ wq_TB := tb_2 30 rfl rfl
theorem tw_321 : Jvm.Cond.code ({ cls := "WellPipes$Reader", name := "take", desc := "(I)Z" } : Jvm.MethodName) prog_4_method_2_code (2 : Nat) (Option.some Jvm.ClassFile.FieldType.boolean) ∈ wq_TB := tb_2 31 rfl rfl
theorem tw_322 : Jvm.Cond.constant "WellPipes" (109 : Nat) (-1000003 : Int32) ∈ wq_TB := tb_2 32 rfl rfl
theorem tw_323 : Jvm.Cond.methodLink "WellPipesLaw" (36 : Nat) ({ cls := "WellPipes", name := "well", desc := "()I" } : Jvm.MethodName) ∈ wq_TB := tb_2 33 rfl rfl
theorem tw_324 : Jvm.Cond.instanceMethod ({ cls := "WellPipes", name := "well", desc := "()I" } : Jvm.MethodName) ∈ wq_TB := tb_2 34 rfl rfl
theorem tw_325 : Jvm.Cond.selects "WellPipes" ({ cls := "WellPipes", name := "well", desc := "()I" } : Jvm.MethodName) ({ cls := "WellPipes", name := "well", desc := "()I" } : Jvm.MethodName) ∈ wq_TB := tb_2 35 rfl rfl
theorem tw_326 : Jvm.Cond.code ({ cls := "WellPipes", name := "well", desc := "()I" } : Jvm.MethodName) prog_1_method_7_code (1 : Nat) (Option.some Jvm.ClassFile.FieldType.int) ∈ wq_TB := tb_2 36 rfl rfl
theorem tw_327 : Jvm.Cond.methodLink "WellPipes" (110 : Nat) ({ cls := "WellPipes$Reader", name := "read", desc := "(LWellPipes$Well;)Z" } : Jvm.MethodName) ∈ wq_TB := tb_2 37 rfl rfl
theorem tw_328 : Jvm.Cond.instanceMethod ({ cls := "WellPipes$Reader", name := "read", desc := "(LWellPipes$Well;)Z" } : Jvm.MethodName) ∈ wq_TB := tb_2 38 rfl rfl
theorem tw_329 : Jvm.Cond.selects "WellPipes$Reader" ({ cls := "WellPipes$Reader", name := "read", desc := "(LWellPipes$Well;)Z" } : Jvm.MethodName) ({ cls := "WellPipes$Reader", name := "read", desc := "(LWellPipes$Well;)Z" } : Jvm.MethodName) ∈ wq_TB := tb_2 39 rfl rfl
theorem tw_330 : Jvm.Cond.code ({ cls := "WellPipes$Reader", name := "read", desc := "(LWellPipes$Well;)Z" } : Jvm.MethodName) prog_4_method_3_code (3 : Nat) (Option.some Jvm.ClassFile.FieldType.boolean) ∈ wq_TB := tb_2 40 rfl rfl
theorem tw_331 : Jvm.Cond.methodLink "WellPipes$Reader" (26 : Nat) ({ cls := "WellPipes$Reader", name := "readLaw", desc := "(LWellPipes$Well;)V" } : Jvm.MethodName) ∈ wq_TB := tb_2 41 rfl rfl
theorem tw_333 : Jvm.Cond.instanceMethod ({ cls := "WellPipes$Reader", name := "readLaw", desc := "(LWellPipes$Well;)V" } : Jvm.MethodName) ∈ wq_TB := tb_2 43 rfl rfl
theorem tw_334 : Jvm.Cond.code ({ cls := "WellPipes$Reader", name := "readLaw", desc := "(LWellPipes$Well;)V" } : Jvm.MethodName) prog_4_method_4_code (2 : Nat) (Option.none : Option Jvm.ClassFile.FieldType) ∈ wq_TB := tb_2 44 rfl rfl
theorem tw_335 : Jvm.Cond.methodLink "WellPipes$Reader" (51 : Nat) ({ cls := "WellPipes$Reader", name := "readSign", desc := "(C)V" } : Jvm.MethodName) ∈ wq_TB := tb_2 45 rfl rfl
theorem tw_337 : Jvm.Cond.instanceMethod ({ cls := "WellPipes$Reader", name := "readSign", desc := "(C)V" } : Jvm.MethodName) ∈ wq_TB := tb_2 47 rfl rfl
theorem tw_338 : Jvm.Cond.code ({ cls := "WellPipes$Reader", name := "readSign", desc := "(C)V" } : Jvm.MethodName) prog_4_method_8_code (2 : Nat) (Option.none : Option Jvm.ClassFile.FieldType) ∈ wq_TB := tb_2 48 rfl rfl
theorem tw_339 : Jvm.Cond.methodLink "WellPipes$Reader" (73 : Nat) ({ cls := "WellPipes$Reader", name := "fail", desc := "(I)V" } : Jvm.MethodName) ∈ wq_TB := tb_2 49 rfl rfl
theorem tw_341 : Jvm.Cond.instanceMethod ({ cls := "WellPipes$Reader", name := "fail", desc := "(I)V" } : Jvm.MethodName) ∈ wq_TB := tb_2 51 rfl rfl
theorem tw_342 : Jvm.Cond.code ({ cls := "WellPipes$Reader", name := "fail", desc := "(I)V" } : Jvm.MethodName) prog_4_method_11_code (2 : Nat) (Option.none : Option Jvm.ClassFile.FieldType) ∈ wq_TB := tb_2 52 rfl rfl
theorem tw_343 : Jvm.Cond.methodLink "WellPipes$Reader" (55 : Nat) ({ cls := "WellPipes$Reader", name := "readNumber", desc := "(II)I" } : Jvm.MethodName) ∈ wq_TB := tb_2 53 rfl rfl
theorem tw_345 : Jvm.Cond.instanceMethod ({ cls := "WellPipes$Reader", name := "readNumber", desc := "(II)I" } : Jvm.MethodName) ∈ wq_TB := tb_2 55 rfl rfl
theorem tw_346 : Jvm.Cond.code ({ cls := "WellPipes$Reader", name := "readNumber", desc := "(II)I" } : Jvm.MethodName) prog_4_method_10_code (5 : Nat) (Option.some Jvm.ClassFile.FieldType.int) ∈ wq_TB := tb_2 56 rfl rfl
theorem tw_347 : Jvm.Cond.methodLink "WellPipes$Reader" (65 : Nat) ({ cls := "WellPipes$Reader", name := "readRule", desc := "(I)I" } : Jvm.MethodName) ∈ wq_TB := tb_2 57 rfl rfl
theorem tw_349 : Jvm.Cond.instanceMethod ({ cls := "WellPipes$Reader", name := "readRule", desc := "(I)I" } : Jvm.MethodName) ∈ wq_TB := tb_2 59 rfl rfl
theorem tw_350 : Jvm.Cond.code ({ cls := "WellPipes$Reader", name := "readRule", desc := "(I)I" } : Jvm.MethodName) prog_4_method_9_code (2 : Nat) (Option.some Jvm.ClassFile.FieldType.int) ∈ wq_TB := tb_2 60 rfl rfl
theorem tw_355 : Jvm.Cond.methodLink "WellPipes$Reader" (30 : Nat) ({ cls := "WellPipes$Reader", name := "readGas", desc := "(LWellPipes$Well;)V" } : Jvm.MethodName) ∈ wq_TB := tb_2 65 rfl rfl
theorem tw_357 : Jvm.Cond.instanceMethod ({ cls := "WellPipes$Reader", name := "readGas", desc := "(LWellPipes$Well;)V" } : Jvm.MethodName) ∈ wq_TB := tb_2 67 rfl rfl
theorem tw_358 : Jvm.Cond.code ({ cls := "WellPipes$Reader", name := "readGas", desc := "(LWellPipes$Well;)V" } : Jvm.MethodName) prog_4_method_5_code (2 : Nat) (Option.none : Option Jvm.ClassFile.FieldType) ∈ wq_TB := tb_2 68 rfl rfl
theorem tw_359 : Jvm.Cond.methodLink "WellPipes$Reader" (38 : Nat) ({ cls := "WellPipes$Reader", name := "readGrade", desc := "(LWellPipes$Well;I)V" } : Jvm.MethodName) ∈ wq_TB := tb_2 69 rfl rfl
theorem tw_361 : Jvm.Cond.instanceMethod ({ cls := "WellPipes$Reader", name := "readGrade", desc := "(LWellPipes$Well;I)V" } : Jvm.MethodName) ∈ wq_TB := tb_2 71 rfl rfl
theorem tw_362 : Jvm.Cond.code ({ cls := "WellPipes$Reader", name := "readGrade", desc := "(LWellPipes$Well;I)V" } : Jvm.MethodName) prog_4_method_6_code (5 : Nat) (Option.none : Option Jvm.ClassFile.FieldType) ∈ wq_TB := tb_2 72 rfl rfl
theorem tw_363 : Jvm.Cond.methodLink "WellPipes$Reader" (69 : Nat) ({ cls := "WellPipes$Reader", name := "kindAtHand", desc := "()I" } : Jvm.MethodName) ∈ wq_TB := tb_2 73 rfl rfl
theorem tw_365 : Jvm.Cond.instanceMethod ({ cls := "WellPipes$Reader", name := "kindAtHand", desc := "()I" } : Jvm.MethodName) ∈ wq_TB := tb_2 75 rfl rfl
theorem tw_366 : Jvm.Cond.code ({ cls := "WellPipes$Reader", name := "kindAtHand", desc := "()I" } : Jvm.MethodName) prog_4_method_7_code (1 : Nat) (Option.some Jvm.ClassFile.FieldType.int) ∈ wq_TB := tb_2 76 rfl rfl
theorem tw_369 : Jvm.Cond.methodLink "WellPipes$Reader" (83 : Nat) ({ cls := "WellPipes$Well", name := "putFigure", desc := "(III)V" } : Jvm.MethodName) ∈ wq_TB := tb_2 79 rfl rfl
theorem tw_370 : Jvm.Cond.instanceMethod ({ cls := "WellPipes$Well", name := "putFigure", desc := "(III)V" } : Jvm.MethodName) ∈ wq_TB := tb_2 80 rfl rfl
theorem tw_371 : Jvm.Cond.selects "WellPipes$Well" ({ cls := "WellPipes$Well", name := "putFigure", desc := "(III)V" } : Jvm.MethodName) ({ cls := "WellPipes$Well", name := "putFigure", desc := "(III)V" } : Jvm.MethodName) ∈ wq_TB := tb_2 81 rfl rfl
theorem tw_372 : Jvm.Cond.code ({ cls := "WellPipes$Well", name := "putFigure", desc := "(III)V" } : Jvm.MethodName) prog_7_method_4_code (4 : Nat) (Option.none : Option Jvm.ClassFile.FieldType) ∈ wq_TB := tb_2 82 rfl rfl
theorem tw_373 : Jvm.Cond.methodLink "WellPipes$Reader" (45 : Nat) ({ cls := "java/util/Arrays", name := "fill", desc := "([II)V" } : Jvm.MethodName) ∈ wq_TB := tb_2 83 rfl rfl
theorem tw_374 : Jvm.Cond.constant "WellPipes" (114 : Nat) (-1000100 : Int32) ∈ wq_TB := tb_2 84 rfl rfl
theorem tw_375 : Jvm.Cond.methodLink "WellPipes" (118 : Nat) ({ cls := "WellPipes$Well", name := "becomes", desc := "(LWellPipes$Well;)V" } : Jvm.MethodName) ∈ wq_TB := tb_2 85 rfl rfl
theorem tw_376 : Jvm.Cond.instanceMethod ({ cls := "WellPipes$Well", name := "becomes", desc := "(LWellPipes$Well;)V" } : Jvm.MethodName) ∈ wq_TB := tb_2 86 rfl rfl
theorem tw_377 : Jvm.Cond.selects "WellPipes$Well" ({ cls := "WellPipes$Well", name := "becomes", desc := "(LWellPipes$Well;)V" } : Jvm.MethodName) ({ cls := "WellPipes$Well", name := "becomes", desc := "(LWellPipes$Well;)V" } : Jvm.MethodName) ∈ wq_TB := tb_2 87 rfl rfl
theorem tw_378 : Jvm.Cond.code ({ cls := "WellPipes$Well", name := "becomes", desc := "(LWellPipes$Well;)V" } : Jvm.MethodName) prog_7_method_2_code (2 : Nat) (Option.none : Option Jvm.ClassFile.FieldType) ∈ wq_TB := tb_2 88 rfl rfl
theorem tw_379 : Jvm.Cond.methodLink "WellPipes$Well" (31 : Nat) ({ cls := "java/lang/System", name := "arraycopy", desc := "(Ljava/lang/Object;ILjava/lang/Object;II)V" } : Jvm.MethodName) ∈ wq_TB := tb_2 89 rfl rfl
theorem tw_380 : Jvm.Cond.methodLink "WellPipes" (122 : Nat) ({ cls := "WellPipes$Acts", name := "forgetAll", desc := "()V" } : Jvm.MethodName) ∈ wq_TB := tb_2 90 rfl rfl
theorem tw_381 : Jvm.Cond.instanceMethod ({ cls := "WellPipes$Acts", name := "forgetAll", desc := "()V" } : Jvm.MethodName) ∈ wq_TB := tb_2 91 rfl rfl
theorem tw_382 : Jvm.Cond.selects "WellPipes$Acts" ({ cls := "WellPipes$Acts", name := "forgetAll", desc := "()V" } : Jvm.MethodName) ({ cls := "WellPipes$Acts", name := "forgetAll", desc := "()V" } : Jvm.MethodName) ∈ wq_TB := tb_2 92 rfl rfl
theorem tw_383 : Jvm.Cond.code ({ cls := "WellPipes$Acts", name := "forgetAll", desc := "()V" } : Jvm.MethodName) prog_2_method_4_code (1 : Nat) (Option.none : Option Jvm.ClassFile.FieldType) ∈ wq_TB := tb_2 93 rfl rfl
theorem tw_384 : Jvm.Cond.methodLink "WellPipesLaw" (41 : Nat) ({ cls := "WellPipes", name := "fault", desc := "()I" } : Jvm.MethodName) ∈ wq_TB := tb_2 94 rfl rfl
theorem tw_385 : Jvm.Cond.instanceMethod ({ cls := "WellPipes", name := "fault", desc := "()I" } : Jvm.MethodName) ∈ wq_TB := tb_2 95 rfl rfl
theorem tw_386 : Jvm.Cond.selects "WellPipes" ({ cls := "WellPipes", name := "fault", desc := "()I" } : Jvm.MethodName) ({ cls := "WellPipes", name := "fault", desc := "()I" } : Jvm.MethodName) ∈ wq_TB := tb_2 96 rfl rfl
theorem tw_387 : Jvm.Cond.code ({ cls := "WellPipes", name := "fault", desc := "()I" } : Jvm.MethodName) prog_1_method_8_code (1 : Nat) (Option.some Jvm.ClassFile.FieldType.int) ∈ wq_TB := tb_2 97 rfl rfl
theorem tw_388 : Jvm.Cond.methodLink "WellPipesLaw" (45 : Nat) ({ cls := "WellPipes", name := "undo", desc := "()I" } : Jvm.MethodName) ∈ wq_TB := tb_2 98 rfl rfl
theorem tw_389 : Jvm.Cond.instanceMethod ({ cls := "WellPipes", name := "undo", desc := "()I" } : Jvm.MethodName) ∈ wq_TB := tb_2 99 rfl rfl
theorem tw_390 : Jvm.Cond.selects "WellPipes" ({ cls := "WellPipes", name := "undo", desc := "()I" } : Jvm.MethodName) ({ cls := "WellPipes", name := "undo", desc := "()I" } : Jvm.MethodName) ∈ wq_TB := tb_2 100 rfl rfl
theorem tw_391 : Jvm.Cond.code ({ cls := "WellPipes", name := "undo", desc := "()I" } : Jvm.MethodName) prog_1_method_9_code (1 : Nat) (Option.some Jvm.ClassFile.FieldType.int) ∈ wq_TB := tb_2 101 rfl rfl
theorem tw_392 : Jvm.Cond.constant "WellPipes" (134 : Nat) (-1000002 : Int32) ∈ wq_TB := tb_2 102 rfl rfl
theorem tw_393 : Jvm.Cond.methodLink "WellPipes" (135 : Nat) ({ cls := "WellPipes$Acts", name := "takeBack", desc := "(LWellPipes$Well;)V" } : Jvm.MethodName) ∈ wq_TB := tb_2 103 rfl rfl
theorem tw_394 : Jvm.Cond.instanceMethod ({ cls := "WellPipes$Acts", name := "takeBack", desc := "(LWellPipes$Well;)V" } : Jvm.MethodName) ∈ wq_TB := tb_2 104 rfl rfl
theorem tw_395 : Jvm.Cond.selects "WellPipes$Acts" ({ cls := "WellPipes$Acts", name := "takeBack", desc := "(LWellPipes$Well;)V" } : Jvm.MethodName) ({ cls := "WellPipes$Acts", name := "takeBack", desc := "(LWellPipes$Well;)V" } : Jvm.MethodName) ∈ wq_TB := tb_2 105 rfl rfl
theorem tw_396 : Jvm.Cond.code ({ cls := "WellPipes$Acts", name := "takeBack", desc := "(LWellPipes$Well;)V" } : Jvm.MethodName) prog_2_method_3_code (3 : Nat) (Option.none : Option Jvm.ClassFile.FieldType) ∈ wq_TB := tb_2 106 rfl rfl
theorem tw_397 : Jvm.Cond.methodLink "WellPipes$Acts" (28 : Nat) ({ cls := "WellPipes$Well", name := "layString", desc := "(I)V" } : Jvm.MethodName) ∈ wq_TB := tb_2 107 rfl rfl
theorem tw_398 : Jvm.Cond.instanceMethod ({ cls := "WellPipes$Well", name := "layString", desc := "(I)V" } : Jvm.MethodName) ∈ wq_TB := tb_2 108 rfl rfl
theorem tw_399 : Jvm.Cond.selects "WellPipes$Well" ({ cls := "WellPipes$Well", name := "layString", desc := "(I)V" } : Jvm.MethodName) ({ cls := "WellPipes$Well", name := "layString", desc := "(I)V" } : Jvm.MethodName) ∈ wq_TB := tb_2 109 rfl rfl
theorem tw_400 : Jvm.Cond.code ({ cls := "WellPipes$Well", name := "layString", desc := "(I)V" } : Jvm.MethodName) prog_7_method_26_code (4 : Nat) (Option.none : Option Jvm.ClassFile.FieldType) ∈ wq_TB := tb_2 110 rfl rfl
theorem tw_401 : Jvm.Cond.methodLink "WellPipes$Acts" (34 : Nat) ({ cls := "WellPipes$Well", name := "putFigure", desc := "(III)V" } : Jvm.MethodName) ∈ wq_TB := tb_2 111 rfl rfl
theorem tw_402 : Jvm.Cond.methodLink "WellPipesLaw" (49 : Nat) ({ cls := "WellPipes", name := "lay", desc := "(II)I" } : Jvm.MethodName) ∈ wq_TB := tb_2 112 rfl rfl
theorem tw_403 : Jvm.Cond.instanceMethod ({ cls := "WellPipes", name := "lay", desc := "(II)I" } : Jvm.MethodName) ∈ wq_TB := tb_2 113 rfl rfl
theorem tw_404 : Jvm.Cond.selects "WellPipes" ({ cls := "WellPipes", name := "lay", desc := "(II)I" } : Jvm.MethodName) ({ cls := "WellPipes", name := "lay", desc := "(II)I" } : Jvm.MethodName) ∈ wq_TB := tb_2 114 rfl rfl
theorem tw_405 : Jvm.Cond.code ({ cls := "WellPipes", name := "lay", desc := "(II)I" } : Jvm.MethodName) prog_1_method_10_code (4 : Nat) (Option.some Jvm.ClassFile.FieldType.int) ∈ wq_TB := tb_2 115 rfl rfl
theorem tw_406 : Jvm.Cond.methodLink "WellPipes" (138 : Nat) ({ cls := "WellPipes", name := "isStep", desc := "(I)Z" } : Jvm.MethodName) ∈ wq_TB := tb_2 116 rfl rfl
theorem tw_408 : Jvm.Cond.instanceMethod ({ cls := "WellPipes", name := "isStep", desc := "(I)Z" } : Jvm.MethodName) ∈ wq_TB := tb_2 118 rfl rfl
theorem tw_409 : Jvm.Cond.code ({ cls := "WellPipes", name := "isStep", desc := "(I)Z" } : Jvm.MethodName) prog_1_method_39_code (2 : Nat) (Option.some Jvm.ClassFile.FieldType.boolean) ∈ wq_TB := tb_2 119 rfl rfl
theorem tw_410 : Jvm.Cond.methodLink "WellPipes" (141 : Nat) ({ cls := "WellPipes", name := "isGrade", desc := "(I)Z" } : Jvm.MethodName) ∈ wq_TB := tb_2 120 rfl rfl
theorem tw_412 : Jvm.Cond.instanceMethod ({ cls := "WellPipes", name := "isGrade", desc := "(I)Z" } : Jvm.MethodName) ∈ wq_TB := tb_2 122 rfl rfl
theorem tw_413 : Jvm.Cond.code ({ cls := "WellPipes", name := "isGrade", desc := "(I)Z" } : Jvm.MethodName) prog_1_method_40_code (2 : Nat) (Option.some Jvm.ClassFile.FieldType.boolean) ∈ wq_TB := tb_2 123 rfl rfl
theorem tw_414 : Jvm.Cond.methodLink "WellPipes" (147 : Nat) ({ cls := "WellPipes$Well", name := "stringCode", desc := "()I" } : Jvm.MethodName) ∈ wq_TB := tb_2 124 rfl rfl
theorem tw_415 : Jvm.Cond.instanceMethod ({ cls := "WellPipes$Well", name := "stringCode", desc := "()I" } : Jvm.MethodName) ∈ wq_TB := tb_2 125 rfl rfl
theorem tw_416 : Jvm.Cond.selects "WellPipes$Well" ({ cls := "WellPipes$Well", name := "stringCode", desc := "()I" } : Jvm.MethodName) ({ cls := "WellPipes$Well", name := "stringCode", desc := "()I" } : Jvm.MethodName) ∈ wq_TB := tb_2 126 rfl rfl
theorem tw_417 : Jvm.Cond.code ({ cls := "WellPipes$Well", name := "stringCode", desc := "()I" } : Jvm.MethodName) prog_7_method_25_code (3 : Nat) (Option.some Jvm.ClassFile.FieldType.int) ∈ wq_TB := tb_2 127 rfl rfl
theorem tw_418 : Jvm.Cond.methodLink "WellPipes" (151 : Nat) ({ cls := "WellPipes$Acts", name := "keep", desc := "(II)V" } : Jvm.MethodName) ∈ wq_TB := tb_2 128 rfl rfl
theorem tw_419 : Jvm.Cond.instanceMethod ({ cls := "WellPipes$Acts", name := "keep", desc := "(II)V" } : Jvm.MethodName) ∈ wq_TB := tb_2 129 rfl rfl
theorem tw_420 : Jvm.Cond.selects "WellPipes$Acts" ({ cls := "WellPipes$Acts", name := "keep", desc := "(II)V" } : Jvm.MethodName) ({ cls := "WellPipes$Acts", name := "keep", desc := "(II)V" } : Jvm.MethodName) ∈ wq_TB := tb_2 130 rfl rfl
theorem tw_421 : Jvm.Cond.code ({ cls := "WellPipes$Acts", name := "keep", desc := "(II)V" } : Jvm.MethodName) prog_2_method_2_code (3 : Nat) (Option.none : Option Jvm.ClassFile.FieldType) ∈ wq_TB := tb_2 131 rfl rfl
theorem tw_422 : Jvm.Cond.methodLink "WellPipes$Acts" (22 : Nat) ({ cls := "java/lang/System", name := "arraycopy", desc := "(Ljava/lang/Object;ILjava/lang/Object;II)V" } : Jvm.MethodName) ∈ wq_TB := tb_2 132 rfl rfl
theorem tw_423 : Jvm.Cond.methodLink "WellPipesLaw" (54 : Nat) ({ cls := "WellPipes", name := "layBest", desc := "()I" } : Jvm.MethodName) ∈ wq_TB := tb_2 133 rfl rfl
theorem tw_424 : Jvm.Cond.instanceMethod ({ cls := "WellPipes", name := "layBest", desc := "()I" } : Jvm.MethodName) ∈ wq_TB := tb_2 134 rfl rfl
theorem tw_425 : Jvm.Cond.selects "WellPipes" ({ cls := "WellPipes", name := "layBest", desc := "()I" } : Jvm.MethodName) ({ cls := "WellPipes", name := "layBest", desc := "()I" } : Jvm.MethodName) ∈ wq_TB := tb_2 135 rfl rfl
theorem tw_426 : Jvm.Cond.code ({ cls := "WellPipes", name := "layBest", desc := "()I" } : Jvm.MethodName) prog_1_method_11_code (1 : Nat) (Option.some Jvm.ClassFile.FieldType.int) ∈ wq_TB := tb_2 136 rfl rfl
theorem tw_427 : Jvm.Cond.methodLink "WellPipes" (154 : Nat) ({ cls := "WellPipes", name := "hasNoWell", desc := "()Z" } : Jvm.MethodName) ∈ wq_TB := tb_2 137 rfl rfl
theorem tw_429 : Jvm.Cond.instanceMethod ({ cls := "WellPipes", name := "hasNoWell", desc := "()Z" } : Jvm.MethodName) ∈ wq_TB := tb_2 139 rfl rfl
theorem tw_430 : Jvm.Cond.code ({ cls := "WellPipes", name := "hasNoWell", desc := "()Z" } : Jvm.MethodName) prog_1_method_41_code (1 : Nat) (Option.some Jvm.ClassFile.FieldType.boolean) ∈ wq_TB := tb_2 140 rfl rfl
theorem tw_431 : Jvm.Cond.constant "WellPipes" (157 : Nat) (-1000000 : Int32) ∈ wq_TB := tb_2 141 rfl rfl
theorem tw_432 : Jvm.Cond.methodLink "WellPipes" (158 : Nat) ({ cls := "WellPipes$Search", name := "find", desc := "(LWellPipes$Well;I)Z" } : Jvm.MethodName) ∈ wq_TB := tb_2 142 rfl rfl
theorem tw_433 : Jvm.Cond.instanceMethod ({ cls := "WellPipes$Search", name := "find", desc := "(LWellPipes$Well;I)Z" } : Jvm.MethodName) ∈ wq_TB := tb_2 143 rfl rfl
theorem tw_434 : Jvm.Cond.selects "WellPipes$Search" ({ cls := "WellPipes$Search", name := "find", desc := "(LWellPipes$Well;I)Z" } : Jvm.MethodName) ({ cls := "WellPipes$Search", name := "find", desc := "(LWellPipes$Well;I)Z" } : Jvm.MethodName) ∈ wq_TB := tb_2 144 rfl rfl
theorem tw_435 : Jvm.Cond.code ({ cls := "WellPipes$Search", name := "find", desc := "(LWellPipes$Well;I)Z" } : Jvm.MethodName) prog_6_method_2_code (5 : Nat) (Option.some Jvm.ClassFile.FieldType.boolean) ∈ wq_TB := tb_2 145 rfl rfl
theorem tw_436 : Jvm.Cond.methodLink "WellPipes$Search" (36 : Nat) ({ cls := "java/lang/Math", name := "min", desc := "(II)I" } : Jvm.MethodName) ∈ wq_TB := tb_2 146 rfl rfl
theorem tw_437 : Jvm.Cond.static ({ cls := "java/lang/Math", name := "min", desc := "(II)I" } : Jvm.MethodName) ∈ wq_TB := tb_2 147 rfl rfl
theorem tw_438 : Jvm.Cond.code ({ cls := "java/lang/Math", name := "min", desc := "(II)I" } : Jvm.MethodName) prog_10_method_69_code (2 : Nat) (Option.some Jvm.ClassFile.FieldType.int) ∈ wq_TB := tb_2 148 rfl rfl
theorem tw_439 : Jvm.Cond.methodLink "WellPipes$Search" (42 : Nat) ({ cls := "java/lang/Math", name := "max", desc := "(II)I" } : Jvm.MethodName) ∈ wq_TB := tb_2 149 rfl rfl
theorem tw_440 : Jvm.Cond.static ({ cls := "java/lang/Math", name := "max", desc := "(II)I" } : Jvm.MethodName) ∈ wq_TB := tb_2 150 rfl rfl
theorem tw_441 : Jvm.Cond.code ({ cls := "java/lang/Math", name := "max", desc := "(II)I" } : Jvm.MethodName) prog_10_method_65_code (2 : Nat) (Option.some Jvm.ClassFile.FieldType.int) ∈ wq_TB := tb_2 151 rfl rfl
theorem tw_442 : Jvm.Cond.methodLink "WellPipes$Search" (49 : Nat) ({ cls := "java/util/Arrays", name := "fill", desc := "([II)V" } : Jvm.MethodName) ∈ wq_TB := tb_2 152 rfl rfl
theorem tw_443 : Jvm.Cond.methodLink "WellPipes$Search" (58 : Nat) ({ cls := "WellPipes$Search", name := "swap", desc := "()V" } : Jvm.MethodName) ∈ wq_TB := tb_2 153 rfl rfl
theorem tw_445 : Jvm.Cond.instanceMethod ({ cls := "WellPipes$Search", name := "swap", desc := "()V" } : Jvm.MethodName) ∈ wq_TB := tb_2 155 rfl rfl
theorem tw_446 : Jvm.Cond.code ({ cls := "WellPipes$Search", name := "swap", desc := "()V" } : Jvm.MethodName) prog_6_method_3_code (2 : Nat) (Option.none : Option Jvm.ClassFile.FieldType) ∈ wq_TB := tb_2 156 rfl rfl
theorem tw_447 : Jvm.Cond.methodLink "WellPipes$Search" (64 : Nat) ({ cls := "WellPipes$Search", name := "layOnAll", desc := "(II)V" } : Jvm.MethodName) ∈ wq_TB := tb_2 157 rfl rfl
theorem tw_449 : Jvm.Cond.instanceMethod ({ cls := "WellPipes$Search", name := "layOnAll", desc := "(II)V" } : Jvm.MethodName) ∈ wq_TB := tb_2 159 rfl rfl
theorem tw_450 : Jvm.Cond.code ({ cls := "WellPipes$Search", name := "layOnAll", desc := "(II)V" } : Jvm.MethodName) prog_6_method_4_code (7 : Nat) (Option.none : Option Jvm.ClassFile.FieldType) ∈ wq_TB := tb_2 160 rfl rfl
theorem tw_451 : Jvm.Cond.methodLink "WellPipes$Search" (72 : Nat) ({ cls := "WellPipes$Well", name := "figure", desc := "(II)I" } : Jvm.MethodName) ∈ wq_TB := tb_2 161 rfl rfl
theorem tw_452 : Jvm.Cond.instanceMethod ({ cls := "WellPipes$Well", name := "figure", desc := "(II)I" } : Jvm.MethodName) ∈ wq_TB := tb_2 162 rfl rfl
theorem tw_453 : Jvm.Cond.selects "WellPipes$Well" ({ cls := "WellPipes$Well", name := "figure", desc := "(II)I" } : Jvm.MethodName) ({ cls := "WellPipes$Well", name := "figure", desc := "(II)I" } : Jvm.MethodName) ∈ wq_TB := tb_2 163 rfl rfl
theorem tw_454 : Jvm.Cond.code ({ cls := "WellPipes$Well", name := "figure", desc := "(II)I" } : Jvm.MethodName) prog_7_method_3_code (3 : Nat) (Option.some Jvm.ClassFile.FieldType.int) ∈ wq_TB := tb_2 164 rfl rfl
theorem tw_455 : Jvm.Cond.methodLink "WellPipes$Search" (75 : Nat) ({ cls := "WellPipes$Well", name := "wouldHold", desc := "(III)Z" } : Jvm.MethodName) ∈ wq_TB := tb_2 165 rfl rfl
theorem tw_456 : Jvm.Cond.instanceMethod ({ cls := "WellPipes$Well", name := "wouldHold", desc := "(III)Z" } : Jvm.MethodName) ∈ wq_TB := tb_2 166 rfl rfl
theorem tw_457 : Jvm.Cond.selects "WellPipes$Well" ({ cls := "WellPipes$Well", name := "wouldHold", desc := "(III)Z" } : Jvm.MethodName) ({ cls := "WellPipes$Well", name := "wouldHold", desc := "(III)Z" } : Jvm.MethodName) ∈ wq_TB := tb_2 167 rfl rfl
theorem tw_458 : Jvm.Cond.code ({ cls := "WellPipes$Well", name := "wouldHold", desc := "(III)Z" } : Jvm.MethodName) prog_7_method_15_code (4 : Nat) (Option.some Jvm.ClassFile.FieldType.boolean) ∈ wq_TB := tb_2 168 rfl rfl
theorem tw_459 : Jvm.Cond.methodLink "WellPipes$Well" (59 : Nat) ({ cls := "WellPipes$Well", name := "burstBorne", desc := "(I)I" } : Jvm.MethodName) ∈ wq_TB := tb_2 169 rfl rfl
theorem tw_460 : Jvm.Cond.instanceMethod ({ cls := "WellPipes$Well", name := "burstBorne", desc := "(I)I" } : Jvm.MethodName) ∈ wq_TB := tb_2 170 rfl rfl
theorem tw_461 : Jvm.Cond.selects "WellPipes$Well" ({ cls := "WellPipes$Well", name := "burstBorne", desc := "(I)I" } : Jvm.MethodName) ({ cls := "WellPipes$Well", name := "burstBorne", desc := "(I)I" } : Jvm.MethodName) ∈ wq_TB := tb_2 171 rfl rfl
theorem tw_462 : Jvm.Cond.code ({ cls := "WellPipes$Well", name := "burstBorne", desc := "(I)I" } : Jvm.MethodName) prog_7_method_11_code (3 : Nat) (Option.some Jvm.ClassFile.FieldType.int) ∈ wq_TB := tb_2 172 rfl rfl
theorem tw_463 : Jvm.Cond.methodLink "WellPipes$Well" (37 : Nat) ({ cls := "WellPipes$Well", name := "figure", desc := "(II)I" } : Jvm.MethodName) ∈ wq_TB := tb_2 173 rfl rfl
theorem tw_464 : Jvm.Cond.methodLink "WellPipes$Well" (62 : Nat) ({ cls := "WellPipes$Well", name := "burstLoad", desc := "(I)I" } : Jvm.MethodName) ∈ wq_TB := tb_2 174 rfl rfl
theorem tw_465 : Jvm.Cond.instanceMethod ({ cls := "WellPipes$Well", name := "burstLoad", desc := "(I)I" } : Jvm.MethodName) ∈ wq_TB := tb_2 175 rfl rfl
theorem tw_466 : Jvm.Cond.selects "WellPipes$Well" ({ cls := "WellPipes$Well", name := "burstLoad", desc := "(I)I" } : Jvm.MethodName) ({ cls := "WellPipes$Well", name := "burstLoad", desc := "(I)I" } : Jvm.MethodName) ∈ wq_TB := tb_2 176 rfl rfl
theorem tw_467 : Jvm.Cond.code ({ cls := "WellPipes$Well", name := "burstLoad", desc := "(I)I" } : Jvm.MethodName) prog_7_method_8_code (2 : Nat) (Option.some Jvm.ClassFile.FieldType.int) ∈ wq_TB := tb_2 177 rfl rfl
theorem tw_468 : Jvm.Cond.methodLink "WellPipes$Well" (44 : Nat) ({ cls := "java/lang/Math", name := "max", desc := "(II)I" } : Jvm.MethodName) ∈ wq_TB := tb_2 178 rfl rfl
theorem tw_469 : Jvm.Cond.methodLink "WellPipes$Well" (49 : Nat) ({ cls := "WellPipes$Well", name := "pullBorne", desc := "(I)I" } : Jvm.MethodName) ∈ wq_TB := tb_2 179 rfl rfl
theorem tw_470 : Jvm.Cond.instanceMethod ({ cls := "WellPipes$Well", name := "pullBorne", desc := "(I)I" } : Jvm.MethodName) ∈ wq_TB := tb_2 180 rfl rfl
theorem tw_471 : Jvm.Cond.selects "WellPipes$Well" ({ cls := "WellPipes$Well", name := "pullBorne", desc := "(I)I" } : Jvm.MethodName) ({ cls := "WellPipes$Well", name := "pullBorne", desc := "(I)I" } : Jvm.MethodName) ∈ wq_TB := tb_2 181 rfl rfl
theorem tw_472 : Jvm.Cond.code ({ cls := "WellPipes$Well", name := "pullBorne", desc := "(I)I" } : Jvm.MethodName) prog_7_method_12_code (3 : Nat) (Option.some Jvm.ClassFile.FieldType.int) ∈ wq_TB := tb_2 182 rfl rfl
theorem tw_473 : Jvm.Cond.methodLink "WellPipes$Well" (65 : Nat) ({ cls := "WellPipes$Well", name := "crushBorne", desc := "(II)I" } : Jvm.MethodName) ∈ wq_TB := tb_2 183 rfl rfl
theorem tw_474 : Jvm.Cond.instanceMethod ({ cls := "WellPipes$Well", name := "crushBorne", desc := "(II)I" } : Jvm.MethodName) ∈ wq_TB := tb_2 184 rfl rfl
theorem tw_475 : Jvm.Cond.selects "WellPipes$Well" ({ cls := "WellPipes$Well", name := "crushBorne", desc := "(II)I" } : Jvm.MethodName) ({ cls := "WellPipes$Well", name := "crushBorne", desc := "(II)I" } : Jvm.MethodName) ∈ wq_TB := tb_2 185 rfl rfl
theorem tw_476 : Jvm.Cond.code ({ cls := "WellPipes$Well", name := "crushBorne", desc := "(II)I" } : Jvm.MethodName) prog_7_method_13_code (5 : Nat) (Option.some Jvm.ClassFile.FieldType.int) ∈ wq_TB := tb_2 186 rfl rfl
theorem tw_477 : Jvm.Cond.methodLink "WellPipes$Well" (53 : Nat) ({ cls := "WellPipes$Well", name := "dent", desc := "(II)I" } : Jvm.MethodName) ∈ wq_TB := tb_2 187 rfl rfl
theorem tw_478 : Jvm.Cond.static ({ cls := "WellPipes$Well", name := "dent", desc := "(II)I" } : Jvm.MethodName) ∈ wq_TB := tb_2 188 rfl rfl
theorem tw_479 : Jvm.Cond.code ({ cls := "WellPipes$Well", name := "dent", desc := "(II)I" } : Jvm.MethodName) prog_7_method_14_code (2 : Nat) (Option.some Jvm.ClassFile.FieldType.int) ∈ wq_TB := tb_2 189 rfl rfl
theorem tw_480 : Jvm.Cond.methodLink "WellPipes$Well" (56 : Nat) ({ cls := "java/lang/Math", name := "min", desc := "(II)I" } : Jvm.MethodName) ∈ wq_TB := tb_2 190 rfl rfl
theorem tw_481 : Jvm.Cond.methodLink "WellPipes$Well" (68 : Nat) ({ cls := "WellPipes$Well", name := "crushLoad", desc := "(I)I" } : Jvm.MethodName) ∈ wq_TB := tb_2 191 rfl rfl
theorem tw_482 : Jvm.Cond.instanceMethod ({ cls := "WellPipes$Well", name := "crushLoad", desc := "(I)I" } : Jvm.MethodName) ∈ wq_TB := tb_2 192 rfl rfl
theorem tw_483 : Jvm.Cond.selects "WellPipes$Well" ({ cls := "WellPipes$Well", name := "crushLoad", desc := "(I)I" } : Jvm.MethodName) ({ cls := "WellPipes$Well", name := "crushLoad", desc := "(I)I" } : Jvm.MethodName) ∈ wq_TB := tb_2 193 rfl rfl
theorem tw_484 : Jvm.Cond.code ({ cls := "WellPipes$Well", name := "crushLoad", desc := "(I)I" } : Jvm.MethodName) prog_7_method_9_code (2 : Nat) (Option.some Jvm.ClassFile.FieldType.int) ∈ wq_TB := tb_2 194 rfl rfl
theorem tw_485 : Jvm.Cond.methodLink "WellPipes$Search" (79 : Nat) ({ cls := "WellPipes$Search", name := "layOn", desc := "(IIII)V" } : Jvm.MethodName) ∈ wq_TB := tb_2 195 rfl rfl
theorem tw_487 : Jvm.Cond.instanceMethod ({ cls := "WellPipes$Search", name := "layOn", desc := "(IIII)V" } : Jvm.MethodName) ∈ wq_TB := tb_2 197 rfl rfl
theorem tw_488 : Jvm.Cond.code ({ cls := "WellPipes$Search", name := "layOn", desc := "(IIII)V" } : Jvm.MethodName) prog_6_method_5_code (9 : Nat) (Option.none : Option Jvm.ClassFile.FieldType) ∈ wq_TB := tb_2 198 rfl rfl
theorem tw_489 : Jvm.Cond.constant "WellPipes$Search" (87 : Nat) (390625 : Int32) ∈ wq_TB := tb_2 199 rfl rfl
theorem tw_490 : Jvm.Cond.methodLink "WellPipes$Search" (83 : Nat) ({ cls := "WellPipes$Search", name := "state", desc := "(III)I" } : Jvm.MethodName) ∈ wq_TB := tb_2 200 rfl rfl
theorem tw_491 : Jvm.Cond.static ({ cls := "WellPipes$Search", name := "state", desc := "(III)I" } : Jvm.MethodName) ∈ wq_TB := tb_2 201 rfl rfl
theorem tw_492 : Jvm.Cond.code ({ cls := "WellPipes$Search", name := "state", desc := "(III)I" } : Jvm.MethodName) prog_6_method_7_code (3 : Nat) (Option.some Jvm.ClassFile.FieldType.int) ∈ wq_TB := tb_2 202 rfl rfl
theorem tw_493 : Jvm.Cond.methodLink "WellPipes$Search" (88 : Nat) ({ cls := "WellPipes$Search", name := "isAhead", desc := "(II)Z" } : Jvm.MethodName) ∈ wq_TB := tb_2 203 rfl rfl
theorem tw_494 : Jvm.Cond.static ({ cls := "WellPipes$Search", name := "isAhead", desc := "(II)Z" } : Jvm.MethodName) ∈ wq_TB := tb_2 204 rfl rfl
theorem tw_495 : Jvm.Cond.code ({ cls := "WellPipes$Search", name := "isAhead", desc := "(II)Z" } : Jvm.MethodName) prog_6_method_6_code (2 : Nat) (Option.some Jvm.ClassFile.FieldType.boolean) ∈ wq_TB := tb_2 205 rfl rfl
theorem tw_496 : Jvm.Cond.methodLink "WellPipes$Search" (68 : Nat) ({ cls := "WellPipes$Search", name := "choose", desc := "()Z" } : Jvm.MethodName) ∈ wq_TB := tb_2 206 rfl rfl
theorem tw_498 : Jvm.Cond.instanceMethod ({ cls := "WellPipes$Search", name := "choose", desc := "()Z" } : Jvm.MethodName) ∈ wq_TB := tb_2 208 rfl rfl
theorem tw_499 : Jvm.Cond.code ({ cls := "WellPipes$Search", name := "choose", desc := "()Z" } : Jvm.MethodName) prog_6_method_8_code (4 : Nat) (Option.some Jvm.ClassFile.FieldType.boolean) ∈ wq_TB := tb_2 209 rfl rfl
theorem tw_500 : Jvm.Cond.methodLink "WellPipes$Search" (98 : Nat) ({ cls := "WellPipes$Search", name := "tellString", desc := "(I)V" } : Jvm.MethodName) ∈ wq_TB := tb_2 210 rfl rfl
theorem tw_502 : Jvm.Cond.instanceMethod ({ cls := "WellPipes$Search", name := "tellString", desc := "(I)V" } : Jvm.MethodName) ∈ wq_TB := tb_2 212 rfl rfl
theorem tw_503 : Jvm.Cond.code ({ cls := "WellPipes$Search", name := "tellString", desc := "(I)V" } : Jvm.MethodName) prog_6_method_9_code (4 : Nat) (Option.none : Option Jvm.ClassFile.FieldType) ∈ wq_TB := tb_2 213 rfl rfl
theorem tw_504 : Jvm.Cond.methodLink "WellPipesLaw" (58 : Nat) ({ cls := "WellPipes", name := "rule", desc := "(II)I" } : Jvm.MethodName) ∈ wq_TB := tb_2 214 rfl rfl
theorem tw_505 : Jvm.Cond.instanceMethod ({ cls := "WellPipes", name := "rule", desc := "(II)I" } : Jvm.MethodName) ∈ wq_TB := tb_2 215 rfl rfl
theorem tw_506 : Jvm.Cond.selects "WellPipes" ({ cls := "WellPipes", name := "rule", desc := "(II)I" } : Jvm.MethodName) ({ cls := "WellPipes", name := "rule", desc := "(II)I" } : Jvm.MethodName) ∈ wq_TB := tb_2 216 rfl rfl
theorem tw_507 : Jvm.Cond.code ({ cls := "WellPipes", name := "rule", desc := "(II)I" } : Jvm.MethodName) prog_1_method_12_code (4 : Nat) (Option.some Jvm.ClassFile.FieldType.int) ∈ wq_TB := tb_2 217 rfl rfl
theorem tw_508 : Jvm.Cond.fieldLink "WellPipes" (168 : Nat) "WellPipes" "RULE_LOW" "[I" ∈ wq_TB := tb_2 218 rfl rfl
theorem tw_509 : Jvm.Cond.fieldLink "WellPipes" (171 : Nat) "WellPipes" "RULE_HIGH" "[I" ∈ wq_TB := tb_2 219 rfl rfl
theorem tw_510 : Jvm.Cond.methodLink "WellPipesLaw" (62 : Nat) ({ cls := "WellPipes", name := "price", desc := "(II)I" } : Jvm.MethodName) ∈ wq_TB := tb_2 220 rfl rfl
theorem tw_511 : Jvm.Cond.instanceMethod ({ cls := "WellPipes", name := "price", desc := "(II)I" } : Jvm.MethodName) ∈ wq_TB := tb_2 221 rfl rfl
theorem tw_512 : Jvm.Cond.selects "WellPipes" ({ cls := "WellPipes", name := "price", desc := "(II)I" } : Jvm.MethodName) ({ cls := "WellPipes", name := "price", desc := "(II)I" } : Jvm.MethodName) ∈ wq_TB := tb_2 222 rfl rfl
theorem tw_513 : Jvm.Cond.code ({ cls := "WellPipes", name := "price", desc := "(II)I" } : Jvm.MethodName) prog_1_method_13_code (4 : Nat) (Option.some Jvm.ClassFile.FieldType.int) ∈ wq_TB := tb_2 223 rfl rfl
theorem tw_514 : Jvm.Cond.fieldLink "WellPipes" (177 : Nat) "WellPipes" "FIGURE_HIGH" "[I" ∈ wq_TB := tb_2 224 rfl rfl
theorem tw_515 : Jvm.Cond.methodLink "WellPipes" (180 : Nat) ({ cls := "WellPipes$Well", name := "figure", desc := "(II)I" } : Jvm.MethodName) ∈ wq_TB := tb_2 225 rfl rfl
theorem tw_516 : Jvm.Cond.methodLink "WellPipes" (183 : Nat) ({ cls := "WellPipes$Well", name := "putFigure", desc := "(III)V" } : Jvm.MethodName) ∈ wq_TB := tb_2 226 rfl rfl
theorem tw_517 : Jvm.Cond.methodLink "WellPipesLaw" (66 : Nat) ({ cls := "WellPipes", name := "grade", desc := "(II)I" } : Jvm.MethodName) ∈ wq_TB := tb_2 227 rfl rfl
theorem tw_518 : Jvm.Cond.instanceMethod ({ cls := "WellPipes", name := "grade", desc := "(II)I" } : Jvm.MethodName) ∈ wq_TB := tb_2 228 rfl rfl
theorem tw_519 : Jvm.Cond.selects "WellPipes" ({ cls := "WellPipes", name := "grade", desc := "(II)I" } : Jvm.MethodName) ({ cls := "WellPipes", name := "grade", desc := "(II)I" } : Jvm.MethodName) ∈ wq_TB := tb_2 229 rfl rfl
theorem tw_520 : Jvm.Cond.code ({ cls := "WellPipes", name := "grade", desc := "(II)I" } : Jvm.MethodName) prog_1_method_14_code (3 : Nat) (Option.some Jvm.ClassFile.FieldType.int) ∈ wq_TB := tb_2 230 rfl rfl
theorem tw_521 : Jvm.Cond.methodLink "WellPipesLaw" (70 : Nat) ({ cls := "WellPipes", name := "step", desc := "(II)I" } : Jvm.MethodName) ∈ wq_TB := tb_2 231 rfl rfl
theorem tw_522 : Jvm.Cond.instanceMethod ({ cls := "WellPipes", name := "step", desc := "(II)I" } : Jvm.MethodName) ∈ wq_TB := tb_2 232 rfl rfl
theorem tw_523 : Jvm.Cond.selects "WellPipes" ({ cls := "WellPipes", name := "step", desc := "(II)I" } : Jvm.MethodName) ({ cls := "WellPipes", name := "step", desc := "(II)I" } : Jvm.MethodName) ∈ wq_TB := tb_2 233 rfl rfl
theorem tw_524 : Jvm.Cond.code ({ cls := "WellPipes", name := "step", desc := "(II)I" } : Jvm.MethodName) prog_1_method_15_code (3 : Nat) (Option.some Jvm.ClassFile.FieldType.int) ∈ wq_TB := tb_2 234 rfl rfl
theorem tw_525 : Jvm.Cond.methodLink "WellPipes" (187 : Nat) ({ cls := "WellPipes$Well", name := "burstLoad", desc := "(I)I" } : Jvm.MethodName) ∈ wq_TB := tb_2 235 rfl rfl
theorem tw_526 : Jvm.Cond.methodLink "WellPipes" (190 : Nat) ({ cls := "WellPipes$Well", name := "crushLoad", desc := "(I)I" } : Jvm.MethodName) ∈ wq_TB := tb_2 236 rfl rfl
theorem tw_527 : Jvm.Cond.methodLink "WellPipes" (193 : Nat) ({ cls := "WellPipes$Well", name := "pullLoad", desc := "(I)I" } : Jvm.MethodName) ∈ wq_TB := tb_2 237 rfl rfl
theorem tw_528 : Jvm.Cond.instanceMethod ({ cls := "WellPipes$Well", name := "pullLoad", desc := "(I)I" } : Jvm.MethodName) ∈ wq_TB := tb_2 238 rfl rfl
theorem tw_529 : Jvm.Cond.selects "WellPipes$Well" ({ cls := "WellPipes$Well", name := "pullLoad", desc := "(I)I" } : Jvm.MethodName) ({ cls := "WellPipes$Well", name := "pullLoad", desc := "(I)I" } : Jvm.MethodName) ∈ wq_TB := tb_2 239 rfl rfl
theorem tw_530 : Jvm.Cond.code ({ cls := "WellPipes$Well", name := "pullLoad", desc := "(I)I" } : Jvm.MethodName) prog_7_method_10_code (4 : Nat) (Option.some Jvm.ClassFile.FieldType.int) ∈ wq_TB := tb_3 0 rfl rfl
theorem tw_531 : Jvm.Cond.methodLink "WellPipes$Well" (41 : Nat) ({ cls := "WellPipes$Well", name := "laidFigure", desc := "(II)I" } : Jvm.MethodName) ∈ wq_TB := tb_3 1 rfl rfl
theorem tw_532 : Jvm.Cond.instanceMethod ({ cls := "WellPipes$Well", name := "laidFigure", desc := "(II)I" } : Jvm.MethodName) ∈ wq_TB := tb_3 2 rfl rfl
theorem tw_533 : Jvm.Cond.selects "WellPipes$Well" ({ cls := "WellPipes$Well", name := "laidFigure", desc := "(II)I" } : Jvm.MethodName) ({ cls := "WellPipes$Well", name := "laidFigure", desc := "(II)I" } : Jvm.MethodName) ∈ wq_TB := tb_3 3 rfl rfl
theorem tw_534 : Jvm.Cond.code ({ cls := "WellPipes$Well", name := "laidFigure", desc := "(II)I" } : Jvm.MethodName) prog_7_method_5_code (3 : Nat) (Option.some Jvm.ClassFile.FieldType.int) ∈ wq_TB := tb_3 4 rfl rfl
theorem tw_535 : Jvm.Cond.methodLink "WellPipes" (196 : Nat) ({ cls := "WellPipes$Well", name := "holds", desc := "(I)Z" } : Jvm.MethodName) ∈ wq_TB := tb_3 5 rfl rfl
theorem tw_536 : Jvm.Cond.instanceMethod ({ cls := "WellPipes$Well", name := "holds", desc := "(I)Z" } : Jvm.MethodName) ∈ wq_TB := tb_3 6 rfl rfl
theorem tw_537 : Jvm.Cond.selects "WellPipes$Well" ({ cls := "WellPipes$Well", name := "holds", desc := "(I)Z" } : Jvm.MethodName) ({ cls := "WellPipes$Well", name := "holds", desc := "(I)Z" } : Jvm.MethodName) ∈ wq_TB := tb_3 7 rfl rfl
theorem tw_538 : Jvm.Cond.code ({ cls := "WellPipes$Well", name := "holds", desc := "(I)Z" } : Jvm.MethodName) prog_7_method_16_code (2 : Nat) (Option.some Jvm.ClassFile.FieldType.boolean) ∈ wq_TB := tb_3 8 rfl rfl
theorem tw_539 : Jvm.Cond.methodLink "WellPipes$Well" (71 : Nat) ({ cls := "WellPipes$Well", name := "pullLoad", desc := "(I)I" } : Jvm.MethodName) ∈ wq_TB := tb_3 9 rfl rfl
theorem tw_540 : Jvm.Cond.methodLink "WellPipes$Well" (74 : Nat) ({ cls := "WellPipes$Well", name := "wouldHold", desc := "(III)Z" } : Jvm.MethodName) ∈ wq_TB := tb_3 10 rfl rfl
theorem tw_541 : Jvm.Cond.methodLink "WellPipes" (199 : Nat) ({ cls := "WellPipes$Well", name := "sectionLength", desc := "(I)I" } : Jvm.MethodName) ∈ wq_TB := tb_3 11 rfl rfl
theorem tw_542 : Jvm.Cond.instanceMethod ({ cls := "WellPipes$Well", name := "sectionLength", desc := "(I)I" } : Jvm.MethodName) ∈ wq_TB := tb_3 12 rfl rfl
theorem tw_543 : Jvm.Cond.selects "WellPipes$Well" ({ cls := "WellPipes$Well", name := "sectionLength", desc := "(I)I" } : Jvm.MethodName) ({ cls := "WellPipes$Well", name := "sectionLength", desc := "(I)I" } : Jvm.MethodName) ∈ wq_TB := tb_3 13 rfl rfl
theorem tw_544 : Jvm.Cond.code ({ cls := "WellPipes$Well", name := "sectionLength", desc := "(I)I" } : Jvm.MethodName) prog_7_method_21_code (4 : Nat) (Option.some Jvm.ClassFile.FieldType.int) ∈ wq_TB := tb_3 14 rfl rfl
theorem tw_545 : Jvm.Cond.methodLink "WellPipesLaw" (74 : Nat) ({ cls := "WellPipes", name := "bears", desc := "(II)I" } : Jvm.MethodName) ∈ wq_TB := tb_3 15 rfl rfl
theorem tw_546 : Jvm.Cond.instanceMethod ({ cls := "WellPipes", name := "bears", desc := "(II)I" } : Jvm.MethodName) ∈ wq_TB := tb_3 16 rfl rfl
theorem tw_547 : Jvm.Cond.selects "WellPipes" ({ cls := "WellPipes", name := "bears", desc := "(II)I" } : Jvm.MethodName) ({ cls := "WellPipes", name := "bears", desc := "(II)I" } : Jvm.MethodName) ∈ wq_TB := tb_3 17 rfl rfl
theorem tw_548 : Jvm.Cond.code ({ cls := "WellPipes", name := "bears", desc := "(II)I" } : Jvm.MethodName) prog_1_method_16_code (4 : Nat) (Option.some Jvm.ClassFile.FieldType.int) ∈ wq_TB := tb_3 18 rfl rfl
theorem tw_549 : Jvm.Cond.methodLink "WellPipes" (202 : Nat) ({ cls := "WellPipes$Well", name := "burstBorne", desc := "(I)I" } : Jvm.MethodName) ∈ wq_TB := tb_3 19 rfl rfl
theorem tw_550 : Jvm.Cond.methodLink "WellPipes" (205 : Nat) ({ cls := "WellPipes$Well", name := "crushBorne", desc := "(II)I" } : Jvm.MethodName) ∈ wq_TB := tb_3 20 rfl rfl
theorem tw_551 : Jvm.Cond.methodLink "WellPipes" (208 : Nat) ({ cls := "WellPipes$Well", name := "pullBorne", desc := "(I)I" } : Jvm.MethodName) ∈ wq_TB := tb_3 21 rfl rfl
theorem tw_552 : Jvm.Cond.methodLink "WellPipesLaw" (78 : Nat) ({ cls := "WellPipes", name := "stand", desc := "(I)I" } : Jvm.MethodName) ∈ wq_TB := tb_3 22 rfl rfl
theorem tw_553 : Jvm.Cond.instanceMethod ({ cls := "WellPipes", name := "stand", desc := "(I)I" } : Jvm.MethodName) ∈ wq_TB := tb_3 23 rfl rfl
theorem tw_554 : Jvm.Cond.selects "WellPipes" ({ cls := "WellPipes", name := "stand", desc := "(I)I" } : Jvm.MethodName) ({ cls := "WellPipes", name := "stand", desc := "(I)I" } : Jvm.MethodName) ∈ wq_TB := tb_3 24 rfl rfl
theorem tw_555 : Jvm.Cond.code ({ cls := "WellPipes", name := "stand", desc := "(I)I" } : Jvm.MethodName) prog_1_method_17_code (2 : Nat) (Option.some Jvm.ClassFile.FieldType.int) ∈ wq_TB := tb_3 25 rfl rfl
theorem tw_556 : Jvm.Cond.methodLink "WellPipes" (214 : Nat) ({ cls := "WellPipes$Well", name := "sumOfLaid", desc := "(I)I" } : Jvm.MethodName) ∈ wq_TB := tb_3 26 rfl rfl
theorem tw_557 : Jvm.Cond.instanceMethod ({ cls := "WellPipes$Well", name := "sumOfLaid", desc := "(I)I" } : Jvm.MethodName) ∈ wq_TB := tb_3 27 rfl rfl
theorem tw_558 : Jvm.Cond.selects "WellPipes$Well" ({ cls := "WellPipes$Well", name := "sumOfLaid", desc := "(I)I" } : Jvm.MethodName) ({ cls := "WellPipes$Well", name := "sumOfLaid", desc := "(I)I" } : Jvm.MethodName) ∈ wq_TB := tb_3 28 rfl rfl
theorem tw_559 : Jvm.Cond.code ({ cls := "WellPipes$Well", name := "sumOfLaid", desc := "(I)I" } : Jvm.MethodName) prog_7_method_6_code (4 : Nat) (Option.some Jvm.ClassFile.FieldType.int) ∈ wq_TB := tb_3 29 rfl rfl
theorem tw_560 : Jvm.Cond.methodLink "WellPipes" (217 : Nat) ({ cls := "WellPipes$Well", name := "firstThatFails", desc := "()I" } : Jvm.MethodName) ∈ wq_TB := tb_3 30 rfl rfl
theorem tw_561 : Jvm.Cond.instanceMethod ({ cls := "WellPipes$Well", name := "firstThatFails", desc := "()I" } : Jvm.MethodName) ∈ wq_TB := tb_3 31 rfl rfl
theorem tw_562 : Jvm.Cond.selects "WellPipes$Well" ({ cls := "WellPipes$Well", name := "firstThatFails", desc := "()I" } : Jvm.MethodName) ({ cls := "WellPipes$Well", name := "firstThatFails", desc := "()I" } : Jvm.MethodName) ∈ wq_TB := tb_3 32 rfl rfl
theorem tw_563 : Jvm.Cond.code ({ cls := "WellPipes$Well", name := "firstThatFails", desc := "()I" } : Jvm.MethodName) prog_7_method_19_code (2 : Nat) (Option.some Jvm.ClassFile.FieldType.int) ∈ wq_TB := tb_3 33 rfl rfl
theorem tw_564 : Jvm.Cond.methodLink "WellPipes$Well" (78 : Nat) ({ cls := "WellPipes$Well", name := "holds", desc := "(I)Z" } : Jvm.MethodName) ∈ wq_TB := tb_3 34 rfl rfl
theorem tw_565 : Jvm.Cond.constant "WellPipes$Well" (82 : Nat) (-1000000 : Int32) ∈ wq_TB := tb_3 35 rfl rfl
theorem tw_566 : Jvm.Cond.methodLink "WellPipes" (220 : Nat) ({ cls := "WellPipes$Well", name := "isSound", desc := "()Z" } : Jvm.MethodName) ∈ wq_TB := tb_3 36 rfl rfl
theorem tw_567 : Jvm.Cond.instanceMethod ({ cls := "WellPipes$Well", name := "isSound", desc := "()Z" } : Jvm.MethodName) ∈ wq_TB := tb_3 37 rfl rfl
theorem tw_568 : Jvm.Cond.selects "WellPipes$Well" ({ cls := "WellPipes$Well", name := "isSound", desc := "()Z" } : Jvm.MethodName) ({ cls := "WellPipes$Well", name := "isSound", desc := "()Z" } : Jvm.MethodName) ∈ wq_TB := tb_3 38 rfl rfl
theorem tw_569 : Jvm.Cond.code ({ cls := "WellPipes$Well", name := "isSound", desc := "()Z" } : Jvm.MethodName) prog_7_method_20_code (2 : Nat) (Option.some Jvm.ClassFile.FieldType.boolean) ∈ wq_TB := tb_3 39 rfl rfl
theorem tw_570 : Jvm.Cond.methodLink "WellPipes$Well" (83 : Nat) ({ cls := "WellPipes$Well", name := "firstThatFails", desc := "()I" } : Jvm.MethodName) ∈ wq_TB := tb_3 40 rfl rfl
theorem tw_571 : Jvm.Cond.methodLink "WellPipes$Well" (87 : Nat) ({ cls := "WellPipes$Well", name := "sectionLength", desc := "(I)I" } : Jvm.MethodName) ∈ wq_TB := tb_3 41 rfl rfl
theorem tw_572 : Jvm.Cond.methodLink "WellPipesLaw" (82 : Nat) ({ cls := "WellPipes", name := "best", desc := "(I)I" } : Jvm.MethodName) ∈ wq_TB := tb_3 42 rfl rfl
theorem tw_573 : Jvm.Cond.instanceMethod ({ cls := "WellPipes", name := "best", desc := "(I)I" } : Jvm.MethodName) ∈ wq_TB := tb_3 43 rfl rfl
theorem tw_574 : Jvm.Cond.selects "WellPipes" ({ cls := "WellPipes", name := "best", desc := "(I)I" } : Jvm.MethodName) ({ cls := "WellPipes", name := "best", desc := "(I)I" } : Jvm.MethodName) ∈ wq_TB := tb_3 44 rfl rfl
theorem tw_575 : Jvm.Cond.code ({ cls := "WellPipes", name := "best", desc := "(I)I" } : Jvm.MethodName) prog_1_method_18_code (2 : Nat) (Option.some Jvm.ClassFile.FieldType.int) ∈ wq_TB := tb_3 45 rfl rfl
theorem tw_576 : Jvm.Cond.methodLink "WellPipesLaw" (86 : Nat) ({ cls := "WellPipes", name := "without", desc := "(I)I" } : Jvm.MethodName) ∈ wq_TB := tb_3 46 rfl rfl
theorem tw_577 : Jvm.Cond.instanceMethod ({ cls := "WellPipes", name := "without", desc := "(I)I" } : Jvm.MethodName) ∈ wq_TB := tb_3 47 rfl rfl
theorem tw_578 : Jvm.Cond.selects "WellPipes" ({ cls := "WellPipes", name := "without", desc := "(I)I" } : Jvm.MethodName) ({ cls := "WellPipes", name := "without", desc := "(I)I" } : Jvm.MethodName) ∈ wq_TB := tb_3 48 rfl rfl
theorem tw_579 : Jvm.Cond.code ({ cls := "WellPipes", name := "without", desc := "(I)I" } : Jvm.MethodName) prog_1_method_19_code (2 : Nat) (Option.some Jvm.ClassFile.FieldType.int) ∈ wq_TB := tb_3 49 rfl rfl
theorem tw_580 : Jvm.Cond.methodLink "WellPipesLaw" (90 : Nat) ({ cls := "WellPipes", name := "most", desc := "(I)I" } : Jvm.MethodName) ∈ wq_TB := tb_3 50 rfl rfl
theorem tw_581 : Jvm.Cond.instanceMethod ({ cls := "WellPipes", name := "most", desc := "(I)I" } : Jvm.MethodName) ∈ wq_TB := tb_3 51 rfl rfl
theorem tw_582 : Jvm.Cond.selects "WellPipes" ({ cls := "WellPipes", name := "most", desc := "(I)I" } : Jvm.MethodName) ({ cls := "WellPipes", name := "most", desc := "(I)I" } : Jvm.MethodName) ∈ wq_TB := tb_3 52 rfl rfl
theorem tw_583 : Jvm.Cond.code ({ cls := "WellPipes", name := "most", desc := "(I)I" } : Jvm.MethodName) prog_1_method_20_code (3 : Nat) (Option.some Jvm.ClassFile.FieldType.int) ∈ wq_TB := tb_3 53 rfl rfl
theorem tw_584 : Jvm.Cond.methodLink "WellPipesLaw" (94 : Nat) ({ cls := "WellPipes", name := "need", desc := "(I)I" } : Jvm.MethodName) ∈ wq_TB := tb_3 54 rfl rfl
theorem tw_585 : Jvm.Cond.instanceMethod ({ cls := "WellPipes", name := "need", desc := "(I)I" } : Jvm.MethodName) ∈ wq_TB := tb_3 55 rfl rfl
theorem tw_586 : Jvm.Cond.selects "WellPipes" ({ cls := "WellPipes", name := "need", desc := "(I)I" } : Jvm.MethodName) ({ cls := "WellPipes", name := "need", desc := "(I)I" } : Jvm.MethodName) ∈ wq_TB := tb_3 56 rfl rfl
theorem tw_587 : Jvm.Cond.code ({ cls := "WellPipes", name := "need", desc := "(I)I" } : Jvm.MethodName) prog_1_method_21_code (4 : Nat) (Option.some Jvm.ClassFile.FieldType.int) ∈ wq_TB := tb_3 57 rfl rfl
theorem tw_588 : Jvm.Cond.methodLink "WellPipesLaw" (98 : Nat) ({ cls := "WellPipes", name := "sets", desc := "(II)I" } : Jvm.MethodName) ∈ wq_TB := tb_3 58 rfl rfl
theorem tw_589 : Jvm.Cond.instanceMethod ({ cls := "WellPipes", name := "sets", desc := "(II)I" } : Jvm.MethodName) ∈ wq_TB := tb_3 59 rfl rfl
theorem tw_590 : Jvm.Cond.selects "WellPipes" ({ cls := "WellPipes", name := "sets", desc := "(II)I" } : Jvm.MethodName) ({ cls := "WellPipes", name := "sets", desc := "(II)I" } : Jvm.MethodName) ∈ wq_TB := tb_3 60 rfl rfl
theorem tw_591 : Jvm.Cond.code ({ cls := "WellPipes", name := "sets", desc := "(II)I" } : Jvm.MethodName) prog_1_method_22_code (7 : Nat) (Option.some Jvm.ClassFile.FieldType.int) ∈ wq_TB := tb_3 61 rfl rfl
theorem tw_592 : Jvm.Cond.methodLink "WellPipes" (226 : Nat) ({ cls := "WellPipes$Well", name := "priceOf", desc := "(I)I" } : Jvm.MethodName) ∈ wq_TB := tb_3 62 rfl rfl
theorem tw_593 : Jvm.Cond.instanceMethod ({ cls := "WellPipes$Well", name := "priceOf", desc := "(I)I" } : Jvm.MethodName) ∈ wq_TB := tb_3 63 rfl rfl
theorem tw_594 : Jvm.Cond.selects "WellPipes$Well" ({ cls := "WellPipes$Well", name := "priceOf", desc := "(I)I" } : Jvm.MethodName) ({ cls := "WellPipes$Well", name := "priceOf", desc := "(I)I" } : Jvm.MethodName) ∈ wq_TB := tb_3 64 rfl rfl
theorem tw_595 : Jvm.Cond.code ({ cls := "WellPipes$Well", name := "priceOf", desc := "(I)I" } : Jvm.MethodName) prog_7_method_23_code (4 : Nat) (Option.some Jvm.ClassFile.FieldType.int) ∈ wq_TB := tb_3 65 rfl rfl
theorem tw_596 : Jvm.Cond.methodLink "WellPipesLaw" (102 : Nat) ({ cls := "WellPipes", name := "share", desc := "(II)I" } : Jvm.MethodName) ∈ wq_TB := tb_3 66 rfl rfl
theorem tw_597 : Jvm.Cond.instanceMethod ({ cls := "WellPipes", name := "share", desc := "(II)I" } : Jvm.MethodName) ∈ wq_TB := tb_3 67 rfl rfl
theorem tw_598 : Jvm.Cond.selects "WellPipes" ({ cls := "WellPipes", name := "share", desc := "(II)I" } : Jvm.MethodName) ({ cls := "WellPipes", name := "share", desc := "(II)I" } : Jvm.MethodName) ∈ wq_TB := tb_3 68 rfl rfl
theorem tw_599 : Jvm.Cond.code ({ cls := "WellPipes", name := "share", desc := "(II)I" } : Jvm.MethodName) prog_1_method_23_code (7 : Nat) (Option.some Jvm.ClassFile.FieldType.int) ∈ wq_TB := tb_3 69 rfl rfl
theorem tw_600 : Jvm.Cond.methodLink "WellPipes" (229 : Nat) ({ cls := "WellPipes$Well", name := "laidFigure", desc := "(II)I" } : Jvm.MethodName) ∈ wq_TB := tb_3 70 rfl rfl
theorem tw_601 : Jvm.Cond.methodLink "WellPipesLaw" (106 : Nat) ({ cls := "WellPipes", name := "byTurns", desc := "(I)I" } : Jvm.MethodName) ∈ wq_TB := tb_3 71 rfl rfl
theorem tw_602 : Jvm.Cond.instanceMethod ({ cls := "WellPipes", name := "byTurns", desc := "(I)I" } : Jvm.MethodName) ∈ wq_TB := tb_3 72 rfl rfl
theorem tw_603 : Jvm.Cond.selects "WellPipes" ({ cls := "WellPipes", name := "byTurns", desc := "(I)I" } : Jvm.MethodName) ({ cls := "WellPipes", name := "byTurns", desc := "(I)I" } : Jvm.MethodName) ∈ wq_TB := tb_3 73 rfl rfl
theorem tw_604 : Jvm.Cond.code ({ cls := "WellPipes", name := "byTurns", desc := "(I)I" } : Jvm.MethodName) prog_1_method_24_code (2 : Nat) (Option.some Jvm.ClassFile.FieldType.int) ∈ wq_TB := tb_3 74 rfl rfl
theorem tw_605 : Jvm.Cond.methodLink "WellPipes" (232 : Nat) ({ cls := "WellPipes", name := "costByTurns", desc := "(LWellPipes$Well;IIIZ)I" } : Jvm.MethodName) ∈ wq_TB := tb_3 75 rfl rfl
theorem tw_606 : Jvm.Cond.static ({ cls := "WellPipes", name := "costByTurns", desc := "(LWellPipes$Well;IIIZ)I" } : Jvm.MethodName) ∈ wq_TB := tb_3 76 rfl rfl
theorem tw_607 : Jvm.Cond.code ({ cls := "WellPipes", name := "costByTurns", desc := "(LWellPipes$Well;IIIZ)I" } : Jvm.MethodName) prog_1_method_44_code (9 : Nat) (Option.some Jvm.ClassFile.FieldType.int) ∈ wq_TB := tb_3 77 rfl rfl
theorem tw_608 : Jvm.Cond.methodLink "WellPipes" (299 : Nat) ({ cls := "WellPipes$Well", name := "wouldHold", desc := "(III)Z" } : Jvm.MethodName) ∈ wq_TB := tb_3 78 rfl rfl
theorem tw_609 : Jvm.Cond.methodLink "WellPipesLaw" (110 : Nat) ({ cls := "WellPipes", name := "who", desc := "(IIII)I" } : Jvm.MethodName) ∈ wq_TB := tb_3 79 rfl rfl
theorem tw_610 : Jvm.Cond.instanceMethod ({ cls := "WellPipes", name := "who", desc := "(IIII)I" } : Jvm.MethodName) ∈ wq_TB := tb_3 80 rfl rfl
theorem tw_611 : Jvm.Cond.selects "WellPipes" ({ cls := "WellPipes", name := "who", desc := "(IIII)I" } : Jvm.MethodName) ({ cls := "WellPipes", name := "who", desc := "(IIII)I" } : Jvm.MethodName) ∈ wq_TB := tb_3 81 rfl rfl
theorem tw_612 : Jvm.Cond.code ({ cls := "WellPipes", name := "who", desc := "(IIII)I" } : Jvm.MethodName) prog_1_method_25_code (8 : Nat) (Option.some Jvm.ClassFile.FieldType.int) ∈ wq_TB := tb_3 82 rfl rfl
theorem tw_613 : Jvm.Cond.methodLink "WellPipes" (239 : Nat) ({ cls := "WellPipes", name := "isBest", desc := "(LWellPipes$Well;LWellPipes$Row;I)Z" } : Jvm.MethodName) ∈ wq_TB := tb_3 83 rfl rfl
theorem tw_615 : Jvm.Cond.instanceMethod ({ cls := "WellPipes", name := "isBest", desc := "(LWellPipes$Well;LWellPipes$Row;I)Z" } : Jvm.MethodName) ∈ wq_TB := tb_3 85 rfl rfl
theorem tw_616 : Jvm.Cond.code ({ cls := "WellPipes", name := "isBest", desc := "(LWellPipes$Well;LWellPipes$Row;I)Z" } : Jvm.MethodName) prog_1_method_43_code (5 : Nat) (Option.some Jvm.ClassFile.FieldType.boolean) ∈ wq_TB := tb_3 86 rfl rfl
theorem tw_617 : Jvm.Cond.methodLink "WellPipesLaw" (115 : Nat) ({ cls := "WellPipes", name := "flaws", desc := "(II)J" } : Jvm.MethodName) ∈ wq_TB := tb_3 87 rfl rfl
theorem tw_618 : Jvm.Cond.instanceMethod ({ cls := "WellPipes", name := "flaws", desc := "(II)J" } : Jvm.MethodName) ∈ wq_TB := tb_3 88 rfl rfl
theorem tw_619 : Jvm.Cond.selects "WellPipes" ({ cls := "WellPipes", name := "flaws", desc := "(II)J" } : Jvm.MethodName) ({ cls := "WellPipes", name := "flaws", desc := "(II)J" } : Jvm.MethodName) ∈ wq_TB := tb_3 89 rfl rfl
theorem tw_620 : Jvm.Cond.code ({ cls := "WellPipes", name := "flaws", desc := "(II)J" } : Jvm.MethodName) prog_1_method_26_code (9 : Nat) (Option.some Jvm.ClassFile.FieldType.long) ∈ wq_TB := tb_3 90 rfl rfl
theorem tw_621 : Jvm.Cond.constantLong "WellPipes" (243 : Nat) (-1000002 : Int64) ∈ wq_TB := tb_3 91 rfl rfl
theorem tw_622 : Jvm.Cond.constantLong "WellPipes" (245 : Nat) (-1000001 : Int64) ∈ wq_TB := tb_3 92 rfl rfl
theorem tw_623 : Jvm.Cond.methodLink "WellPipes" (247 : Nat) ({ cls := "WellPipes$Well", name := "holdsFlawed", desc := "(I)Z" } : Jvm.MethodName) ∈ wq_TB := tb_3 93 rfl rfl
theorem tw_624 : Jvm.Cond.instanceMethod ({ cls := "WellPipes$Well", name := "holdsFlawed", desc := "(I)Z" } : Jvm.MethodName) ∈ wq_TB := tb_3 94 rfl rfl
theorem tw_625 : Jvm.Cond.selects "WellPipes$Well" ({ cls := "WellPipes$Well", name := "holdsFlawed", desc := "(I)Z" } : Jvm.MethodName) ({ cls := "WellPipes$Well", name := "holdsFlawed", desc := "(I)Z" } : Jvm.MethodName) ∈ wq_TB := tb_3 95 rfl rfl
theorem tw_626 : Jvm.Cond.code ({ cls := "WellPipes$Well", name := "holdsFlawed", desc := "(I)Z" } : Jvm.MethodName) prog_7_method_17_code (2 : Nat) (Option.some Jvm.ClassFile.FieldType.boolean) ∈ wq_TB := tb_3 96 rfl rfl
theorem tw_627 : Jvm.Cond.constantLong "WellPipes" (250 : Nat) (10 : Int64) ∈ wq_TB := tb_3 97 rfl rfl
theorem tw_628 : Jvm.Cond.methodLink "WellPipes" (252 : Nat) ({ cls := "WellPipes", name := "greatestDivisor", desc := "(JJ)J" } : Jvm.MethodName) ∈ wq_TB := tb_3 98 rfl rfl
theorem tw_629 : Jvm.Cond.static ({ cls := "WellPipes", name := "greatestDivisor", desc := "(JJ)J" } : Jvm.MethodName) ∈ wq_TB := tb_3 99 rfl rfl
theorem tw_630 : Jvm.Cond.code ({ cls := "WellPipes", name := "greatestDivisor", desc := "(JJ)J" } : Jvm.MethodName) prog_1_method_45_code (11 : Nat) (Option.some Jvm.ClassFile.FieldType.long) ∈ wq_TB := tb_3 100 rfl rfl
theorem tw_631 : Jvm.Cond.methodLink "WellPipes" (256 : Nat) ({ cls := "java/lang/Math", name := "max", desc := "(JJ)J" } : Jvm.MethodName) ∈ wq_TB := tb_3 101 rfl rfl
theorem tw_632 : Jvm.Cond.static ({ cls := "java/lang/Math", name := "max", desc := "(JJ)J" } : Jvm.MethodName) ∈ wq_TB := tb_3 102 rfl rfl
theorem tw_633 : Jvm.Cond.code ({ cls := "java/lang/Math", name := "max", desc := "(JJ)J" } : Jvm.MethodName) prog_10_method_66_code (4 : Nat) (Option.some Jvm.ClassFile.FieldType.long) ∈ wq_TB := tb_3 103 rfl rfl
theorem tw_634 : Jvm.Cond.methodLink "WellPipesLaw" (120 : Nat) ({ cls := "WellPipes", name := "drawn", desc := "(III)I" } : Jvm.MethodName) ∈ wq_TB := tb_3 104 rfl rfl
theorem tw_635 : Jvm.Cond.instanceMethod ({ cls := "WellPipes", name := "drawn", desc := "(III)I" } : Jvm.MethodName) ∈ wq_TB := tb_3 105 rfl rfl
theorem tw_636 : Jvm.Cond.selects "WellPipes" ({ cls := "WellPipes", name := "drawn", desc := "(III)I" } : Jvm.MethodName) ({ cls := "WellPipes", name := "drawn", desc := "(III)I" } : Jvm.MethodName) ∈ wq_TB := tb_3 106 rfl rfl
theorem tw_637 : Jvm.Cond.code ({ cls := "WellPipes", name := "drawn", desc := "(III)I" } : Jvm.MethodName) prog_1_method_27_code (7 : Nat) (Option.some Jvm.ClassFile.FieldType.int) ∈ wq_TB := tb_3 107 rfl rfl
theorem tw_638 : Jvm.Cond.constant "WellPipes" (261 : Nat) (999999 : Int32) ∈ wq_TB := tb_3 108 rfl rfl
theorem tw_639 : Jvm.Cond.constantLong "WellPipes" (262 : Nat) (16807 : Int64) ∈ wq_TB := tb_3 109 rfl rfl
theorem tw_640 : Jvm.Cond.constantLong "WellPipes" (264 : Nat) (2147483647 : Int64) ∈ wq_TB := tb_3 110 rfl rfl
theorem tw_641 : Jvm.Cond.methodLink "WellPipes" (266 : Nat) ({ cls := "WellPipes$Well", name := "changeByDraw", desc := "(I)V" } : Jvm.MethodName) ∈ wq_TB := tb_3 111 rfl rfl
theorem tw_642 : Jvm.Cond.instanceMethod ({ cls := "WellPipes$Well", name := "changeByDraw", desc := "(I)V" } : Jvm.MethodName) ∈ wq_TB := tb_3 112 rfl rfl
theorem tw_643 : Jvm.Cond.selects "WellPipes$Well" ({ cls := "WellPipes$Well", name := "changeByDraw", desc := "(I)V" } : Jvm.MethodName) ({ cls := "WellPipes$Well", name := "changeByDraw", desc := "(I)V" } : Jvm.MethodName) ∈ wq_TB := tb_3 113 rfl rfl
theorem tw_644 : Jvm.Cond.code ({ cls := "WellPipes$Well", name := "changeByDraw", desc := "(I)V" } : Jvm.MethodName) prog_7_method_24_code (2 : Nat) (Option.none : Option Jvm.ClassFile.FieldType) ∈ wq_TB := tb_3 114 rfl rfl
theorem tw_645 : Jvm.Cond.methodLink "WellPipes" (270 : Nat) ({ cls := "WellPipes$Well", name := "howManyHold", desc := "()I" } : Jvm.MethodName) ∈ wq_TB := tb_3 115 rfl rfl
theorem tw_646 : Jvm.Cond.instanceMethod ({ cls := "WellPipes$Well", name := "howManyHold", desc := "()I" } : Jvm.MethodName) ∈ wq_TB := tb_3 116 rfl rfl
theorem tw_647 : Jvm.Cond.selects "WellPipes$Well" ({ cls := "WellPipes$Well", name := "howManyHold", desc := "()I" } : Jvm.MethodName) ({ cls := "WellPipes$Well", name := "howManyHold", desc := "()I" } : Jvm.MethodName) ∈ wq_TB := tb_3 117 rfl rfl
theorem tw_648 : Jvm.Cond.code ({ cls := "WellPipes$Well", name := "howManyHold", desc := "()I" } : Jvm.MethodName) prog_7_method_18_code (3 : Nat) (Option.some Jvm.ClassFile.FieldType.int) ∈ wq_TB := tb_3 118 rfl rfl
theorem tw_649 : Jvm.Cond.methodLink "WellPipesLaw" (124 : Nat) ({ cls := "WellPipes", name := "image", desc := "(I)I" } : Jvm.MethodName) ∈ wq_TB := tb_3 119 rfl rfl
theorem tw_650 : Jvm.Cond.instanceMethod ({ cls := "WellPipes", name := "image", desc := "(I)I" } : Jvm.MethodName) ∈ wq_TB := tb_3 120 rfl rfl
theorem tw_651 : Jvm.Cond.selects "WellPipes" ({ cls := "WellPipes", name := "image", desc := "(I)I" } : Jvm.MethodName) ({ cls := "WellPipes", name := "image", desc := "(I)I" } : Jvm.MethodName) ∈ wq_TB := tb_3 121 rfl rfl
theorem tw_652 : Jvm.Cond.code ({ cls := "WellPipes", name := "image", desc := "(I)I" } : Jvm.MethodName) prog_1_method_28_code (2 : Nat) (Option.some Jvm.ClassFile.FieldType.int) ∈ wq_TB := tb_3 122 rfl rfl
theorem tw_653 : Jvm.Cond.methodLink "WellPipesLaw" (128 : Nat) ({ cls := "WellPipes", name := "restore", desc := "(I)I" } : Jvm.MethodName) ∈ wq_TB := tb_3 123 rfl rfl
theorem tw_654 : Jvm.Cond.instanceMethod ({ cls := "WellPipes", name := "restore", desc := "(I)I" } : Jvm.MethodName) ∈ wq_TB := tb_3 124 rfl rfl
theorem tw_655 : Jvm.Cond.selects "WellPipes" ({ cls := "WellPipes", name := "restore", desc := "(I)I" } : Jvm.MethodName) ({ cls := "WellPipes", name := "restore", desc := "(I)I" } : Jvm.MethodName) ∈ wq_TB := tb_3 125 rfl rfl
theorem tw_656 : Jvm.Cond.code ({ cls := "WellPipes", name := "restore", desc := "(I)I" } : Jvm.MethodName) prog_1_method_29_code (2 : Nat) (Option.some Jvm.ClassFile.FieldType.int) ∈ wq_TB := tb_3 126 rfl rfl
theorem tw_657 : Jvm.Cond.methodLink "WellPipesLaw" (132 : Nat) ({ cls := "WellPipes", name := "kind", desc := "(I)I" } : Jvm.MethodName) ∈ wq_TB := tb_3 127 rfl rfl
theorem tw_658 : Jvm.Cond.instanceMethod ({ cls := "WellPipes", name := "kind", desc := "(I)I" } : Jvm.MethodName) ∈ wq_TB := tb_3 128 rfl rfl
theorem tw_659 : Jvm.Cond.selects "WellPipes" ({ cls := "WellPipes", name := "kind", desc := "(I)I" } : Jvm.MethodName) ({ cls := "WellPipes", name := "kind", desc := "(I)I" } : Jvm.MethodName) ∈ wq_TB := tb_3 129 rfl rfl
theorem tw_660 : Jvm.Cond.code ({ cls := "WellPipes", name := "kind", desc := "(I)I" } : Jvm.MethodName) prog_1_method_30_code (2 : Nat) (Option.some Jvm.ClassFile.FieldType.int) ∈ wq_TB := tb_3 130 rfl rfl
theorem tw_661 : Jvm.Cond.methodLink "WellPipesLaw" (136 : Nat) ({ cls := "WellPipes", name := "as", desc := "(II)I" } : Jvm.MethodName) ∈ wq_TB := tb_3 131 rfl rfl
theorem tw_662 : Jvm.Cond.instanceMethod ({ cls := "WellPipes", name := "as", desc := "(II)I" } : Jvm.MethodName) ∈ wq_TB := tb_3 132 rfl rfl
theorem tw_663 : Jvm.Cond.selects "WellPipes" ({ cls := "WellPipes", name := "as", desc := "(II)I" } : Jvm.MethodName) ({ cls := "WellPipes", name := "as", desc := "(II)I" } : Jvm.MethodName) ∈ wq_TB := tb_3 133 rfl rfl
theorem tw_664 : Jvm.Cond.code ({ cls := "WellPipes", name := "as", desc := "(II)I" } : Jvm.MethodName) prog_1_method_31_code (4 : Nat) (Option.some Jvm.ClassFile.FieldType.int) ∈ wq_TB := tb_3 134 rfl rfl
theorem tw_665 : Jvm.Cond.fieldLink "WellPipes" (273 : Nat) "WellPipes" "WIDER_KIND" "[I" ∈ wq_TB := tb_3 135 rfl rfl
theorem tw_667 : Jvm.Cond.methodLink "WellPipesLaw" (140 : Nat) ({ cls := "WellPipes", name := "ask", desc := "(II)I" } : Jvm.MethodName) ∈ wq_TB := tb_3 137 rfl rfl
theorem tw_668 : Jvm.Cond.instanceMethod ({ cls := "WellPipes", name := "ask", desc := "(II)I" } : Jvm.MethodName) ∈ wq_TB := tb_3 138 rfl rfl
theorem tw_669 : Jvm.Cond.selects "WellPipes" ({ cls := "WellPipes", name := "ask", desc := "(II)I" } : Jvm.MethodName) ({ cls := "WellPipes", name := "ask", desc := "(II)I" } : Jvm.MethodName) ∈ wq_TB := tb_3 139 rfl rfl
theorem tw_670 : Jvm.Cond.code ({ cls := "WellPipes", name := "ask", desc := "(II)I" } : Jvm.MethodName) prog_1_method_32_code (3 : Nat) (Option.some Jvm.ClassFile.FieldType.int) ∈ wq_TB := tb_3 140 rfl rfl
theorem tw_671 : Jvm.Cond.methodLink "WellPipes" (276 : Nat) ({ cls := "WellPipes$Asks", name := "answer", desc := "(LWellPipes$Well;II)I" } : Jvm.MethodName) ∈ wq_TB := tb_3 141 rfl rfl
theorem tw_672 : Jvm.Cond.instanceMethod ({ cls := "WellPipes$Asks", name := "answer", desc := "(LWellPipes$Well;II)I" } : Jvm.MethodName) ∈ wq_TB := tb_3 142 rfl rfl
theorem tw_673 : Jvm.Cond.selects "WellPipes$Asks" ({ cls := "WellPipes$Asks", name := "answer", desc := "(LWellPipes$Well;II)I" } : Jvm.MethodName) ({ cls := "WellPipes$Asks", name := "answer", desc := "(LWellPipes$Well;II)I" } : Jvm.MethodName) ∈ wq_TB := tb_3 143 rfl rfl
theorem tw_674 : Jvm.Cond.code ({ cls := "WellPipes$Asks", name := "answer", desc := "(LWellPipes$Well;II)I" } : Jvm.MethodName) prog_3_method_2_code (4 : Nat) (Option.some Jvm.ClassFile.FieldType.int) ∈ wq_TB := tb_3 144 rfl rfl
theorem tw_675 : Jvm.Cond.methodLink "WellPipes$Asks" (26 : Nat) ({ cls := "WellPipes$Asks", name := "bodyFor", desc := "(I)I" } : Jvm.MethodName) ∈ wq_TB := tb_3 145 rfl rfl
theorem tw_677 : Jvm.Cond.instanceMethod ({ cls := "WellPipes$Asks", name := "bodyFor", desc := "(I)I" } : Jvm.MethodName) ∈ wq_TB := tb_3 147 rfl rfl
theorem tw_678 : Jvm.Cond.code ({ cls := "WellPipes$Asks", name := "bodyFor", desc := "(I)I" } : Jvm.MethodName) prog_3_method_3_code (3 : Nat) (Option.some Jvm.ClassFile.FieldType.int) ∈ wq_TB := tb_3 148 rfl rfl
theorem tw_679 : Jvm.Cond.fieldLink "WellPipes$Asks" (39 : Nat) "WellPipes$Asks" "SIZE_BODIES" "[I" ∈ wq_TB := tb_3 149 rfl rfl
theorem tw_681 : Jvm.Cond.fieldLink "WellPipes$Asks" (42 : Nat) "WellPipes$Asks" "MARK_BODIES" "[I" ∈ wq_TB := tb_3 151 rfl rfl
theorem tw_683 : Jvm.Cond.methodLink "WellPipes$Asks" (30 : Nat) ({ cls := "WellPipes$Asks", name := "begin", desc := "(II)I" } : Jvm.MethodName) ∈ wq_TB := tb_3 153 rfl rfl
theorem tw_685 : Jvm.Cond.instanceMethod ({ cls := "WellPipes$Asks", name := "begin", desc := "(II)I" } : Jvm.MethodName) ∈ wq_TB := tb_3 155 rfl rfl
theorem tw_686 : Jvm.Cond.code ({ cls := "WellPipes$Asks", name := "begin", desc := "(II)I" } : Jvm.MethodName) prog_3_method_4_code (4 : Nat) (Option.some Jvm.ClassFile.FieldType.int) ∈ wq_TB := tb_3 156 rfl rfl
theorem tw_687 : Jvm.Cond.methodLink "WellPipes$Asks" (45 : Nat) ({ cls := "WellPipes$Well", name := "figure", desc := "(II)I" } : Jvm.MethodName) ∈ wq_TB := tb_3 157 rfl rfl
theorem tw_688 : Jvm.Cond.methodLink "WellPipesLaw" (144 : Nat) ({ cls := "WellPipes", name := "trace", desc := "(I)I" } : Jvm.MethodName) ∈ wq_TB := tb_3 158 rfl rfl
theorem tw_689 : Jvm.Cond.instanceMethod ({ cls := "WellPipes", name := "trace", desc := "(I)I" } : Jvm.MethodName) ∈ wq_TB := tb_3 159 rfl rfl
theorem tw_690 : Jvm.Cond.selects "WellPipes" ({ cls := "WellPipes", name := "trace", desc := "(I)I" } : Jvm.MethodName) ({ cls := "WellPipes", name := "trace", desc := "(I)I" } : Jvm.MethodName) ∈ wq_TB := tb_3 160 rfl rfl
theorem tw_691 : Jvm.Cond.code ({ cls := "WellPipes", name := "trace", desc := "(I)I" } : Jvm.MethodName) prog_1_method_33_code (2 : Nat) (Option.some Jvm.ClassFile.FieldType.int) ∈ wq_TB := tb_3 161 rfl rfl
theorem tw_692 : Jvm.Cond.methodLink "WellPipesLaw" (148 : Nat) ({ cls := "WellPipes", name := "count", desc := "(I)I" } : Jvm.MethodName) ∈ wq_TB := tb_3 162 rfl rfl
theorem tw_693 : Jvm.Cond.instanceMethod ({ cls := "WellPipes", name := "count", desc := "(I)I" } : Jvm.MethodName) ∈ wq_TB := tb_3 163 rfl rfl
theorem tw_694 : Jvm.Cond.selects "WellPipes" ({ cls := "WellPipes", name := "count", desc := "(I)I" } : Jvm.MethodName) ({ cls := "WellPipes", name := "count", desc := "(I)I" } : Jvm.MethodName) ∈ wq_TB := tb_3 164 rfl rfl
theorem tw_695 : Jvm.Cond.code ({ cls := "WellPipes", name := "count", desc := "(I)I" } : Jvm.MethodName) prog_1_method_34_code (2 : Nat) (Option.some Jvm.ClassFile.FieldType.int) ∈ wq_TB := tb_3 165 rfl rfl
theorem tw_696 : Jvm.Cond.methodLink "WellPipes" (286 : Nat) ({ cls := "WellPipes", name := "howManyRows", desc := "()I" } : Jvm.MethodName) ∈ wq_TB := tb_3 166 rfl rfl
theorem tw_698 : Jvm.Cond.instanceMethod ({ cls := "WellPipes", name := "howManyRows", desc := "()I" } : Jvm.MethodName) ∈ wq_TB := tb_3 168 rfl rfl
theorem tw_699 : Jvm.Cond.code ({ cls := "WellPipes", name := "howManyRows", desc := "()I" } : Jvm.MethodName) prog_1_method_42_code (3 : Nat) (Option.some Jvm.ClassFile.FieldType.int) ∈ wq_TB := tb_3 169 rfl rfl
theorem tw_700 : Jvm.Cond.methodLink "WellPipes" (289 : Nat) ({ cls := "WellPipes$Well", name := "howManyLaid", desc := "()I" } : Jvm.MethodName) ∈ wq_TB := tb_3 170 rfl rfl
theorem tw_701 : Jvm.Cond.instanceMethod ({ cls := "WellPipes$Well", name := "howManyLaid", desc := "()I" } : Jvm.MethodName) ∈ wq_TB := tb_3 171 rfl rfl
theorem tw_702 : Jvm.Cond.selects "WellPipes$Well" ({ cls := "WellPipes$Well", name := "howManyLaid", desc := "()I" } : Jvm.MethodName) ({ cls := "WellPipes$Well", name := "howManyLaid", desc := "()I" } : Jvm.MethodName) ∈ wq_TB := tb_3 172 rfl rfl
theorem tw_703 : Jvm.Cond.code ({ cls := "WellPipes$Well", name := "howManyLaid", desc := "()I" } : Jvm.MethodName) prog_7_method_7_code (3 : Nat) (Option.some Jvm.ClassFile.FieldType.int) ∈ wq_TB := tb_3 173 rfl rfl
theorem tw_704 : Jvm.Cond.methodLink "WellPipes" (292 : Nat) ({ cls := "WellPipes$Well", name := "howManySections", desc := "()I" } : Jvm.MethodName) ∈ wq_TB := tb_3 174 rfl rfl
theorem tw_705 : Jvm.Cond.instanceMethod ({ cls := "WellPipes$Well", name := "howManySections", desc := "()I" } : Jvm.MethodName) ∈ wq_TB := tb_3 175 rfl rfl
theorem tw_706 : Jvm.Cond.selects "WellPipes$Well" ({ cls := "WellPipes$Well", name := "howManySections", desc := "()I" } : Jvm.MethodName) ({ cls := "WellPipes$Well", name := "howManySections", desc := "()I" } : Jvm.MethodName) ∈ wq_TB := tb_3 176 rfl rfl
theorem tw_707 : Jvm.Cond.code ({ cls := "WellPipes$Well", name := "howManySections", desc := "()I" } : Jvm.MethodName) prog_7_method_22_code (3 : Nat) (Option.some Jvm.ClassFile.FieldType.int) ∈ wq_TB := tb_3 177 rfl rfl
theorem tw_708 : Jvm.Cond.methodLink "WellPipesLaw" (152 : Nat) ({ cls := "WellPipes", name := "status", desc := "()I" } : Jvm.MethodName) ∈ wq_TB := tb_3 178 rfl rfl
theorem tw_709 : Jvm.Cond.instanceMethod ({ cls := "WellPipes", name := "status", desc := "()I" } : Jvm.MethodName) ∈ wq_TB := tb_3 179 rfl rfl
theorem tw_710 : Jvm.Cond.selects "WellPipes" ({ cls := "WellPipes", name := "status", desc := "()I" } : Jvm.MethodName) ({ cls := "WellPipes", name := "status", desc := "()I" } : Jvm.MethodName) ∈ wq_TB := tb_3 180 rfl rfl
theorem tw_711 : Jvm.Cond.code ({ cls := "WellPipes", name := "status", desc := "()I" } : Jvm.MethodName) prog_1_method_35_code (1 : Nat) (Option.some Jvm.ClassFile.FieldType.int) ∈ wq_TB := tb_3 181 rfl rfl
theorem tw_714 : Jvm.Cond.methodLink "WellPipesLaw" (12 : Nat) ({ cls := "WellPipesModel", name := "<init>", desc := "()V" } : Jvm.MethodName) ∈ wq_TB := tb_3 184 rfl rfl
theorem tw_715 : Jvm.Cond.instanceMethod ({ cls := "WellPipesModel", name := "<init>", desc := "()V" } : Jvm.MethodName) ∈ wq_TB := tb_3 185 rfl rfl
theorem tw_716 : Jvm.Cond.code ({ cls := "WellPipesModel", name := "<init>", desc := "()V" } : Jvm.MethodName) prog_9_method_1_code (1 : Nat) (Option.none : Option Jvm.ClassFile.FieldType) ∈ wq_TB := tb_3 186 rfl rfl
theorem tw_717 : Jvm.Cond.methodLink "WellPipesModel" (1 : Nat) ({ cls := "java/lang/Object", name := "<init>", desc := "()V" } : Jvm.MethodName) ∈ wq_TB := tb_3 187 rfl rfl
theorem tw_718 : Jvm.Cond.fieldLink "WellPipesModel" (53 : Nat) "WellPipesModel" "thrown" "I" ∈ wq_TB := tb_3 188 rfl rfl
theorem tw_719 : Jvm.Cond.fieldLink "WellPipesModel" (57 : Nat) "WellPipesModel" "status" "I" ∈ wq_TB := tb_3 189 rfl rfl
theorem tw_720 : Jvm.Cond.fieldLink "WellPipesModel" (7 : Nat) "WellPipesModel" "lane" "[I" ∈ wq_TB := tb_3 190 rfl rfl
theorem tw_721 : Jvm.Cond.fieldLink "WellPipesModel" (13 : Nat) "WellPipesModel" "many" "[I" ∈ wq_TB := tb_3 191 rfl rfl
theorem tw_722 : Jvm.Cond.fieldLink "WellPipesModel" (16 : Nat) "WellPipesModel" "item" "[I" ∈ wq_TB := tb_3 192 rfl rfl
theorem tw_723 : Jvm.Cond.fieldLink "WellPipesModel" (19 : Nat) "WellPipesModel" "well" "[I" ∈ wq_TB := tb_3 193 rfl rfl
theorem tw_724 : Jvm.Cond.fieldLink "WellPipesModel" (22 : Nat) "WellPipesModel" "fresh" "[I" ∈ wq_TB := tb_3 194 rfl rfl
theorem tw_725 : Jvm.Cond.fieldLink "WellPipesModel" (25 : Nat) "WellPipesModel" "then" "[I" ∈ wq_TB := tb_3 195 rfl rfl
theorem tw_726 : Jvm.Cond.fieldLink "WellPipesModel" (28 : Nat) "WellPipesModel" "was" "[I" ∈ wq_TB := tb_3 196 rfl rfl
theorem tw_727 : Jvm.Cond.fieldLink "WellPipesModel" (152 : Nat) "WellPipesModel" "acts" "I" ∈ wq_TB := tb_3 197 rfl rfl
theorem tw_728 : Jvm.Cond.fieldLink "WellPipesModel" (31 : Nat) "WellPipesModel" "tape" "[I" ∈ wq_TB := tb_3 198 rfl rfl
theorem tw_729 : Jvm.Cond.fieldLink "WellPipesModel" (80 : Nat) "WellPipesModel" "taped" "I" ∈ wq_TB := tb_3 199 rfl rfl
theorem tw_730 : Jvm.Cond.fieldLink "WellPipesModel" (93 : Nat) "WellPipesModel" "cursor" "I" ∈ wq_TB := tb_3 200 rfl rfl
theorem tw_731 : Jvm.Cond.fieldLink "WellPipesModel" (87 : Nat) "WellPipesModel" "start" "I" ∈ wq_TB := tb_3 201 rfl rfl
theorem tw_732 : Jvm.Cond.fieldLink "WellPipesModel" (108 : Nat) "WellPipesModel" "token" "I" ∈ wq_TB := tb_3 202 rfl rfl
theorem tw_733 : Jvm.Cond.fieldLink "WellPipesModel" (97 : Nat) "WellPipesModel" "value" "I" ∈ wq_TB := tb_3 203 rfl rfl
theorem tw_734 : Jvm.Cond.fieldLink "WellPipesModel" (84 : Nat) "WellPipesModel" "fault" "I" ∈ wq_TB := tb_3 204 rfl rfl
theorem tw_735 : Jvm.Cond.fieldLink "WellPipesModel" (90 : Nat) "WellPipesModel" "faultAt" "I" ∈ wq_TB := tb_3 205 rfl rfl
theorem tw_736 : Jvm.Cond.fieldLink "WellPipesModel" (122 : Nat) "WellPipesModel" "latest" "I" ∈ wq_TB := tb_3 206 rfl rfl
theorem tw_737 : Jvm.Cond.fieldLink "WellPipesModel" (34 : Nat) "WellPipesModel" "table" "[I" ∈ wq_TB := tb_3 207 rfl rfl
theorem tw_738 : Jvm.Cond.fieldLink "WellPipesModel" (37 : Nat) "WellPipesModel" "string" "[I" ∈ wq_TB := tb_3 208 rfl rfl
theorem tw_739 : Jvm.Cond.fieldLink "WellPipesModel" (40 : Nat) "WellPipesModel" "worth" "[I" ∈ wq_TB := tb_3 209 rfl rfl
theorem tw_740 : Jvm.Cond.fieldLink "WellPipesModel" (43 : Nat) "WellPipesModel" "isKept" "[Z" ∈ wq_TB := tb_3 210 rfl rfl
theorem tw_741 : Jvm.Cond.fieldLink "WellPipesModel" (47 : Nat) "WellPipesModel" "kept" "[I" ∈ wq_TB := tb_3 211 rfl rfl
theorem tw_742 : Jvm.Cond.fieldLink "WellPipesModel" (50 : Nat) "WellPipesModel" "trace" "[I" ∈ wq_TB := tb_3 212 rfl rfl
theorem tw_743 : Jvm.Cond.fieldLink "WellPipesModel" (286 : Nat) "WellPipesModel" "traced" "I" ∈ wq_TB := tb_3 213 rfl rfl
theorem tw_798 : Jvm.Cond.methodLink "WellPipesLaw" (17 : Nat) ({ cls := "WellPipesModel", name := "row", desc := "(III)I" } : Jvm.MethodName) ∈ wq_TB := tb_4 28 rfl rfl
theorem tw_799 : Jvm.Cond.instanceMethod ({ cls := "WellPipesModel", name := "row", desc := "(III)I" } : Jvm.MethodName) ∈ wq_TB := tb_4 29 rfl rfl
theorem tw_800 : Jvm.Cond.selects "WellPipesModel" ({ cls := "WellPipesModel", name := "row", desc := "(III)I" } : Jvm.MethodName) ({ cls := "WellPipesModel", name := "row", desc := "(III)I" } : Jvm.MethodName) ∈ wq_TB := tb_4 30 rfl rfl
theorem tw_801 : Jvm.Cond.code ({ cls := "WellPipesModel", name := "row", desc := "(III)I" } : Jvm.MethodName) prog_9_method_6_code (5 : Nat) (Option.some Jvm.ClassFile.FieldType.int) ∈ wq_TB := tb_4 31 rfl rfl
theorem tw_802 : Jvm.Cond.methodLink "WellPipesModel" (67 : Nat) ({ cls := "WellPipesModel", name := "isRow", desc := "(I)Z" } : Jvm.MethodName) ∈ wq_TB := tb_4 32 rfl rfl
theorem tw_803 : Jvm.Cond.static ({ cls := "WellPipesModel", name := "isRow", desc := "(I)Z" } : Jvm.MethodName) ∈ wq_TB := tb_4 33 rfl rfl
theorem tw_804 : Jvm.Cond.code ({ cls := "WellPipesModel", name := "isRow", desc := "(I)Z" } : Jvm.MethodName) prog_9_method_5_code (1 : Nat) (Option.some Jvm.ClassFile.FieldType.boolean) ∈ wq_TB := tb_4 34 rfl rfl
theorem tw_805 : Jvm.Cond.constantLong "WellPipesModel" (61 : Nat) (7 : Int64) ∈ wq_TB := tb_4 35 rfl rfl
theorem tw_806 : Jvm.Cond.methodLink "WellPipesModel" (63 : Nat) ({ cls := "WellPipesModel", name := "in", desc := "(JJJ)Z" } : Jvm.MethodName) ∈ wq_TB := tb_4 36 rfl rfl
theorem tw_807 : Jvm.Cond.static ({ cls := "WellPipesModel", name := "in", desc := "(JJJ)Z" } : Jvm.MethodName) ∈ wq_TB := tb_4 37 rfl rfl
theorem tw_808 : Jvm.Cond.code ({ cls := "WellPipesModel", name := "in", desc := "(JJJ)Z" } : Jvm.MethodName) prog_9_method_3_code (6 : Nat) (Option.some Jvm.ClassFile.FieldType.boolean) ∈ wq_TB := tb_4 38 rfl rfl
theorem tw_809 : Jvm.Cond.constantLong "WellPipesModel" (71 : Nat) (2 : Int64) ∈ wq_TB := tb_4 39 rfl rfl
theorem tw_810 : Jvm.Cond.constant "WellPipesModel" (73 : Nat) (-1000001 : Int32) ∈ wq_TB := tb_4 40 rfl rfl
theorem tw_811 : Jvm.Cond.methodLink "WellPipesModel" (74 : Nat) ({ cls := "WellPipesModel", name := "finding", desc := "(I)I" } : Jvm.MethodName) ∈ wq_TB := tb_4 41 rfl rfl
theorem tw_813 : Jvm.Cond.instanceMethod ({ cls := "WellPipesModel", name := "finding", desc := "(I)I" } : Jvm.MethodName) ∈ wq_TB := tb_4 43 rfl rfl
theorem tw_814 : Jvm.Cond.code ({ cls := "WellPipesModel", name := "finding", desc := "(I)I" } : Jvm.MethodName) prog_9_method_4_code (2 : Nat) (Option.some Jvm.ClassFile.FieldType.int) ∈ wq_TB := tb_4 44 rfl rfl
theorem tw_815 : Jvm.Cond.constant "WellPipesModel" (60 : Nat) (-1000010 : Int32) ∈ wq_TB := tb_4 45 rfl rfl
theorem tw_816 : Jvm.Cond.methodLink "WellPipesLaw" (21 : Nat) ({ cls := "WellPipesModel", name := "set", desc := "(III)I" } : Jvm.MethodName) ∈ wq_TB := tb_4 46 rfl rfl
theorem tw_817 : Jvm.Cond.instanceMethod ({ cls := "WellPipesModel", name := "set", desc := "(III)I" } : Jvm.MethodName) ∈ wq_TB := tb_4 47 rfl rfl
theorem tw_818 : Jvm.Cond.selects "WellPipesModel" ({ cls := "WellPipesModel", name := "set", desc := "(III)I" } : Jvm.MethodName) ({ cls := "WellPipesModel", name := "set", desc := "(III)I" } : Jvm.MethodName) ∈ wq_TB := tb_4 48 rfl rfl
theorem tw_819 : Jvm.Cond.code ({ cls := "WellPipesModel", name := "set", desc := "(III)I" } : Jvm.MethodName) prog_9_method_7_code (4 : Nat) (Option.some Jvm.ClassFile.FieldType.int) ∈ wq_TB := tb_4 49 rfl rfl
theorem tw_820 : Jvm.Cond.methodLink "WellPipesLaw" (26 : Nat) ({ cls := "WellPipesModel", name := "copy", desc := "(IIIII)I" } : Jvm.MethodName) ∈ wq_TB := tb_4 50 rfl rfl
theorem tw_821 : Jvm.Cond.instanceMethod ({ cls := "WellPipesModel", name := "copy", desc := "(IIIII)I" } : Jvm.MethodName) ∈ wq_TB := tb_4 51 rfl rfl
theorem tw_822 : Jvm.Cond.selects "WellPipesModel" ({ cls := "WellPipesModel", name := "copy", desc := "(IIIII)I" } : Jvm.MethodName) ({ cls := "WellPipesModel", name := "copy", desc := "(IIIII)I" } : Jvm.MethodName) ∈ wq_TB := tb_4 52 rfl rfl
theorem tw_823 : Jvm.Cond.code ({ cls := "WellPipesModel", name := "copy", desc := "(IIIII)I" } : Jvm.MethodName) prog_9_method_8_code (9 : Nat) (Option.some Jvm.ClassFile.FieldType.int) ∈ wq_TB := tb_4 53 rfl rfl
theorem tw_824 : Jvm.Cond.methodLink "WellPipesLaw" (31 : Nat) ({ cls := "WellPipesModel", name := "drop", desc := "(I)I" } : Jvm.MethodName) ∈ wq_TB := tb_4 54 rfl rfl
theorem tw_825 : Jvm.Cond.instanceMethod ({ cls := "WellPipesModel", name := "drop", desc := "(I)I" } : Jvm.MethodName) ∈ wq_TB := tb_4 55 rfl rfl
theorem tw_826 : Jvm.Cond.selects "WellPipesModel" ({ cls := "WellPipesModel", name := "drop", desc := "(I)I" } : Jvm.MethodName) ({ cls := "WellPipesModel", name := "drop", desc := "(I)I" } : Jvm.MethodName) ∈ wq_TB := tb_4 56 rfl rfl
theorem tw_827 : Jvm.Cond.code ({ cls := "WellPipesModel", name := "drop", desc := "(I)I" } : Jvm.MethodName) prog_9_method_9_code (2 : Nat) (Option.some Jvm.ClassFile.FieldType.int) ∈ wq_TB := tb_4 57 rfl rfl
theorem tw_828 : Jvm.Cond.methodLink "WellPipesLaw" (35 : Nat) ({ cls := "WellPipesModel", name := "feed", desc := "(I)I" } : Jvm.MethodName) ∈ wq_TB := tb_4 58 rfl rfl
theorem tw_829 : Jvm.Cond.instanceMethod ({ cls := "WellPipesModel", name := "feed", desc := "(I)I" } : Jvm.MethodName) ∈ wq_TB := tb_4 59 rfl rfl
theorem tw_830 : Jvm.Cond.selects "WellPipesModel" ({ cls := "WellPipesModel", name := "feed", desc := "(I)I" } : Jvm.MethodName) ({ cls := "WellPipesModel", name := "feed", desc := "(I)I" } : Jvm.MethodName) ∈ wq_TB := tb_4 60 rfl rfl
theorem tw_831 : Jvm.Cond.code ({ cls := "WellPipesModel", name := "feed", desc := "(I)I" } : Jvm.MethodName) prog_9_method_10_code (2 : Nat) (Option.some Jvm.ClassFile.FieldType.int) ∈ wq_TB := tb_4 61 rfl rfl
theorem tw_832 : Jvm.Cond.constantLong "WellPipesModel" (78 : Nat) (255 : Int64) ∈ wq_TB := tb_4 62 rfl rfl
theorem tw_833 : Jvm.Cond.constant "WellPipesModel" (83 : Nat) (-1000003 : Int32) ∈ wq_TB := tb_4 63 rfl rfl
theorem tw_834 : Jvm.Cond.methodLink "WellPipesLaw" (44 : Nat) ({ cls := "WellPipesModel", name := "fault", desc := "()I" } : Jvm.MethodName) ∈ wq_TB := tb_4 64 rfl rfl
theorem tw_835 : Jvm.Cond.instanceMethod ({ cls := "WellPipesModel", name := "fault", desc := "()I" } : Jvm.MethodName) ∈ wq_TB := tb_4 65 rfl rfl
theorem tw_836 : Jvm.Cond.selects "WellPipesModel" ({ cls := "WellPipesModel", name := "fault", desc := "()I" } : Jvm.MethodName) ({ cls := "WellPipesModel", name := "fault", desc := "()I" } : Jvm.MethodName) ∈ wq_TB := tb_4 66 rfl rfl
theorem tw_837 : Jvm.Cond.code ({ cls := "WellPipesModel", name := "fault", desc := "()I" } : Jvm.MethodName) prog_9_method_19_code (1 : Nat) (Option.some Jvm.ClassFile.FieldType.int) ∈ wq_TB := tb_4 67 rfl rfl
theorem tw_838 : Jvm.Cond.methodLink "WellPipesLaw" (40 : Nat) ({ cls := "WellPipesModel", name := "well", desc := "()I" } : Jvm.MethodName) ∈ wq_TB := tb_4 68 rfl rfl
theorem tw_839 : Jvm.Cond.instanceMethod ({ cls := "WellPipesModel", name := "well", desc := "()I" } : Jvm.MethodName) ∈ wq_TB := tb_4 69 rfl rfl
theorem tw_840 : Jvm.Cond.selects "WellPipesModel" ({ cls := "WellPipesModel", name := "well", desc := "()I" } : Jvm.MethodName) ({ cls := "WellPipesModel", name := "well", desc := "()I" } : Jvm.MethodName) ∈ wq_TB := tb_4 70 rfl rfl
theorem tw_841 : Jvm.Cond.code ({ cls := "WellPipesModel", name := "well", desc := "()I" } : Jvm.MethodName) prog_9_method_23_code (2 : Nat) (Option.some Jvm.ClassFile.FieldType.int) ∈ wq_TB := tb_4 71 rfl rfl
theorem tw_842 : Jvm.Cond.methodLink "WellPipesModel" (135 : Nat) ({ cls := "WellPipesModel", name := "begin", desc := "()V" } : Jvm.MethodName) ∈ wq_TB := tb_4 72 rfl rfl
theorem tw_844 : Jvm.Cond.instanceMethod ({ cls := "WellPipesModel", name := "begin", desc := "()V" } : Jvm.MethodName) ∈ wq_TB := tb_4 74 rfl rfl
theorem tw_845 : Jvm.Cond.code ({ cls := "WellPipesModel", name := "begin", desc := "()V" } : Jvm.MethodName) prog_9_method_17_code (1 : Nat) (Option.none : Option Jvm.ClassFile.FieldType) ∈ wq_TB := tb_4 75 rfl rfl
theorem tw_846 : Jvm.Cond.methodLink "WellPipesModel" (115 : Nat) ({ cls := "WellPipesModel", name := "nextToken", desc := "()V" } : Jvm.MethodName) ∈ wq_TB := tb_4 76 rfl rfl
theorem tw_848 : Jvm.Cond.instanceMethod ({ cls := "WellPipesModel", name := "nextToken", desc := "()V" } : Jvm.MethodName) ∈ wq_TB := tb_4 78 rfl rfl
theorem tw_849 : Jvm.Cond.code ({ cls := "WellPipesModel", name := "nextToken", desc := "()V" } : Jvm.MethodName) prog_9_method_12_code (1 : Nat) (Option.none : Option Jvm.ClassFile.FieldType) ∈ wq_TB := tb_4 79 rfl rfl
theorem tw_850 : Jvm.Cond.constant "WellPipesModel" (96 : Nat) (-1000000 : Int32) ∈ wq_TB := tb_4 80 rfl rfl
theorem tw_851 : Jvm.Cond.constantLong "WellPipesModel" (100 : Nat) (97 : Int64) ∈ wq_TB := tb_4 81 rfl rfl
theorem tw_852 : Jvm.Cond.constantLong "WellPipesModel" (102 : Nat) (122 : Int64) ∈ wq_TB := tb_4 82 rfl rfl
theorem tw_853 : Jvm.Cond.constantLong "WellPipesModel" (104 : Nat) (48 : Int64) ∈ wq_TB := tb_4 83 rfl rfl
theorem tw_854 : Jvm.Cond.constantLong "WellPipesModel" (106 : Nat) (57 : Int64) ∈ wq_TB := tb_4 84 rfl rfl
theorem tw_855 : Jvm.Cond.methodLink "WellPipesModel" (138 : Nat) ({ cls := "WellPipesModel", name := "isLetter", desc := "(I)Z" } : Jvm.MethodName) ∈ wq_TB := tb_4 85 rfl rfl
theorem tw_857 : Jvm.Cond.instanceMethod ({ cls := "WellPipesModel", name := "isLetter", desc := "(I)Z" } : Jvm.MethodName) ∈ wq_TB := tb_4 87 rfl rfl
theorem tw_858 : Jvm.Cond.code ({ cls := "WellPipesModel", name := "isLetter", desc := "(I)Z" } : Jvm.MethodName) prog_9_method_14_code (2 : Nat) (Option.some Jvm.ClassFile.FieldType.boolean) ∈ wq_TB := tb_4 88 rfl rfl
theorem tw_859 : Jvm.Cond.methodLink "WellPipesModel" (118 : Nat) ({ cls := "WellPipesModel", name := "must", desc := "(Z)V" } : Jvm.MethodName) ∈ wq_TB := tb_4 89 rfl rfl
theorem tw_861 : Jvm.Cond.instanceMethod ({ cls := "WellPipesModel", name := "must", desc := "(Z)V" } : Jvm.MethodName) ∈ wq_TB := tb_4 91 rfl rfl
theorem tw_862 : Jvm.Cond.code ({ cls := "WellPipesModel", name := "must", desc := "(Z)V" } : Jvm.MethodName) prog_9_method_13_code (2 : Nat) (Option.none : Option Jvm.ClassFile.FieldType) ∈ wq_TB := tb_4 92 rfl rfl
theorem tw_863 : Jvm.Cond.methodLink "WellPipesModel" (111 : Nat) ({ cls := "WellPipesModel", name := "bad", desc := "(I)V" } : Jvm.MethodName) ∈ wq_TB := tb_4 93 rfl rfl
theorem tw_865 : Jvm.Cond.instanceMethod ({ cls := "WellPipesModel", name := "bad", desc := "(I)V" } : Jvm.MethodName) ∈ wq_TB := tb_4 95 rfl rfl
theorem tw_866 : Jvm.Cond.code ({ cls := "WellPipesModel", name := "bad", desc := "(I)V" } : Jvm.MethodName) prog_9_method_11_code (2 : Nat) (Option.none : Option Jvm.ClassFile.FieldType) ∈ wq_TB := tb_4 96 rfl rfl
theorem tw_867 : Jvm.Cond.methodLink "WellPipesModel" (128 : Nat) ({ cls := "WellPipesModel", name := "number", desc := "(II)I" } : Jvm.MethodName) ∈ wq_TB := tb_4 97 rfl rfl
theorem tw_869 : Jvm.Cond.instanceMethod ({ cls := "WellPipesModel", name := "number", desc := "(II)I" } : Jvm.MethodName) ∈ wq_TB := tb_4 99 rfl rfl
theorem tw_870 : Jvm.Cond.code ({ cls := "WellPipesModel", name := "number", desc := "(II)I" } : Jvm.MethodName) prog_9_method_15_code (4 : Nat) (Option.some Jvm.ClassFile.FieldType.int) ∈ wq_TB := tb_4 100 rfl rfl
theorem tw_871 : Jvm.Cond.methodLink "WellPipesModel" (132 : Nat) ({ cls := "WellPipesModel", name := "mustSign", desc := "(I)V" } : Jvm.MethodName) ∈ wq_TB := tb_4 101 rfl rfl
theorem tw_873 : Jvm.Cond.instanceMethod ({ cls := "WellPipesModel", name := "mustSign", desc := "(I)V" } : Jvm.MethodName) ∈ wq_TB := tb_4 103 rfl rfl
theorem tw_874 : Jvm.Cond.code ({ cls := "WellPipesModel", name := "mustSign", desc := "(I)V" } : Jvm.MethodName) prog_9_method_16_code (2 : Nat) (Option.none : Option Jvm.ClassFile.FieldType) ∈ wq_TB := tb_4 104 rfl rfl
theorem tw_875 : Jvm.Cond.methodLink "WellPipesModel" (141 : Nat) ({ cls := "WellPipesModel", name := "isSort", desc := "()Z" } : Jvm.MethodName) ∈ wq_TB := tb_4 105 rfl rfl
theorem tw_877 : Jvm.Cond.instanceMethod ({ cls := "WellPipesModel", name := "isSort", desc := "()Z" } : Jvm.MethodName) ∈ wq_TB := tb_4 107 rfl rfl
theorem tw_878 : Jvm.Cond.code ({ cls := "WellPipesModel", name := "isSort", desc := "()Z" } : Jvm.MethodName) prog_9_method_21_code (1 : Nat) (Option.some Jvm.ClassFile.FieldType.boolean) ∈ wq_TB := tb_4 108 rfl rfl
theorem tw_879 : Jvm.Cond.methodLink "WellPipesModel" (125 : Nat) ({ cls := "WellPipesModel", name := "kindBy", desc := "(I)I" } : Jvm.MethodName) ∈ wq_TB := tb_4 109 rfl rfl
theorem tw_880 : Jvm.Cond.static ({ cls := "WellPipesModel", name := "kindBy", desc := "(I)I" } : Jvm.MethodName) ∈ wq_TB := tb_4 110 rfl rfl
theorem tw_881 : Jvm.Cond.code ({ cls := "WellPipesModel", name := "kindBy", desc := "(I)I" } : Jvm.MethodName) prog_9_method_20_code (1 : Nat) (Option.some Jvm.ClassFile.FieldType.int) ∈ wq_TB := tb_4 111 rfl rfl
theorem tw_882 : Jvm.Cond.methodLink "WellPipesModel" (145 : Nat) ({ cls := "WellPipesModel", name := "readGrade", desc := "()V" } : Jvm.MethodName) ∈ wq_TB := tb_4 112 rfl rfl
theorem tw_884 : Jvm.Cond.instanceMethod ({ cls := "WellPipesModel", name := "readGrade", desc := "()V" } : Jvm.MethodName) ∈ wq_TB := tb_4 114 rfl rfl
theorem tw_885 : Jvm.Cond.code ({ cls := "WellPipesModel", name := "readGrade", desc := "()V" } : Jvm.MethodName) prog_9_method_22_code (8 : Nat) (Option.none : Option Jvm.ClassFile.FieldType) ∈ wq_TB := tb_4 115 rfl rfl
theorem tw_886 : Jvm.Cond.methodLink "WellPipesModel" (148 : Nat) ({ cls := "WellPipesModel", name := "failed", desc := "()Z" } : Jvm.MethodName) ∈ wq_TB := tb_4 116 rfl rfl
theorem tw_888 : Jvm.Cond.instanceMethod ({ cls := "WellPipesModel", name := "failed", desc := "()Z" } : Jvm.MethodName) ∈ wq_TB := tb_4 118 rfl rfl
theorem tw_889 : Jvm.Cond.code ({ cls := "WellPipesModel", name := "failed", desc := "()Z" } : Jvm.MethodName) prog_9_method_18_code (1 : Nat) (Option.some Jvm.ClassFile.FieldType.boolean) ∈ wq_TB := tb_4 119 rfl rfl
theorem tw_890 : Jvm.Cond.constant "WellPipesModel" (151 : Nat) (-1000100 : Int32) ∈ wq_TB := tb_4 120 rfl rfl
theorem tw_891 : Jvm.Cond.methodLink "WellPipesLaw" (53 : Nat) ({ cls := "WellPipesModel", name := "lay", desc := "(II)I" } : Jvm.MethodName) ∈ wq_TB := tb_4 121 rfl rfl
theorem tw_892 : Jvm.Cond.instanceMethod ({ cls := "WellPipesModel", name := "lay", desc := "(II)I" } : Jvm.MethodName) ∈ wq_TB := tb_4 122 rfl rfl
theorem tw_893 : Jvm.Cond.selects "WellPipesModel" ({ cls := "WellPipesModel", name := "lay", desc := "(II)I" } : Jvm.MethodName) ({ cls := "WellPipesModel", name := "lay", desc := "(II)I" } : Jvm.MethodName) ∈ wq_TB := tb_4 123 rfl rfl
theorem tw_894 : Jvm.Cond.code ({ cls := "WellPipesModel", name := "lay", desc := "(II)I" } : Jvm.MethodName) prog_9_method_48_code (4 : Nat) (Option.some Jvm.ClassFile.FieldType.int) ∈ wq_TB := tb_4 124 rfl rfl
theorem tw_895 : Jvm.Cond.methodLink "WellPipesModel" (201 : Nat) ({ cls := "WellPipesModel", name := "isStep", desc := "(I)Z" } : Jvm.MethodName) ∈ wq_TB := tb_4 125 rfl rfl
theorem tw_897 : Jvm.Cond.instanceMethod ({ cls := "WellPipesModel", name := "isStep", desc := "(I)Z" } : Jvm.MethodName) ∈ wq_TB := tb_4 127 rfl rfl
theorem tw_898 : Jvm.Cond.code ({ cls := "WellPipesModel", name := "isStep", desc := "(I)Z" } : Jvm.MethodName) prog_9_method_25_code (2 : Nat) (Option.some Jvm.ClassFile.FieldType.boolean) ∈ wq_TB := tb_4 128 rfl rfl
theorem tw_899 : Jvm.Cond.methodLink "WellPipesModel" (204 : Nat) ({ cls := "WellPipesModel", name := "isGrade", desc := "(I)Z" } : Jvm.MethodName) ∈ wq_TB := tb_4 129 rfl rfl
theorem tw_901 : Jvm.Cond.instanceMethod ({ cls := "WellPipesModel", name := "isGrade", desc := "(I)Z" } : Jvm.MethodName) ∈ wq_TB := tb_4 131 rfl rfl
theorem tw_902 : Jvm.Cond.code ({ cls := "WellPipesModel", name := "isGrade", desc := "(I)Z" } : Jvm.MethodName) prog_9_method_26_code (2 : Nat) (Option.some Jvm.ClassFile.FieldType.boolean) ∈ wq_TB := tb_4 132 rfl rfl
theorem tw_903 : Jvm.Cond.constant "WellPipesModel" (207 : Nat) (-1000002 : Int32) ∈ wq_TB := tb_4 133 rfl rfl
theorem tw_904 : Jvm.Cond.methodLink "WellPipesModel" (208 : Nat) ({ cls := "WellPipesModel", name := "keep", desc := "()V" } : Jvm.MethodName) ∈ wq_TB := tb_4 134 rfl rfl
theorem tw_906 : Jvm.Cond.instanceMethod ({ cls := "WellPipesModel", name := "keep", desc := "()V" } : Jvm.MethodName) ∈ wq_TB := tb_4 136 rfl rfl
theorem tw_907 : Jvm.Cond.code ({ cls := "WellPipesModel", name := "keep", desc := "()V" } : Jvm.MethodName) prog_9_method_47_code (2 : Nat) (Option.none : Option Jvm.ClassFile.FieldType) ∈ wq_TB := tb_4 137 rfl rfl
theorem tw_908 : Jvm.Cond.methodLink "WellPipesLaw" (57 : Nat) ({ cls := "WellPipesModel", name := "layBest", desc := "()I" } : Jvm.MethodName) ∈ wq_TB := tb_4 138 rfl rfl
theorem tw_909 : Jvm.Cond.instanceMethod ({ cls := "WellPipesModel", name := "layBest", desc := "()I" } : Jvm.MethodName) ∈ wq_TB := tb_4 139 rfl rfl
theorem tw_910 : Jvm.Cond.selects "WellPipesModel" ({ cls := "WellPipesModel", name := "layBest", desc := "()I" } : Jvm.MethodName) ({ cls := "WellPipesModel", name := "layBest", desc := "()I" } : Jvm.MethodName) ∈ wq_TB := tb_4 140 rfl rfl
theorem tw_911 : Jvm.Cond.code ({ cls := "WellPipesModel", name := "layBest", desc := "()I" } : Jvm.MethodName) prog_9_method_49_code (2 : Nat) (Option.some Jvm.ClassFile.FieldType.int) ∈ wq_TB := tb_4 141 rfl rfl
theorem tw_912 : Jvm.Cond.methodLink "WellPipesModel" (211 : Nat) ({ cls := "WellPipesModel", name := "isThere", desc := "()Z" } : Jvm.MethodName) ∈ wq_TB := tb_4 142 rfl rfl
theorem tw_914 : Jvm.Cond.instanceMethod ({ cls := "WellPipesModel", name := "isThere", desc := "()Z" } : Jvm.MethodName) ∈ wq_TB := tb_4 144 rfl rfl
theorem tw_915 : Jvm.Cond.code ({ cls := "WellPipesModel", name := "isThere", desc := "()Z" } : Jvm.MethodName) prog_9_method_24_code (1 : Nat) (Option.some Jvm.ClassFile.FieldType.boolean) ∈ wq_TB := tb_4 145 rfl rfl
theorem tw_916 : Jvm.Cond.methodLink "WellPipesModel" (214 : Nat) ({ cls := "WellPipesModel", name := "laysBest", desc := "([II)I" } : Jvm.MethodName) ∈ wq_TB := tb_4 146 rfl rfl
theorem tw_918 : Jvm.Cond.instanceMethod ({ cls := "WellPipesModel", name := "laysBest", desc := "([II)I" } : Jvm.MethodName) ∈ wq_TB := tb_4 148 rfl rfl
theorem tw_919 : Jvm.Cond.code ({ cls := "WellPipesModel", name := "laysBest", desc := "([II)I" } : Jvm.MethodName) prog_9_method_46_code (11 : Nat) (Option.some Jvm.ClassFile.FieldType.int) ∈ wq_TB := tb_4 149 rfl rfl
theorem tw_920 : Jvm.Cond.methodLink "WellPipesModel" (190 : Nat) ({ cls := "WellPipesModel", name := "at", desc := "(IIII)I" } : Jvm.MethodName) ∈ wq_TB := tb_4 150 rfl rfl
theorem tw_921 : Jvm.Cond.static ({ cls := "WellPipesModel", name := "at", desc := "(IIII)I" } : Jvm.MethodName) ∈ wq_TB := tb_4 151 rfl rfl
theorem tw_922 : Jvm.Cond.code ({ cls := "WellPipesModel", name := "at", desc := "(IIII)I" } : Jvm.MethodName) prog_9_method_43_code (4 : Nat) (Option.some Jvm.ClassFile.FieldType.int) ∈ wq_TB := tb_4 152 rfl rfl
theorem tw_923 : Jvm.Cond.methodLink "WellPipesModel" (198 : Nat) ({ cls := "WellPipesModel", name := "leastAt", desc := "([IIIIII)I" } : Jvm.MethodName) ∈ wq_TB := tb_4 153 rfl rfl
theorem tw_925 : Jvm.Cond.instanceMethod ({ cls := "WellPipesModel", name := "leastAt", desc := "([IIIIII)I" } : Jvm.MethodName) ∈ wq_TB := tb_4 155 rfl rfl
theorem tw_926 : Jvm.Cond.code ({ cls := "WellPipesModel", name := "leastAt", desc := "([IIIIII)I" } : Jvm.MethodName) prog_9_method_45_code (10 : Nat) (Option.some Jvm.ClassFile.FieldType.int) ∈ wq_TB := tb_4 156 rfl rfl
theorem tw_927 : Jvm.Cond.constant "WellPipesModel" (189 : Nat) (1000000000 : Int32) ∈ wq_TB := tb_4 157 rfl rfl
theorem tw_928 : Jvm.Cond.methodLink "WellPipesModel" (194 : Nat) ({ cls := "WellPipesModel", name := "through", desc := "([IIIIII)I" } : Jvm.MethodName) ∈ wq_TB := tb_4 158 rfl rfl
theorem tw_930 : Jvm.Cond.instanceMethod ({ cls := "WellPipesModel", name := "through", desc := "([IIIIII)I" } : Jvm.MethodName) ∈ wq_TB := tb_4 160 rfl rfl
theorem tw_931 : Jvm.Cond.code ({ cls := "WellPipesModel", name := "through", desc := "([IIIIII)I" } : Jvm.MethodName) prog_9_method_44_code (11 : Nat) (Option.some Jvm.ClassFile.FieldType.int) ∈ wq_TB := tb_4 161 rfl rfl
theorem tw_932 : Jvm.Cond.methodLink "WellPipesModel" (155 : Nat) ({ cls := "WellPipesModel", name := "of", desc := "([III)I" } : Jvm.MethodName) ∈ wq_TB := tb_4 162 rfl rfl
theorem tw_933 : Jvm.Cond.static ({ cls := "WellPipesModel", name := "of", desc := "([III)I" } : Jvm.MethodName) ∈ wq_TB := tb_4 163 rfl rfl
theorem tw_934 : Jvm.Cond.code ({ cls := "WellPipesModel", name := "of", desc := "([III)I" } : Jvm.MethodName) prog_9_method_28_code (3 : Nat) (Option.some Jvm.ClassFile.FieldType.int) ∈ wq_TB := tb_4 164 rfl rfl
theorem tw_935 : Jvm.Cond.methodLink "WellPipesModel" (178 : Nat) ({ cls := "WellPipesModel", name := "wouldHold", desc := "([IIII)Z" } : Jvm.MethodName) ∈ wq_TB := tb_4 165 rfl rfl
theorem tw_936 : Jvm.Cond.static ({ cls := "WellPipesModel", name := "wouldHold", desc := "([IIII)Z" } : Jvm.MethodName) ∈ wq_TB := tb_4 166 rfl rfl
theorem tw_937 : Jvm.Cond.code ({ cls := "WellPipesModel", name := "wouldHold", desc := "([IIII)Z" } : Jvm.MethodName) prog_9_method_35_code (4 : Nat) (Option.some Jvm.ClassFile.FieldType.boolean) ∈ wq_TB := tb_4 167 rfl rfl
theorem tw_938 : Jvm.Cond.methodLink "WellPipesModel" (163 : Nat) ({ cls := "WellPipesModel", name := "bearsBurst", desc := "([II)I" } : Jvm.MethodName) ∈ wq_TB := tb_4 168 rfl rfl
theorem tw_939 : Jvm.Cond.static ({ cls := "WellPipesModel", name := "bearsBurst", desc := "([II)I" } : Jvm.MethodName) ∈ wq_TB := tb_4 169 rfl rfl
theorem tw_940 : Jvm.Cond.code ({ cls := "WellPipesModel", name := "bearsBurst", desc := "([II)I" } : Jvm.MethodName) prog_9_method_32_code (2 : Nat) (Option.some Jvm.ClassFile.FieldType.int) ∈ wq_TB := tb_4 170 rfl rfl
theorem tw_941 : Jvm.Cond.methodLink "WellPipesModel" (166 : Nat) ({ cls := "WellPipesModel", name := "burstLoad", desc := "([II)I" } : Jvm.MethodName) ∈ wq_TB := tb_4 171 rfl rfl
theorem tw_942 : Jvm.Cond.static ({ cls := "WellPipesModel", name := "burstLoad", desc := "([II)I" } : Jvm.MethodName) ∈ wq_TB := tb_4 172 rfl rfl
theorem tw_943 : Jvm.Cond.code ({ cls := "WellPipesModel", name := "burstLoad", desc := "([II)I" } : Jvm.MethodName) prog_9_method_29_code (3 : Nat) (Option.some Jvm.ClassFile.FieldType.int) ∈ wq_TB := tb_4 173 rfl rfl
theorem tw_944 : Jvm.Cond.methodLink "WellPipesModel" (169 : Nat) ({ cls := "WellPipesModel", name := "bearsCrush", desc := "([III)I" } : Jvm.MethodName) ∈ wq_TB := tb_4 174 rfl rfl
theorem tw_945 : Jvm.Cond.static ({ cls := "WellPipesModel", name := "bearsCrush", desc := "([III)I" } : Jvm.MethodName) ∈ wq_TB := tb_4 175 rfl rfl
theorem tw_946 : Jvm.Cond.code ({ cls := "WellPipesModel", name := "bearsCrush", desc := "([III)I" } : Jvm.MethodName) prog_9_method_34_code (5 : Nat) (Option.some Jvm.ClassFile.FieldType.int) ∈ wq_TB := tb_4 176 rfl rfl
theorem tw_947 : Jvm.Cond.methodLink "WellPipesModel" (159 : Nat) ({ cls := "WellPipesModel", name := "bearsPull", desc := "([II)I" } : Jvm.MethodName) ∈ wq_TB := tb_4 177 rfl rfl
theorem tw_948 : Jvm.Cond.static ({ cls := "WellPipesModel", name := "bearsPull", desc := "([II)I" } : Jvm.MethodName) ∈ wq_TB := tb_4 178 rfl rfl
theorem tw_949 : Jvm.Cond.code ({ cls := "WellPipesModel", name := "bearsPull", desc := "([II)I" } : Jvm.MethodName) prog_9_method_33_code (2 : Nat) (Option.some Jvm.ClassFile.FieldType.int) ∈ wq_TB := tb_4 179 rfl rfl
theorem tw_950 : Jvm.Cond.methodLink "WellPipesModel" (172 : Nat) ({ cls := "WellPipesModel", name := "crushLoad", desc := "([II)I" } : Jvm.MethodName) ∈ wq_TB := tb_4 180 rfl rfl
theorem tw_951 : Jvm.Cond.static ({ cls := "WellPipesModel", name := "crushLoad", desc := "([II)I" } : Jvm.MethodName) ∈ wq_TB := tb_4 181 rfl rfl
theorem tw_952 : Jvm.Cond.code ({ cls := "WellPipesModel", name := "crushLoad", desc := "([II)I" } : Jvm.MethodName) prog_9_method_30_code (2 : Nat) (Option.some Jvm.ClassFile.FieldType.int) ∈ wq_TB := tb_4 182 rfl rfl
theorem tw_953 : Jvm.Cond.methodLink "WellPipesModel" (217 : Nat) ({ cls := "WellPipesModel", name := "costOf", desc := "([I)I" } : Jvm.MethodName) ∈ wq_TB := tb_4 183 rfl rfl
theorem tw_954 : Jvm.Cond.static ({ cls := "WellPipesModel", name := "costOf", desc := "([I)I" } : Jvm.MethodName) ∈ wq_TB := tb_4 184 rfl rfl
theorem tw_955 : Jvm.Cond.code ({ cls := "WellPipesModel", name := "costOf", desc := "([I)I" } : Jvm.MethodName) prog_9_method_38_code (3 : Nat) (Option.some Jvm.ClassFile.FieldType.int) ∈ wq_TB := tb_4 185 rfl rfl
theorem tw_956 : Jvm.Cond.methodLink "WellPipesLaw" (61 : Nat) ({ cls := "WellPipesModel", name := "rule", desc := "(II)I" } : Jvm.MethodName) ∈ wq_TB := tb_4 186 rfl rfl
theorem tw_957 : Jvm.Cond.instanceMethod ({ cls := "WellPipesModel", name := "rule", desc := "(II)I" } : Jvm.MethodName) ∈ wq_TB := tb_4 187 rfl rfl
theorem tw_958 : Jvm.Cond.selects "WellPipesModel" ({ cls := "WellPipesModel", name := "rule", desc := "(II)I" } : Jvm.MethodName) ({ cls := "WellPipesModel", name := "rule", desc := "(II)I" } : Jvm.MethodName) ∈ wq_TB := tb_4 188 rfl rfl
theorem tw_959 : Jvm.Cond.code ({ cls := "WellPipesModel", name := "rule", desc := "(II)I" } : Jvm.MethodName) prog_9_method_50_code (6 : Nat) (Option.some Jvm.ClassFile.FieldType.int) ∈ wq_TB := tb_4 189 rfl rfl
theorem tw_960 : Jvm.Cond.constantLong "WellPipesModel" (221 : Nat) (20 : Int64) ∈ wq_TB := tb_4 190 rfl rfl
theorem tw_961 : Jvm.Cond.constantLong "WellPipesModel" (223 : Nat) (99 : Int64) ∈ wq_TB := tb_4 191 rfl rfl
theorem tw_962 : Jvm.Cond.constantLong "WellPipesModel" (225 : Nat) (3 : Int64) ∈ wq_TB := tb_4 192 rfl rfl
theorem tw_963 : Jvm.Cond.methodLink "WellPipesLaw" (65 : Nat) ({ cls := "WellPipesModel", name := "price", desc := "(II)I" } : Jvm.MethodName) ∈ wq_TB := tb_4 193 rfl rfl
theorem tw_964 : Jvm.Cond.instanceMethod ({ cls := "WellPipesModel", name := "price", desc := "(II)I" } : Jvm.MethodName) ∈ wq_TB := tb_4 194 rfl rfl
theorem tw_965 : Jvm.Cond.selects "WellPipesModel" ({ cls := "WellPipesModel", name := "price", desc := "(II)I" } : Jvm.MethodName) ({ cls := "WellPipesModel", name := "price", desc := "(II)I" } : Jvm.MethodName) ∈ wq_TB := tb_4 195 rfl rfl
theorem tw_966 : Jvm.Cond.code ({ cls := "WellPipesModel", name := "price", desc := "(II)I" } : Jvm.MethodName) prog_9_method_51_code (4 : Nat) (Option.some Jvm.ClassFile.FieldType.int) ∈ wq_TB := tb_4 196 rfl rfl
theorem tw_967 : Jvm.Cond.methodLink "WellPipesLaw" (48 : Nat) ({ cls := "WellPipesModel", name := "undo", desc := "()I" } : Jvm.MethodName) ∈ wq_TB := tb_4 197 rfl rfl
theorem tw_968 : Jvm.Cond.instanceMethod ({ cls := "WellPipesModel", name := "undo", desc := "()I" } : Jvm.MethodName) ∈ wq_TB := tb_4 198 rfl rfl
theorem tw_969 : Jvm.Cond.selects "WellPipesModel" ({ cls := "WellPipesModel", name := "undo", desc := "()I" } : Jvm.MethodName) ({ cls := "WellPipesModel", name := "undo", desc := "()I" } : Jvm.MethodName) ∈ wq_TB := tb_4 199 rfl rfl
theorem tw_970 : Jvm.Cond.code ({ cls := "WellPipesModel", name := "undo", desc := "()I" } : Jvm.MethodName) prog_9_method_52_code (2 : Nat) (Option.some Jvm.ClassFile.FieldType.int) ∈ wq_TB := tb_4 200 rfl rfl
theorem tw_971 : Jvm.Cond.methodLink "WellPipesLaw" (69 : Nat) ({ cls := "WellPipesModel", name := "grade", desc := "(II)I" } : Jvm.MethodName) ∈ wq_TB := tb_4 201 rfl rfl
theorem tw_972 : Jvm.Cond.instanceMethod ({ cls := "WellPipesModel", name := "grade", desc := "(II)I" } : Jvm.MethodName) ∈ wq_TB := tb_4 202 rfl rfl
theorem tw_973 : Jvm.Cond.selects "WellPipesModel" ({ cls := "WellPipesModel", name := "grade", desc := "(II)I" } : Jvm.MethodName) ({ cls := "WellPipesModel", name := "grade", desc := "(II)I" } : Jvm.MethodName) ∈ wq_TB := tb_4 203 rfl rfl
theorem tw_974 : Jvm.Cond.code ({ cls := "WellPipesModel", name := "grade", desc := "(II)I" } : Jvm.MethodName) prog_9_method_53_code (3 : Nat) (Option.some Jvm.ClassFile.FieldType.int) ∈ wq_TB := tb_4 204 rfl rfl
theorem tw_975 : Jvm.Cond.constantLong "WellPipesModel" (227 : Nat) (4 : Int64) ∈ wq_TB := tb_4 205 rfl rfl
theorem tw_976 : Jvm.Cond.methodLink "WellPipesLaw" (73 : Nat) ({ cls := "WellPipesModel", name := "step", desc := "(II)I" } : Jvm.MethodName) ∈ wq_TB := tb_4 206 rfl rfl
theorem tw_977 : Jvm.Cond.instanceMethod ({ cls := "WellPipesModel", name := "step", desc := "(II)I" } : Jvm.MethodName) ∈ wq_TB := tb_4 207 rfl rfl
theorem tw_978 : Jvm.Cond.selects "WellPipesModel" ({ cls := "WellPipesModel", name := "step", desc := "(II)I" } : Jvm.MethodName) ({ cls := "WellPipesModel", name := "step", desc := "(II)I" } : Jvm.MethodName) ∈ wq_TB := tb_4 208 rfl rfl
theorem tw_979 : Jvm.Cond.code ({ cls := "WellPipesModel", name := "step", desc := "(II)I" } : Jvm.MethodName) prog_9_method_54_code (3 : Nat) (Option.some Jvm.ClassFile.FieldType.int) ∈ wq_TB := tb_4 209 rfl rfl
theorem tw_980 : Jvm.Cond.methodLink "WellPipesModel" (175 : Nat) ({ cls := "WellPipesModel", name := "hangs", desc := "([II)I" } : Jvm.MethodName) ∈ wq_TB := tb_4 210 rfl rfl
theorem tw_981 : Jvm.Cond.static ({ cls := "WellPipesModel", name := "hangs", desc := "([II)I" } : Jvm.MethodName) ∈ wq_TB := tb_4 211 rfl rfl
theorem tw_982 : Jvm.Cond.code ({ cls := "WellPipesModel", name := "hangs", desc := "([II)I" } : Jvm.MethodName) prog_9_method_31_code (4 : Nat) (Option.some Jvm.ClassFile.FieldType.int) ∈ wq_TB := tb_4 212 rfl rfl
theorem tw_983 : Jvm.Cond.methodLink "WellPipesModel" (182 : Nat) ({ cls := "WellPipesModel", name := "holds", desc := "([II)Z" } : Jvm.MethodName) ∈ wq_TB := tb_4 213 rfl rfl
theorem tw_984 : Jvm.Cond.static ({ cls := "WellPipesModel", name := "holds", desc := "([II)Z" } : Jvm.MethodName) ∈ wq_TB := tb_4 214 rfl rfl
theorem tw_985 : Jvm.Cond.code ({ cls := "WellPipesModel", name := "holds", desc := "([II)Z" } : Jvm.MethodName) prog_9_method_36_code (2 : Nat) (Option.some Jvm.ClassFile.FieldType.boolean) ∈ wq_TB := tb_4 215 rfl rfl
theorem tw_986 : Jvm.Cond.methodLink "WellPipesModel" (186 : Nat) ({ cls := "WellPipesModel", name := "sectionOf", desc := "([II)I" } : Jvm.MethodName) ∈ wq_TB := tb_4 216 rfl rfl
theorem tw_987 : Jvm.Cond.static ({ cls := "WellPipesModel", name := "sectionOf", desc := "([II)I" } : Jvm.MethodName) ∈ wq_TB := tb_4 217 rfl rfl
theorem tw_988 : Jvm.Cond.code ({ cls := "WellPipesModel", name := "sectionOf", desc := "([II)I" } : Jvm.MethodName) prog_9_method_39_code (5 : Nat) (Option.some Jvm.ClassFile.FieldType.int) ∈ wq_TB := tb_4 218 rfl rfl
theorem tw_989 : Jvm.Cond.methodLink "WellPipesLaw" (77 : Nat) ({ cls := "WellPipesModel", name := "bears", desc := "(II)I" } : Jvm.MethodName) ∈ wq_TB := tb_4 219 rfl rfl
theorem tw_990 : Jvm.Cond.instanceMethod ({ cls := "WellPipesModel", name := "bears", desc := "(II)I" } : Jvm.MethodName) ∈ wq_TB := tb_4 220 rfl rfl
theorem tw_991 : Jvm.Cond.selects "WellPipesModel" ({ cls := "WellPipesModel", name := "bears", desc := "(II)I" } : Jvm.MethodName) ({ cls := "WellPipesModel", name := "bears", desc := "(II)I" } : Jvm.MethodName) ∈ wq_TB := tb_4 221 rfl rfl
theorem tw_992 : Jvm.Cond.code ({ cls := "WellPipesModel", name := "bears", desc := "(II)I" } : Jvm.MethodName) prog_9_method_55_code (4 : Nat) (Option.some Jvm.ClassFile.FieldType.int) ∈ wq_TB := tb_4 222 rfl rfl
theorem tw_993 : Jvm.Cond.methodLink "WellPipesLaw" (81 : Nat) ({ cls := "WellPipesModel", name := "stand", desc := "(I)I" } : Jvm.MethodName) ∈ wq_TB := tb_4 223 rfl rfl
theorem tw_994 : Jvm.Cond.instanceMethod ({ cls := "WellPipesModel", name := "stand", desc := "(I)I" } : Jvm.MethodName) ∈ wq_TB := tb_4 224 rfl rfl
theorem tw_995 : Jvm.Cond.selects "WellPipesModel" ({ cls := "WellPipesModel", name := "stand", desc := "(I)I" } : Jvm.MethodName) ({ cls := "WellPipesModel", name := "stand", desc := "(I)I" } : Jvm.MethodName) ∈ wq_TB := tb_4 225 rfl rfl
theorem tw_996 : Jvm.Cond.code ({ cls := "WellPipesModel", name := "stand", desc := "(I)I" } : Jvm.MethodName) prog_9_method_57_code (2 : Nat) (Option.some Jvm.ClassFile.FieldType.int) ∈ wq_TB := tb_4 226 rfl rfl
theorem tw_997 : Jvm.Cond.methodLink "WellPipesModel" (229 : Nat) ({ cls := "WellPipesModel", name := "firstLoose", desc := "()I" } : Jvm.MethodName) ∈ wq_TB := tb_4 227 rfl rfl
theorem tw_999 : Jvm.Cond.instanceMethod ({ cls := "WellPipesModel", name := "firstLoose", desc := "()I" } : Jvm.MethodName) ∈ wq_TB := tb_4 229 rfl rfl
theorem tw_1000 : Jvm.Cond.code ({ cls := "WellPipesModel", name := "firstLoose", desc := "()I" } : Jvm.MethodName) prog_9_method_56_code (2 : Nat) (Option.some Jvm.ClassFile.FieldType.int) ∈ wq_TB := tb_4 230 rfl rfl
theorem tw_1001 : Jvm.Cond.methodLink "WellPipesModel" (233 : Nat) ({ cls := "WellPipesModel", name := "isSound", desc := "([I)Z" } : Jvm.MethodName) ∈ wq_TB := tb_4 231 rfl rfl
theorem tw_1002 : Jvm.Cond.static ({ cls := "WellPipesModel", name := "isSound", desc := "([I)Z" } : Jvm.MethodName) ∈ wq_TB := tb_4 232 rfl rfl
theorem tw_1003 : Jvm.Cond.code ({ cls := "WellPipesModel", name := "isSound", desc := "([I)Z" } : Jvm.MethodName) prog_9_method_41_code (3 : Nat) (Option.some Jvm.ClassFile.FieldType.boolean) ∈ wq_TB := tb_4 233 rfl rfl
theorem tw_1004 : Jvm.Cond.methodLink "WellPipesLaw" (85 : Nat) ({ cls := "WellPipesModel", name := "best", desc := "(I)I" } : Jvm.MethodName) ∈ wq_TB := tb_4 234 rfl rfl
theorem tw_1005 : Jvm.Cond.instanceMethod ({ cls := "WellPipesModel", name := "best", desc := "(I)I" } : Jvm.MethodName) ∈ wq_TB := tb_4 235 rfl rfl
theorem tw_1006 : Jvm.Cond.selects "WellPipesModel" ({ cls := "WellPipesModel", name := "best", desc := "(I)I" } : Jvm.MethodName) ({ cls := "WellPipesModel", name := "best", desc := "(I)I" } : Jvm.MethodName) ∈ wq_TB := tb_4 236 rfl rfl
theorem tw_1007 : Jvm.Cond.code ({ cls := "WellPipesModel", name := "best", desc := "(I)I" } : Jvm.MethodName) prog_9_method_58_code (3 : Nat) (Option.some Jvm.ClassFile.FieldType.int) ∈ wq_TB := tb_4 237 rfl rfl
theorem tw_1008 : Jvm.Cond.methodLink "WellPipesLaw" (89 : Nat) ({ cls := "WellPipesModel", name := "without", desc := "(I)I" } : Jvm.MethodName) ∈ wq_TB := tb_4 238 rfl rfl
theorem tw_1009 : Jvm.Cond.instanceMethod ({ cls := "WellPipesModel", name := "without", desc := "(I)I" } : Jvm.MethodName) ∈ wq_TB := tb_4 239 rfl rfl
theorem tw_1010 : Jvm.Cond.selects "WellPipesModel" ({ cls := "WellPipesModel", name := "without", desc := "(I)I" } : Jvm.MethodName) ({ cls := "WellPipesModel", name := "without", desc := "(I)I" } : Jvm.MethodName) ∈ wq_TB := tb_5 0 rfl rfl
theorem tw_1011 : Jvm.Cond.code ({ cls := "WellPipesModel", name := "without", desc := "(I)I" } : Jvm.MethodName) prog_9_method_59_code (3 : Nat) (Option.some Jvm.ClassFile.FieldType.int) ∈ wq_TB := tb_5 1 rfl rfl
theorem tw_1012 : Jvm.Cond.methodLink "WellPipesLaw" (93 : Nat) ({ cls := "WellPipesModel", name := "most", desc := "(I)I" } : Jvm.MethodName) ∈ wq_TB := tb_5 2 rfl rfl
theorem tw_1013 : Jvm.Cond.instanceMethod ({ cls := "WellPipesModel", name := "most", desc := "(I)I" } : Jvm.MethodName) ∈ wq_TB := tb_5 3 rfl rfl
theorem tw_1014 : Jvm.Cond.selects "WellPipesModel" ({ cls := "WellPipesModel", name := "most", desc := "(I)I" } : Jvm.MethodName) ({ cls := "WellPipesModel", name := "most", desc := "(I)I" } : Jvm.MethodName) ∈ wq_TB := tb_5 4 rfl rfl
theorem tw_1015 : Jvm.Cond.code ({ cls := "WellPipesModel", name := "most", desc := "(I)I" } : Jvm.MethodName) prog_9_method_60_code (3 : Nat) (Option.some Jvm.ClassFile.FieldType.int) ∈ wq_TB := tb_5 5 rfl rfl
theorem tw_1016 : Jvm.Cond.methodLink "WellPipesModel" (237 : Nat) ({ cls := "WellPipesModel", name := "layThen", desc := "()V" } : Jvm.MethodName) ∈ wq_TB := tb_5 6 rfl rfl
theorem tw_1018 : Jvm.Cond.instanceMethod ({ cls := "WellPipesModel", name := "layThen", desc := "()V" } : Jvm.MethodName) ∈ wq_TB := tb_5 8 rfl rfl
theorem tw_1019 : Jvm.Cond.code ({ cls := "WellPipesModel", name := "layThen", desc := "()V" } : Jvm.MethodName) prog_9_method_42_code (2 : Nat) (Option.none : Option Jvm.ClassFile.FieldType) ∈ wq_TB := tb_5 9 rfl rfl
theorem tw_1020 : Jvm.Cond.methodLink "WellPipesModel" (240 : Nat) ({ cls := "WellPipesModel", name := "manyHold", desc := "([I)I" } : Jvm.MethodName) ∈ wq_TB := tb_5 10 rfl rfl
theorem tw_1021 : Jvm.Cond.static ({ cls := "WellPipesModel", name := "manyHold", desc := "([I)I" } : Jvm.MethodName) ∈ wq_TB := tb_5 11 rfl rfl
theorem tw_1022 : Jvm.Cond.code ({ cls := "WellPipesModel", name := "manyHold", desc := "([I)I" } : Jvm.MethodName) prog_9_method_37_code (3 : Nat) (Option.some Jvm.ClassFile.FieldType.int) ∈ wq_TB := tb_5 12 rfl rfl
theorem tw_1023 : Jvm.Cond.methodLink "WellPipesLaw" (97 : Nat) ({ cls := "WellPipesModel", name := "need", desc := "(I)I" } : Jvm.MethodName) ∈ wq_TB := tb_5 13 rfl rfl
theorem tw_1024 : Jvm.Cond.instanceMethod ({ cls := "WellPipesModel", name := "need", desc := "(I)I" } : Jvm.MethodName) ∈ wq_TB := tb_5 14 rfl rfl
theorem tw_1025 : Jvm.Cond.selects "WellPipesModel" ({ cls := "WellPipesModel", name := "need", desc := "(I)I" } : Jvm.MethodName) ({ cls := "WellPipesModel", name := "need", desc := "(I)I" } : Jvm.MethodName) ∈ wq_TB := tb_5 15 rfl rfl
theorem tw_1026 : Jvm.Cond.code ({ cls := "WellPipesModel", name := "need", desc := "(I)I" } : Jvm.MethodName) prog_9_method_61_code (4 : Nat) (Option.some Jvm.ClassFile.FieldType.int) ∈ wq_TB := tb_5 16 rfl rfl
theorem tw_1027 : Jvm.Cond.methodLink "WellPipesLaw" (101 : Nat) ({ cls := "WellPipesModel", name := "sets", desc := "(II)I" } : Jvm.MethodName) ∈ wq_TB := tb_5 17 rfl rfl
theorem tw_1028 : Jvm.Cond.instanceMethod ({ cls := "WellPipesModel", name := "sets", desc := "(II)I" } : Jvm.MethodName) ∈ wq_TB := tb_5 18 rfl rfl
theorem tw_1029 : Jvm.Cond.selects "WellPipesModel" ({ cls := "WellPipesModel", name := "sets", desc := "(II)I" } : Jvm.MethodName) ({ cls := "WellPipesModel", name := "sets", desc := "(II)I" } : Jvm.MethodName) ∈ wq_TB := tb_5 19 rfl rfl
theorem tw_1030 : Jvm.Cond.code ({ cls := "WellPipesModel", name := "sets", desc := "(II)I" } : Jvm.MethodName) prog_9_method_62_code (11 : Nat) (Option.some Jvm.ClassFile.FieldType.int) ∈ wq_TB := tb_5 20 rfl rfl
theorem tw_1031 : Jvm.Cond.constantLong "WellPipesModel" (243 : Nat) (792 : Int64) ∈ wq_TB := tb_5 21 rfl rfl
theorem tw_1032 : Jvm.Cond.methodLink "WellPipesModel" (245 : Nat) ({ cls := "WellPipesModel", name := "has", desc := "(II)Z" } : Jvm.MethodName) ∈ wq_TB := tb_5 22 rfl rfl
theorem tw_1033 : Jvm.Cond.static ({ cls := "WellPipesModel", name := "has", desc := "(II)Z" } : Jvm.MethodName) ∈ wq_TB := tb_5 23 rfl rfl
theorem tw_1034 : Jvm.Cond.code ({ cls := "WellPipesModel", name := "has", desc := "(II)Z" } : Jvm.MethodName) prog_9_method_27_code (2 : Nat) (Option.some Jvm.ClassFile.FieldType.boolean) ∈ wq_TB := tb_5 24 rfl rfl
theorem tw_1035 : Jvm.Cond.methodLink "WellPipesLaw" (105 : Nat) ({ cls := "WellPipesModel", name := "share", desc := "(II)I" } : Jvm.MethodName) ∈ wq_TB := tb_5 25 rfl rfl
theorem tw_1036 : Jvm.Cond.instanceMethod ({ cls := "WellPipesModel", name := "share", desc := "(II)I" } : Jvm.MethodName) ∈ wq_TB := tb_5 26 rfl rfl
theorem tw_1037 : Jvm.Cond.selects "WellPipesModel" ({ cls := "WellPipesModel", name := "share", desc := "(II)I" } : Jvm.MethodName) ({ cls := "WellPipesModel", name := "share", desc := "(II)I" } : Jvm.MethodName) ∈ wq_TB := tb_5 27 rfl rfl
theorem tw_1038 : Jvm.Cond.code ({ cls := "WellPipesModel", name := "share", desc := "(II)I" } : Jvm.MethodName) prog_9_method_64_code (8 : Nat) (Option.some Jvm.ClassFile.FieldType.int) ∈ wq_TB := tb_5 28 rfl rfl
theorem tw_1039 : Jvm.Cond.constantLong "WellPipesModel" (249 : Nat) (999 : Int64) ∈ wq_TB := tb_5 29 rfl rfl
theorem tw_1040 : Jvm.Cond.methodLink "WellPipesModel" (251 : Nat) ({ cls := "WellPipesModel", name := "heftAt", desc := "(I)I" } : Jvm.MethodName) ∈ wq_TB := tb_5 30 rfl rfl
theorem tw_1042 : Jvm.Cond.instanceMethod ({ cls := "WellPipesModel", name := "heftAt", desc := "(I)I" } : Jvm.MethodName) ∈ wq_TB := tb_5 32 rfl rfl
theorem tw_1043 : Jvm.Cond.code ({ cls := "WellPipesModel", name := "heftAt", desc := "(I)I" } : Jvm.MethodName) prog_9_method_63_code (2 : Nat) (Option.some Jvm.ClassFile.FieldType.int) ∈ wq_TB := tb_5 33 rfl rfl
theorem tw_1044 : Jvm.Cond.methodLink "WellPipesLaw" (109 : Nat) ({ cls := "WellPipesModel", name := "byTurns", desc := "(I)I" } : Jvm.MethodName) ∈ wq_TB := tb_5 34 rfl rfl
theorem tw_1045 : Jvm.Cond.instanceMethod ({ cls := "WellPipesModel", name := "byTurns", desc := "(I)I" } : Jvm.MethodName) ∈ wq_TB := tb_5 35 rfl rfl
theorem tw_1046 : Jvm.Cond.selects "WellPipesModel" ({ cls := "WellPipesModel", name := "byTurns", desc := "(I)I" } : Jvm.MethodName) ({ cls := "WellPipesModel", name := "byTurns", desc := "(I)I" } : Jvm.MethodName) ∈ wq_TB := tb_5 36 rfl rfl
theorem tw_1047 : Jvm.Cond.code ({ cls := "WellPipesModel", name := "byTurns", desc := "(I)I" } : Jvm.MethodName) prog_9_method_66_code (4 : Nat) (Option.some Jvm.ClassFile.FieldType.int) ∈ wq_TB := tb_5 37 rfl rfl
theorem tw_1048 : Jvm.Cond.methodLink "WellPipesModel" (254 : Nat) ({ cls := "WellPipesModel", name := "bestTurn", desc := "(II)I" } : Jvm.MethodName) ∈ wq_TB := tb_5 38 rfl rfl
theorem tw_1050 : Jvm.Cond.instanceMethod ({ cls := "WellPipesModel", name := "bestTurn", desc := "(II)I" } : Jvm.MethodName) ∈ wq_TB := tb_5 40 rfl rfl
theorem tw_1051 : Jvm.Cond.code ({ cls := "WellPipesModel", name := "bestTurn", desc := "(II)I" } : Jvm.MethodName) prog_9_method_65_code (8 : Nat) (Option.some Jvm.ClassFile.FieldType.int) ∈ wq_TB := tb_5 41 rfl rfl
theorem tw_1052 : Jvm.Cond.methodLink "WellPipesLaw" (114 : Nat) ({ cls := "WellPipesModel", name := "who", desc := "(IIII)I" } : Jvm.MethodName) ∈ wq_TB := tb_5 42 rfl rfl
theorem tw_1053 : Jvm.Cond.instanceMethod ({ cls := "WellPipesModel", name := "who", desc := "(IIII)I" } : Jvm.MethodName) ∈ wq_TB := tb_5 43 rfl rfl
theorem tw_1054 : Jvm.Cond.selects "WellPipesModel" ({ cls := "WellPipesModel", name := "who", desc := "(IIII)I" } : Jvm.MethodName) ({ cls := "WellPipesModel", name := "who", desc := "(IIII)I" } : Jvm.MethodName) ∈ wq_TB := tb_5 44 rfl rfl
theorem tw_1055 : Jvm.Cond.code ({ cls := "WellPipesModel", name := "who", desc := "(IIII)I" } : Jvm.MethodName) prog_9_method_68_code (10 : Nat) (Option.some Jvm.ClassFile.FieldType.int) ∈ wq_TB := tb_5 45 rfl rfl
theorem tw_1056 : Jvm.Cond.methodLink "WellPipesModel" (257 : Nat) ({ cls := "WellPipesModel", name := "rowFound", desc := "(III)I" } : Jvm.MethodName) ∈ wq_TB := tb_5 46 rfl rfl
theorem tw_1058 : Jvm.Cond.instanceMethod ({ cls := "WellPipesModel", name := "rowFound", desc := "(III)I" } : Jvm.MethodName) ∈ wq_TB := tb_5 48 rfl rfl
theorem tw_1059 : Jvm.Cond.code ({ cls := "WellPipesModel", name := "rowFound", desc := "(III)I" } : Jvm.MethodName) prog_9_method_67_code (4 : Nat) (Option.some Jvm.ClassFile.FieldType.int) ∈ wq_TB := tb_5 49 rfl rfl
theorem tw_1060 : Jvm.Cond.methodLink "WellPipesLaw" (119 : Nat) ({ cls := "WellPipesModel", name := "flaws", desc := "(II)J" } : Jvm.MethodName) ∈ wq_TB := tb_5 50 rfl rfl
theorem tw_1061 : Jvm.Cond.instanceMethod ({ cls := "WellPipesModel", name := "flaws", desc := "(II)J" } : Jvm.MethodName) ∈ wq_TB := tb_5 51 rfl rfl
theorem tw_1062 : Jvm.Cond.selects "WellPipesModel" ({ cls := "WellPipesModel", name := "flaws", desc := "(II)J" } : Jvm.MethodName) ({ cls := "WellPipesModel", name := "flaws", desc := "(II)J" } : Jvm.MethodName) ∈ wq_TB := tb_5 52 rfl rfl
theorem tw_1063 : Jvm.Cond.code ({ cls := "WellPipesModel", name := "flaws", desc := "(II)J" } : Jvm.MethodName) prog_9_method_69_code (13 : Nat) (Option.some Jvm.ClassFile.FieldType.long) ∈ wq_TB := tb_5 53 rfl rfl
theorem tw_1064 : Jvm.Cond.constantLong "WellPipesModel" (261 : Nat) (-1000002 : Int64) ∈ wq_TB := tb_5 54 rfl rfl
theorem tw_1065 : Jvm.Cond.constantLong "WellPipesModel" (263 : Nat) (10 : Int64) ∈ wq_TB := tb_5 55 rfl rfl
theorem tw_1066 : Jvm.Cond.constantLong "WellPipesModel" (265 : Nat) (-1000001 : Int64) ∈ wq_TB := tb_5 56 rfl rfl
theorem tw_1067 : Jvm.Cond.methodLink "WellPipesLaw" (123 : Nat) ({ cls := "WellPipesModel", name := "drawn", desc := "(III)I" } : Jvm.MethodName) ∈ wq_TB := tb_5 57 rfl rfl
theorem tw_1068 : Jvm.Cond.instanceMethod ({ cls := "WellPipesModel", name := "drawn", desc := "(III)I" } : Jvm.MethodName) ∈ wq_TB := tb_5 58 rfl rfl
theorem tw_1069 : Jvm.Cond.selects "WellPipesModel" ({ cls := "WellPipesModel", name := "drawn", desc := "(III)I" } : Jvm.MethodName) ({ cls := "WellPipesModel", name := "drawn", desc := "(III)I" } : Jvm.MethodName) ∈ wq_TB := tb_5 59 rfl rfl
theorem tw_1070 : Jvm.Cond.code ({ cls := "WellPipesModel", name := "drawn", desc := "(III)I" } : Jvm.MethodName) prog_9_method_70_code (8 : Nat) (Option.some Jvm.ClassFile.FieldType.int) ∈ wq_TB := tb_5 60 rfl rfl
theorem tw_1071 : Jvm.Cond.constantLong "WellPipesModel" (267 : Nat) (60 : Int64) ∈ wq_TB := tb_5 61 rfl rfl
theorem tw_1072 : Jvm.Cond.constantLong "WellPipesModel" (269 : Nat) (999999 : Int64) ∈ wq_TB := tb_5 62 rfl rfl
theorem tw_1073 : Jvm.Cond.constantLong "WellPipesModel" (271 : Nat) (16807 : Int64) ∈ wq_TB := tb_5 63 rfl rfl
theorem tw_1074 : Jvm.Cond.constantLong "WellPipesModel" (273 : Nat) (2147483647 : Int64) ∈ wq_TB := tb_5 64 rfl rfl
theorem tw_1075 : Jvm.Cond.constantLong "WellPipesModel" (275 : Nat) (16 : Int64) ∈ wq_TB := tb_5 65 rfl rfl
theorem tw_1076 : Jvm.Cond.constantLong "WellPipesModel" (277 : Nat) (5 : Int64) ∈ wq_TB := tb_5 66 rfl rfl
theorem tw_1077 : Jvm.Cond.constantLong "WellPipesModel" (279 : Nat) (256 : Int64) ∈ wq_TB := tb_5 67 rfl rfl
theorem tw_1078 : Jvm.Cond.constantLong "WellPipesModel" (281 : Nat) (21 : Int64) ∈ wq_TB := tb_5 68 rfl rfl
theorem tw_1079 : Jvm.Cond.methodLink "WellPipesLaw" (127 : Nat) ({ cls := "WellPipesModel", name := "image", desc := "(I)I" } : Jvm.MethodName) ∈ wq_TB := tb_5 69 rfl rfl
theorem tw_1080 : Jvm.Cond.instanceMethod ({ cls := "WellPipesModel", name := "image", desc := "(I)I" } : Jvm.MethodName) ∈ wq_TB := tb_5 70 rfl rfl
theorem tw_1081 : Jvm.Cond.selects "WellPipesModel" ({ cls := "WellPipesModel", name := "image", desc := "(I)I" } : Jvm.MethodName) ({ cls := "WellPipesModel", name := "image", desc := "(I)I" } : Jvm.MethodName) ∈ wq_TB := tb_5 71 rfl rfl
theorem tw_1082 : Jvm.Cond.code ({ cls := "WellPipesModel", name := "image", desc := "(I)I" } : Jvm.MethodName) prog_9_method_71_code (3 : Nat) (Option.some Jvm.ClassFile.FieldType.int) ∈ wq_TB := tb_5 72 rfl rfl
theorem tw_1083 : Jvm.Cond.methodLink "WellPipesLaw" (131 : Nat) ({ cls := "WellPipesModel", name := "restore", desc := "(I)I" } : Jvm.MethodName) ∈ wq_TB := tb_5 73 rfl rfl
theorem tw_1084 : Jvm.Cond.instanceMethod ({ cls := "WellPipesModel", name := "restore", desc := "(I)I" } : Jvm.MethodName) ∈ wq_TB := tb_5 74 rfl rfl
theorem tw_1085 : Jvm.Cond.selects "WellPipesModel" ({ cls := "WellPipesModel", name := "restore", desc := "(I)I" } : Jvm.MethodName) ({ cls := "WellPipesModel", name := "restore", desc := "(I)I" } : Jvm.MethodName) ∈ wq_TB := tb_5 75 rfl rfl
theorem tw_1086 : Jvm.Cond.code ({ cls := "WellPipesModel", name := "restore", desc := "(I)I" } : Jvm.MethodName) prog_9_method_72_code (3 : Nat) (Option.some Jvm.ClassFile.FieldType.int) ∈ wq_TB := tb_5 76 rfl rfl
theorem tw_1087 : Jvm.Cond.methodLink "WellPipesLaw" (135 : Nat) ({ cls := "WellPipesModel", name := "kind", desc := "(I)I" } : Jvm.MethodName) ∈ wq_TB := tb_5 77 rfl rfl
theorem tw_1088 : Jvm.Cond.instanceMethod ({ cls := "WellPipesModel", name := "kind", desc := "(I)I" } : Jvm.MethodName) ∈ wq_TB := tb_5 78 rfl rfl
theorem tw_1089 : Jvm.Cond.selects "WellPipesModel" ({ cls := "WellPipesModel", name := "kind", desc := "(I)I" } : Jvm.MethodName) ({ cls := "WellPipesModel", name := "kind", desc := "(I)I" } : Jvm.MethodName) ∈ wq_TB := tb_5 79 rfl rfl
theorem tw_1090 : Jvm.Cond.code ({ cls := "WellPipesModel", name := "kind", desc := "(I)I" } : Jvm.MethodName) prog_9_method_74_code (2 : Nat) (Option.some Jvm.ClassFile.FieldType.int) ∈ wq_TB := tb_5 80 rfl rfl
theorem tw_1091 : Jvm.Cond.methodLink "WellPipesLaw" (139 : Nat) ({ cls := "WellPipesModel", name := "as", desc := "(II)I" } : Jvm.MethodName) ∈ wq_TB := tb_5 81 rfl rfl
theorem tw_1092 : Jvm.Cond.instanceMethod ({ cls := "WellPipesModel", name := "as", desc := "(II)I" } : Jvm.MethodName) ∈ wq_TB := tb_5 82 rfl rfl
theorem tw_1093 : Jvm.Cond.selects "WellPipesModel" ({ cls := "WellPipesModel", name := "as", desc := "(II)I" } : Jvm.MethodName) ({ cls := "WellPipesModel", name := "as", desc := "(II)I" } : Jvm.MethodName) ∈ wq_TB := tb_5 83 rfl rfl
theorem tw_1094 : Jvm.Cond.code ({ cls := "WellPipesModel", name := "as", desc := "(II)I" } : Jvm.MethodName) prog_9_method_75_code (3 : Nat) (Option.some Jvm.ClassFile.FieldType.int) ∈ wq_TB := tb_5 84 rfl rfl
theorem tw_1095 : Jvm.Cond.methodLink "WellPipesModel" (283 : Nat) ({ cls := "WellPipesModel", name := "isOf", desc := "(II)Z" } : Jvm.MethodName) ∈ wq_TB := tb_5 85 rfl rfl
theorem tw_1096 : Jvm.Cond.static ({ cls := "WellPipesModel", name := "isOf", desc := "(II)Z" } : Jvm.MethodName) ∈ wq_TB := tb_5 86 rfl rfl
theorem tw_1097 : Jvm.Cond.code ({ cls := "WellPipesModel", name := "isOf", desc := "(II)Z" } : Jvm.MethodName) prog_9_method_73_code (2 : Nat) (Option.some Jvm.ClassFile.FieldType.boolean) ∈ wq_TB := tb_5 87 rfl rfl
theorem tw_1098 : Jvm.Cond.methodLink "WellPipesLaw" (143 : Nat) ({ cls := "WellPipesModel", name := "ask", desc := "(II)I" } : Jvm.MethodName) ∈ wq_TB := tb_5 88 rfl rfl
theorem tw_1099 : Jvm.Cond.instanceMethod ({ cls := "WellPipesModel", name := "ask", desc := "(II)I" } : Jvm.MethodName) ∈ wq_TB := tb_5 89 rfl rfl
theorem tw_1100 : Jvm.Cond.selects "WellPipesModel" ({ cls := "WellPipesModel", name := "ask", desc := "(II)I" } : Jvm.MethodName) ({ cls := "WellPipesModel", name := "ask", desc := "(II)I" } : Jvm.MethodName) ∈ wq_TB := tb_5 90 rfl rfl
theorem tw_1101 : Jvm.Cond.code ({ cls := "WellPipesModel", name := "ask", desc := "(II)I" } : Jvm.MethodName) prog_9_method_81_code (3 : Nat) (Option.some Jvm.ClassFile.FieldType.int) ∈ wq_TB := tb_5 91 rfl rfl
theorem tw_1102 : Jvm.Cond.methodLink "WellPipesModel" (301 : Nat) ({ cls := "WellPipesModel", name := "sizeOf", desc := "(I)I" } : Jvm.MethodName) ∈ wq_TB := tb_5 92 rfl rfl
theorem tw_1104 : Jvm.Cond.instanceMethod ({ cls := "WellPipesModel", name := "sizeOf", desc := "(I)I" } : Jvm.MethodName) ∈ wq_TB := tb_5 94 rfl rfl
theorem tw_1105 : Jvm.Cond.code ({ cls := "WellPipesModel", name := "sizeOf", desc := "(I)I" } : Jvm.MethodName) prog_9_method_80_code (4 : Nat) (Option.some Jvm.ClassFile.FieldType.int) ∈ wq_TB := tb_5 95 rfl rfl
theorem tw_1106 : Jvm.Cond.methodLink "WellPipesModel" (295 : Nat) ({ cls := "WellPipesModel", name := "thickSize", desc := "(I)I" } : Jvm.MethodName) ∈ wq_TB := tb_5 96 rfl rfl
theorem tw_1108 : Jvm.Cond.instanceMethod ({ cls := "WellPipesModel", name := "thickSize", desc := "(I)I" } : Jvm.MethodName) ∈ wq_TB := tb_5 98 rfl rfl
theorem tw_1109 : Jvm.Cond.code ({ cls := "WellPipesModel", name := "thickSize", desc := "(I)I" } : Jvm.MethodName) prog_9_method_78_code (4 : Nat) (Option.some Jvm.ClassFile.FieldType.int) ∈ wq_TB := tb_5 99 rfl rfl
theorem tw_1110 : Jvm.Cond.methodLink "WellPipesModel" (289 : Nat) ({ cls := "WellPipesModel", name := "began", desc := "(I)V" } : Jvm.MethodName) ∈ wq_TB := tb_5 100 rfl rfl
theorem tw_1112 : Jvm.Cond.instanceMethod ({ cls := "WellPipesModel", name := "began", desc := "(I)V" } : Jvm.MethodName) ∈ wq_TB := tb_5 102 rfl rfl
theorem tw_1113 : Jvm.Cond.code ({ cls := "WellPipesModel", name := "began", desc := "(I)V" } : Jvm.MethodName) prog_9_method_76_code (2 : Nat) (Option.none : Option Jvm.ClassFile.FieldType) ∈ wq_TB := tb_5 103 rfl rfl
theorem tw_1114 : Jvm.Cond.methodLink "WellPipesModel" (292 : Nat) ({ cls := "WellPipesModel", name := "plainSize", desc := "(I)I" } : Jvm.MethodName) ∈ wq_TB := tb_5 104 rfl rfl
theorem tw_1116 : Jvm.Cond.instanceMethod ({ cls := "WellPipesModel", name := "plainSize", desc := "(I)I" } : Jvm.MethodName) ∈ wq_TB := tb_5 106 rfl rfl
theorem tw_1117 : Jvm.Cond.code ({ cls := "WellPipesModel", name := "plainSize", desc := "(I)I" } : Jvm.MethodName) prog_9_method_77_code (2 : Nat) (Option.some Jvm.ClassFile.FieldType.int) ∈ wq_TB := tb_5 107 rfl rfl
theorem tw_1118 : Jvm.Cond.methodLink "WellPipesModel" (298 : Nat) ({ cls := "WellPipesModel", name := "markOf", desc := "(I)I" } : Jvm.MethodName) ∈ wq_TB := tb_5 108 rfl rfl
theorem tw_1120 : Jvm.Cond.instanceMethod ({ cls := "WellPipesModel", name := "markOf", desc := "(I)I" } : Jvm.MethodName) ∈ wq_TB := tb_5 110 rfl rfl
theorem tw_1121 : Jvm.Cond.code ({ cls := "WellPipesModel", name := "markOf", desc := "(I)I" } : Jvm.MethodName) prog_9_method_79_code (4 : Nat) (Option.some Jvm.ClassFile.FieldType.int) ∈ wq_TB := tb_5 111 rfl rfl
theorem tw_1122 : Jvm.Cond.methodLink "WellPipesLaw" (147 : Nat) ({ cls := "WellPipesModel", name := "trace", desc := "(I)I" } : Jvm.MethodName) ∈ wq_TB := tb_5 112 rfl rfl
theorem tw_1123 : Jvm.Cond.instanceMethod ({ cls := "WellPipesModel", name := "trace", desc := "(I)I" } : Jvm.MethodName) ∈ wq_TB := tb_5 113 rfl rfl
theorem tw_1124 : Jvm.Cond.selects "WellPipesModel" ({ cls := "WellPipesModel", name := "trace", desc := "(I)I" } : Jvm.MethodName) ({ cls := "WellPipesModel", name := "trace", desc := "(I)I" } : Jvm.MethodName) ∈ wq_TB := tb_5 114 rfl rfl
theorem tw_1125 : Jvm.Cond.code ({ cls := "WellPipesModel", name := "trace", desc := "(I)I" } : Jvm.MethodName) prog_9_method_82_code (2 : Nat) (Option.some Jvm.ClassFile.FieldType.int) ∈ wq_TB := tb_5 115 rfl rfl
theorem tw_1126 : Jvm.Cond.methodLink "WellPipesLaw" (151 : Nat) ({ cls := "WellPipesModel", name := "count", desc := "(I)I" } : Jvm.MethodName) ∈ wq_TB := tb_5 116 rfl rfl
theorem tw_1127 : Jvm.Cond.instanceMethod ({ cls := "WellPipesModel", name := "count", desc := "(I)I" } : Jvm.MethodName) ∈ wq_TB := tb_5 117 rfl rfl
theorem tw_1128 : Jvm.Cond.selects "WellPipesModel" ({ cls := "WellPipesModel", name := "count", desc := "(I)I" } : Jvm.MethodName) ({ cls := "WellPipesModel", name := "count", desc := "(I)I" } : Jvm.MethodName) ∈ wq_TB := tb_5 118 rfl rfl
theorem tw_1129 : Jvm.Cond.code ({ cls := "WellPipesModel", name := "count", desc := "(I)I" } : Jvm.MethodName) prog_9_method_83_code (4 : Nat) (Option.some Jvm.ClassFile.FieldType.int) ∈ wq_TB := tb_5 119 rfl rfl
theorem tw_1130 : Jvm.Cond.methodLink "WellPipesModel" (304 : Nat) ({ cls := "WellPipesModel", name := "sections", desc := "([I)I" } : Jvm.MethodName) ∈ wq_TB := tb_5 120 rfl rfl
theorem tw_1131 : Jvm.Cond.static ({ cls := "WellPipesModel", name := "sections", desc := "([I)I" } : Jvm.MethodName) ∈ wq_TB := tb_5 121 rfl rfl
theorem tw_1132 : Jvm.Cond.code ({ cls := "WellPipesModel", name := "sections", desc := "([I)I" } : Jvm.MethodName) prog_9_method_40_code (3 : Nat) (Option.some Jvm.ClassFile.FieldType.int) ∈ wq_TB := tb_5 122 rfl rfl
theorem tw_1133 : Jvm.Cond.methodLink "WellPipesLaw" (155 : Nat) ({ cls := "WellPipesModel", name := "status", desc := "()I" } : Jvm.MethodName) ∈ wq_TB := tb_5 123 rfl rfl
theorem tw_1134 : Jvm.Cond.instanceMethod ({ cls := "WellPipesModel", name := "status", desc := "()I" } : Jvm.MethodName) ∈ wq_TB := tb_5 124 rfl rfl
theorem tw_1135 : Jvm.Cond.selects "WellPipesModel" ({ cls := "WellPipesModel", name := "status", desc := "()I" } : Jvm.MethodName) ({ cls := "WellPipesModel", name := "status", desc := "()I" } : Jvm.MethodName) ∈ wq_TB := tb_5 125 rfl rfl
theorem tw_1136 : Jvm.Cond.code ({ cls := "WellPipesModel", name := "status", desc := "()I" } : Jvm.MethodName) prog_9_method_84_code (1 : Nat) (Option.some Jvm.ClassFile.FieldType.int) ∈ wq_TB := tb_5 126 rfl rfl
theorem in_X0 : ∀ w ∈ u_ws RX0 TX0 3, w ∈ wq_TB := by
  intro w hw
  obtain ⟨k, hk, rfl⟩ := List.mem_map.mp hw
  have hk := List.mem_range.mp hk
  match k, hk with
  | 0, _ => exact tb_1 139 rfl rfl
  | 1, _ => exact tb_1 141 rfl rfl
  | 2, _ => exact tb_1 143 rfl rfl
  | k + 3, hk => omega
theorem in_X1 : ∀ w ∈ u_ws RX1 TX1 4, w ∈ wq_TB := by
  intro w hw
  obtain ⟨k, hk, rfl⟩ := List.mem_map.mp hw
  have hk := List.mem_range.mp hk
  match k, hk with
  | 0, _ => exact tb_1 158 rfl rfl
  | 1, _ => exact tb_1 160 rfl rfl
  | 2, _ => exact tb_1 162 rfl rfl
  | 3, _ => exact tb_1 164 rfl rfl
  | k + 4, hk => omega
theorem in_X2 : ∀ w ∈ u_ws RX2 TX2 6, w ∈ wq_TB := by
  intro w hw
  obtain ⟨k, hk, rfl⟩ := List.mem_map.mp hw
  have hk := List.mem_range.mp hk
  match k, hk with
  | 0, _ => exact tb_1 37 rfl rfl
  | 1, _ => exact tb_1 39 rfl rfl
  | 2, _ => exact tb_1 41 rfl rfl
  | 3, _ => exact tb_1 43 rfl rfl
  | 4, _ => exact tb_1 45 rfl rfl
  | 5, _ => exact tb_1 47 rfl rfl
  | k + 6, hk => omega
theorem in_X3 : ∀ w ∈ u_ws RX3 TX3 3, w ∈ wq_TB := by
  intro w hw
  obtain ⟨k, hk, rfl⟩ := List.mem_map.mp hw
  have hk := List.mem_range.mp hk
  match k, hk with
  | 0, _ => exact tb_1 178 rfl rfl
  | 1, _ => exact tb_1 180 rfl rfl
  | 2, _ => exact tb_1 182 rfl rfl
  | k + 3, hk => omega
theorem in_X4 : ∀ w ∈ u_ws RX4 TX4 9, w ∈ wq_TB := by
  intro w hw
  obtain ⟨k, hk, rfl⟩ := List.mem_map.mp hw
  have hk := List.mem_range.mp hk
  match k, hk with
  | 0, _ => exact tb_1 110 rfl rfl
  | 1, _ => exact tb_1 112 rfl rfl
  | 2, _ => exact tb_1 114 rfl rfl
  | 3, _ => exact tb_1 116 rfl rfl
  | 4, _ => exact tb_1 118 rfl rfl
  | 5, _ => exact tb_1 120 rfl rfl
  | 6, _ => exact tb_1 122 rfl rfl
  | 7, _ => exact tb_1 124 rfl rfl
  | 8, _ => exact tb_1 126 rfl rfl
  | k + 9, hk => omega
theorem in_X5 : ∀ w ∈ u_ws RX5 TX5 6, w ∈ wq_TB := by
  intro w hw
  obtain ⟨k, hk, rfl⟩ := List.mem_map.mp hw
  have hk := List.mem_range.mp hk
  match k, hk with
  | 0, _ => exact tb_1 78 rfl rfl
  | 1, _ => exact tb_1 80 rfl rfl
  | 2, _ => exact tb_1 82 rfl rfl
  | 3, _ => exact tb_1 84 rfl rfl
  | 4, _ => exact tb_1 86 rfl rfl
  | 5, _ => exact tb_1 88 rfl rfl
  | k + 6, hk => omega
theorem in_X6 : ∀ w ∈ u_ws RX6 TX6 9, w ∈ wq_TB := by
  intro w hw
  obtain ⟨k, hk, rfl⟩ := List.mem_map.mp hw
  have hk := List.mem_range.mp hk
  match k, hk with
  | 0, _ => exact tb_1 194 rfl rfl
  | 1, _ => exact tb_1 196 rfl rfl
  | 2, _ => exact tb_1 198 rfl rfl
  | 3, _ => exact tb_1 200 rfl rfl
  | 4, _ => exact tb_1 202 rfl rfl
  | 5, _ => exact tb_1 204 rfl rfl
  | 6, _ => exact tb_1 206 rfl rfl
  | 7, _ => exact tb_1 208 rfl rfl
  | 8, _ => exact tb_1 210 rfl rfl
  | k + 9, hk => omega
theorem in_X7 : ∀ w ∈ u_ws RX7 TX7 26, w ∈ wq_TB := by
  intro w hw
  obtain ⟨k, hk, rfl⟩ := List.mem_map.mp hw
  have hk := List.mem_range.mp hk
  match k, hk with
  | 0, _ => exact tb_3 214 rfl rfl
  | 1, _ => exact tb_3 216 rfl rfl
  | 2, _ => exact tb_3 218 rfl rfl
  | 3, _ => exact tb_3 220 rfl rfl
  | 4, _ => exact tb_3 222 rfl rfl
  | 5, _ => exact tb_3 224 rfl rfl
  | 6, _ => exact tb_3 226 rfl rfl
  | 7, _ => exact tb_3 228 rfl rfl
  | 8, _ => exact tb_3 230 rfl rfl
  | 9, _ => exact tb_3 232 rfl rfl
  | 10, _ => exact tb_3 234 rfl rfl
  | 11, _ => exact tb_3 236 rfl rfl
  | 12, _ => exact tb_3 238 rfl rfl
  | 13, _ => exact tb_4 0 rfl rfl
  | 14, _ => exact tb_4 2 rfl rfl
  | 15, _ => exact tb_4 4 rfl rfl
  | 16, _ => exact tb_4 6 rfl rfl
  | 17, _ => exact tb_4 8 rfl rfl
  | 18, _ => exact tb_4 10 rfl rfl
  | 19, _ => exact tb_4 12 rfl rfl
  | 20, _ => exact tb_4 14 rfl rfl
  | 21, _ => exact tb_4 16 rfl rfl
  | 22, _ => exact tb_4 18 rfl rfl
  | 23, _ => exact tb_4 20 rfl rfl
  | 24, _ => exact tb_4 22 rfl rfl
  | 25, _ => exact tb_4 24 rfl rfl
  | k + 26, hk => omega
end
