def lw_okq (q : MethodName × Nat) : Prop := (q.1.cls ≠ "java/lang/invoke/MethodHandle" ∧ q.1.cls ≠ "java/lang/invoke/VarHandle") ∧ Cond.instantiable q.1.cls q.2 ∈ tables_1 ∧ Cond.privateMethod q.1 ∈ tables_1 ∧ Cond.instanceMethod q.1 ∈ tables_1
theorem lw_p0 : lw_okq (⟨"WellPipes", "found", "(I)I"⟩, 9) := ⟨⟨by decide +kernel, by decide +kernel⟩, List.mem_of_getElem? (i := 13) (by decide +kernel), List.mem_of_getElem? (i := 222) (by decide +kernel), List.mem_of_getElem? (i := 223) (by decide +kernel)⟩
theorem lw_p1 : lw_okq (⟨"WellPipes", "passed", "(I)I"⟩, 9) := ⟨⟨by decide +kernel, by decide +kernel⟩, List.mem_of_getElem? (i := 13) (by decide +kernel), List.mem_of_getElem? (i := 234) (by decide +kernel), List.mem_of_getElem? (i := 235) (by decide +kernel)⟩
theorem lw_p2 : lw_okq (⟨"WellPipes$Reader", "readLaw", "(LWellPipes$Well;)V"⟩, 6) := ⟨⟨by decide +kernel, by decide +kernel⟩, List.mem_of_getElem? (i := 23) (by decide +kernel), List.mem_of_getElem? (i := 282) (by decide +kernel), List.mem_of_getElem? (i := 283) (by decide +kernel)⟩
theorem lw_p3 : lw_okq (⟨"WellPipes$Reader", "readSign", "(C)V"⟩, 6) := ⟨⟨by decide +kernel, by decide +kernel⟩, List.mem_of_getElem? (i := 23) (by decide +kernel), List.mem_of_getElem? (i := 286) (by decide +kernel), List.mem_of_getElem? (i := 287) (by decide +kernel)⟩
theorem lw_p4 : lw_okq (⟨"WellPipes$Reader", "fail", "(I)V"⟩, 6) := ⟨⟨by decide +kernel, by decide +kernel⟩, List.mem_of_getElem? (i := 23) (by decide +kernel), List.mem_of_getElem? (i := 290) (by decide +kernel), List.mem_of_getElem? (i := 291) (by decide +kernel)⟩
theorem lw_p5 : lw_okq (⟨"WellPipes$Reader", "readNumber", "(II)I"⟩, 6) := ⟨⟨by decide +kernel, by decide +kernel⟩, List.mem_of_getElem? (i := 23) (by decide +kernel), List.mem_of_getElem? (i := 294) (by decide +kernel), List.mem_of_getElem? (i := 295) (by decide +kernel)⟩
theorem lw_p6 : lw_okq (⟨"WellPipes$Reader", "readRule", "(I)I"⟩, 6) := ⟨⟨by decide +kernel, by decide +kernel⟩, List.mem_of_getElem? (i := 23) (by decide +kernel), List.mem_of_getElem? (i := 298) (by decide +kernel), List.mem_of_getElem? (i := 299) (by decide +kernel)⟩
theorem lw_p7 : lw_okq (⟨"WellPipes$Reader", "readGas", "(LWellPipes$Well;)V"⟩, 6) := ⟨⟨by decide +kernel, by decide +kernel⟩, List.mem_of_getElem? (i := 23) (by decide +kernel), List.mem_of_getElem? (i := 306) (by decide +kernel), List.mem_of_getElem? (i := 307) (by decide +kernel)⟩
theorem lw_p8 : lw_okq (⟨"WellPipes$Reader", "readGrade", "(LWellPipes$Well;I)V"⟩, 6) := ⟨⟨by decide +kernel, by decide +kernel⟩, List.mem_of_getElem? (i := 23) (by decide +kernel), List.mem_of_getElem? (i := 310) (by decide +kernel), List.mem_of_getElem? (i := 311) (by decide +kernel)⟩
theorem lw_p9 : lw_okq (⟨"WellPipes$Reader", "kindAtHand", "()I"⟩, 6) := ⟨⟨by decide +kernel, by decide +kernel⟩, List.mem_of_getElem? (i := 23) (by decide +kernel), List.mem_of_getElem? (i := 314) (by decide +kernel), List.mem_of_getElem? (i := 315) (by decide +kernel)⟩
theorem lw_p10 : lw_okq (⟨"WellPipes", "isStep", "(I)Z"⟩, 9) := ⟨⟨by decide +kernel, by decide +kernel⟩, List.mem_of_getElem? (i := 13) (by decide +kernel), List.mem_of_getElem? (i := 357) (by decide +kernel), List.mem_of_getElem? (i := 358) (by decide +kernel)⟩
theorem lw_p11 : lw_okq (⟨"WellPipes", "isGrade", "(I)Z"⟩, 9) := ⟨⟨by decide +kernel, by decide +kernel⟩, List.mem_of_getElem? (i := 13) (by decide +kernel), List.mem_of_getElem? (i := 361) (by decide +kernel), List.mem_of_getElem? (i := 362) (by decide +kernel)⟩
theorem lw_p12 : lw_okq (⟨"WellPipes", "hasNoWell", "()Z"⟩, 9) := ⟨⟨by decide +kernel, by decide +kernel⟩, List.mem_of_getElem? (i := 13) (by decide +kernel), List.mem_of_getElem? (i := 378) (by decide +kernel), List.mem_of_getElem? (i := 379) (by decide +kernel)⟩
theorem lw_p13 : lw_okq (⟨"WellPipes$Search", "swap", "()V"⟩, 9) := ⟨⟨by decide +kernel, by decide +kernel⟩, List.mem_of_getElem? (i := 93) (by decide +kernel), List.mem_of_getElem? (i := 394) (by decide +kernel), List.mem_of_getElem? (i := 395) (by decide +kernel)⟩
theorem lw_p14 : lw_okq (⟨"WellPipes$Search", "layOnAll", "(II)V"⟩, 9) := ⟨⟨by decide +kernel, by decide +kernel⟩, List.mem_of_getElem? (i := 93) (by decide +kernel), List.mem_of_getElem? (i := 398) (by decide +kernel), List.mem_of_getElem? (i := 399) (by decide +kernel)⟩
theorem lw_p15 : lw_okq (⟨"WellPipes$Search", "layOn", "(IIII)V"⟩, 9) := ⟨⟨by decide +kernel, by decide +kernel⟩, List.mem_of_getElem? (i := 93) (by decide +kernel), List.mem_of_getElem? (i := 436) (by decide +kernel), List.mem_of_getElem? (i := 437) (by decide +kernel)⟩
def lw_privs_1 : List (MethodName × Nat) := [(⟨"WellPipes", "found", "(I)I"⟩, 9), (⟨"WellPipes", "passed", "(I)I"⟩, 9), (⟨"WellPipes$Reader", "readLaw", "(LWellPipes$Well;)V"⟩, 6), (⟨"WellPipes$Reader", "readSign", "(C)V"⟩, 6), (⟨"WellPipes$Reader", "fail", "(I)V"⟩, 6), (⟨"WellPipes$Reader", "readNumber", "(II)I"⟩, 6), (⟨"WellPipes$Reader", "readRule", "(I)I"⟩, 6), (⟨"WellPipes$Reader", "readGas", "(LWellPipes$Well;)V"⟩, 6), (⟨"WellPipes$Reader", "readGrade", "(LWellPipes$Well;I)V"⟩, 6), (⟨"WellPipes$Reader", "kindAtHand", "()I"⟩, 6), (⟨"WellPipes", "isStep", "(I)Z"⟩, 9), (⟨"WellPipes", "isGrade", "(I)Z"⟩, 9), (⟨"WellPipes", "hasNoWell", "()Z"⟩, 9), (⟨"WellPipes$Search", "swap", "()V"⟩, 9), (⟨"WellPipes$Search", "layOnAll", "(II)V"⟩, 9), (⟨"WellPipes$Search", "layOn", "(IIII)V"⟩, 9)]
theorem lw_r1 : ∀ q ∈ lw_privs_1, lw_okq q := List.forall_mem_cons.mpr ⟨lw_p0, List.forall_mem_cons.mpr ⟨lw_p1, List.forall_mem_cons.mpr ⟨lw_p2, List.forall_mem_cons.mpr ⟨lw_p3, List.forall_mem_cons.mpr ⟨lw_p4, List.forall_mem_cons.mpr ⟨lw_p5, List.forall_mem_cons.mpr ⟨lw_p6, List.forall_mem_cons.mpr ⟨lw_p7, List.forall_mem_cons.mpr ⟨lw_p8, List.forall_mem_cons.mpr ⟨lw_p9, List.forall_mem_cons.mpr ⟨lw_p10, List.forall_mem_cons.mpr ⟨lw_p11, List.forall_mem_cons.mpr ⟨lw_p12, List.forall_mem_cons.mpr ⟨lw_p13, List.forall_mem_cons.mpr ⟨lw_p14, List.forall_mem_cons.mpr ⟨lw_p15, fun _ h => absurd h List.not_mem_nil⟩⟩⟩⟩⟩⟩⟩⟩⟩⟩⟩⟩⟩⟩⟩⟩
theorem lw_p16 : lw_okq (⟨"WellPipes$Search", "choose", "()Z"⟩, 9) := ⟨⟨by decide +kernel, by decide +kernel⟩, List.mem_of_getElem? (i := 93) (by decide +kernel), List.mem_of_getElem? (i := 447) (by decide +kernel), List.mem_of_getElem? (i := 448) (by decide +kernel)⟩
theorem lw_p17 : lw_okq (⟨"WellPipes$Search", "tellString", "(I)V"⟩, 9) := ⟨⟨by decide +kernel, by decide +kernel⟩, List.mem_of_getElem? (i := 93) (by decide +kernel), List.mem_of_getElem? (i := 451) (by decide +kernel), List.mem_of_getElem? (i := 452) (by decide +kernel)⟩
theorem lw_p18 : lw_okq (⟨"WellPipes", "isBest", "(LWellPipes$Well;LWellPipes$Row;I)Z"⟩, 9) := ⟨⟨by decide +kernel, by decide +kernel⟩, List.mem_of_getElem? (i := 13) (by decide +kernel), List.mem_of_getElem? (i := 564) (by decide +kernel), List.mem_of_getElem? (i := 565) (by decide +kernel)⟩
theorem lw_p19 : lw_okq (⟨"WellPipes$Asks", "bodyFor", "(I)I"⟩, 4) := ⟨⟨by decide +kernel, by decide +kernel⟩, List.mem_of_getElem? (i := 147) (by decide +kernel), List.mem_of_getElem? (i := 626) (by decide +kernel), List.mem_of_getElem? (i := 627) (by decide +kernel)⟩
theorem lw_p20 : lw_okq (⟨"WellPipes$Asks", "begin", "(II)I"⟩, 4) := ⟨⟨by decide +kernel, by decide +kernel⟩, List.mem_of_getElem? (i := 147) (by decide +kernel), List.mem_of_getElem? (i := 634) (by decide +kernel), List.mem_of_getElem? (i := 635) (by decide +kernel)⟩
theorem lw_p21 : lw_okq (⟨"WellPipes", "howManyRows", "()I"⟩, 9) := ⟨⟨by decide +kernel, by decide +kernel⟩, List.mem_of_getElem? (i := 13) (by decide +kernel), List.mem_of_getElem? (i := 647) (by decide +kernel), List.mem_of_getElem? (i := 648) (by decide +kernel)⟩
theorem lw_p22 : lw_okq (⟨"WellPipesModel", "finding", "(I)I"⟩, 26) := ⟨⟨by decide +kernel, by decide +kernel⟩, List.mem_of_getElem? (i := 663) (by decide +kernel), List.mem_of_getElem? (i := 762) (by decide +kernel), List.mem_of_getElem? (i := 763) (by decide +kernel)⟩
theorem lw_p23 : lw_okq (⟨"WellPipesModel", "begin", "()V"⟩, 26) := ⟨⟨by decide +kernel, by decide +kernel⟩, List.mem_of_getElem? (i := 663) (by decide +kernel), List.mem_of_getElem? (i := 793) (by decide +kernel), List.mem_of_getElem? (i := 794) (by decide +kernel)⟩
theorem lw_p24 : lw_okq (⟨"WellPipesModel", "nextToken", "()V"⟩, 26) := ⟨⟨by decide +kernel, by decide +kernel⟩, List.mem_of_getElem? (i := 663) (by decide +kernel), List.mem_of_getElem? (i := 797) (by decide +kernel), List.mem_of_getElem? (i := 798) (by decide +kernel)⟩
theorem lw_p25 : lw_okq (⟨"WellPipesModel", "isLetter", "(I)Z"⟩, 26) := ⟨⟨by decide +kernel, by decide +kernel⟩, List.mem_of_getElem? (i := 663) (by decide +kernel), List.mem_of_getElem? (i := 806) (by decide +kernel), List.mem_of_getElem? (i := 807) (by decide +kernel)⟩
theorem lw_p26 : lw_okq (⟨"WellPipesModel", "must", "(Z)V"⟩, 26) := ⟨⟨by decide +kernel, by decide +kernel⟩, List.mem_of_getElem? (i := 663) (by decide +kernel), List.mem_of_getElem? (i := 810) (by decide +kernel), List.mem_of_getElem? (i := 811) (by decide +kernel)⟩
theorem lw_p27 : lw_okq (⟨"WellPipesModel", "bad", "(I)V"⟩, 26) := ⟨⟨by decide +kernel, by decide +kernel⟩, List.mem_of_getElem? (i := 663) (by decide +kernel), List.mem_of_getElem? (i := 814) (by decide +kernel), List.mem_of_getElem? (i := 815) (by decide +kernel)⟩
theorem lw_p28 : lw_okq (⟨"WellPipesModel", "number", "(II)I"⟩, 26) := ⟨⟨by decide +kernel, by decide +kernel⟩, List.mem_of_getElem? (i := 663) (by decide +kernel), List.mem_of_getElem? (i := 818) (by decide +kernel), List.mem_of_getElem? (i := 819) (by decide +kernel)⟩
theorem lw_p29 : lw_okq (⟨"WellPipesModel", "mustSign", "(I)V"⟩, 26) := ⟨⟨by decide +kernel, by decide +kernel⟩, List.mem_of_getElem? (i := 663) (by decide +kernel), List.mem_of_getElem? (i := 822) (by decide +kernel), List.mem_of_getElem? (i := 823) (by decide +kernel)⟩
theorem lw_p30 : lw_okq (⟨"WellPipesModel", "isSort", "()Z"⟩, 26) := ⟨⟨by decide +kernel, by decide +kernel⟩, List.mem_of_getElem? (i := 663) (by decide +kernel), List.mem_of_getElem? (i := 826) (by decide +kernel), List.mem_of_getElem? (i := 827) (by decide +kernel)⟩
theorem lw_p31 : lw_okq (⟨"WellPipesModel", "readGrade", "()V"⟩, 26) := ⟨⟨by decide +kernel, by decide +kernel⟩, List.mem_of_getElem? (i := 663) (by decide +kernel), List.mem_of_getElem? (i := 833) (by decide +kernel), List.mem_of_getElem? (i := 834) (by decide +kernel)⟩
def lw_privs_2 : List (MethodName × Nat) := [(⟨"WellPipes$Search", "choose", "()Z"⟩, 9), (⟨"WellPipes$Search", "tellString", "(I)V"⟩, 9), (⟨"WellPipes", "isBest", "(LWellPipes$Well;LWellPipes$Row;I)Z"⟩, 9), (⟨"WellPipes$Asks", "bodyFor", "(I)I"⟩, 4), (⟨"WellPipes$Asks", "begin", "(II)I"⟩, 4), (⟨"WellPipes", "howManyRows", "()I"⟩, 9), (⟨"WellPipesModel", "finding", "(I)I"⟩, 26), (⟨"WellPipesModel", "begin", "()V"⟩, 26), (⟨"WellPipesModel", "nextToken", "()V"⟩, 26), (⟨"WellPipesModel", "isLetter", "(I)Z"⟩, 26), (⟨"WellPipesModel", "must", "(Z)V"⟩, 26), (⟨"WellPipesModel", "bad", "(I)V"⟩, 26), (⟨"WellPipesModel", "number", "(II)I"⟩, 26), (⟨"WellPipesModel", "mustSign", "(I)V"⟩, 26), (⟨"WellPipesModel", "isSort", "()Z"⟩, 26), (⟨"WellPipesModel", "readGrade", "()V"⟩, 26)]
theorem lw_r2 : ∀ q ∈ lw_privs_2, lw_okq q := List.forall_mem_cons.mpr ⟨lw_p16, List.forall_mem_cons.mpr ⟨lw_p17, List.forall_mem_cons.mpr ⟨lw_p18, List.forall_mem_cons.mpr ⟨lw_p19, List.forall_mem_cons.mpr ⟨lw_p20, List.forall_mem_cons.mpr ⟨lw_p21, List.forall_mem_cons.mpr ⟨lw_p22, List.forall_mem_cons.mpr ⟨lw_p23, List.forall_mem_cons.mpr ⟨lw_p24, List.forall_mem_cons.mpr ⟨lw_p25, List.forall_mem_cons.mpr ⟨lw_p26, List.forall_mem_cons.mpr ⟨lw_p27, List.forall_mem_cons.mpr ⟨lw_p28, List.forall_mem_cons.mpr ⟨lw_p29, List.forall_mem_cons.mpr ⟨lw_p30, List.forall_mem_cons.mpr ⟨lw_p31, fun _ h => absurd h List.not_mem_nil⟩⟩⟩⟩⟩⟩⟩⟩⟩⟩⟩⟩⟩⟩⟩⟩
theorem lw_p32 : lw_okq (⟨"WellPipesModel", "failed", "()Z"⟩, 26) := ⟨⟨by decide +kernel, by decide +kernel⟩, List.mem_of_getElem? (i := 663) (by decide +kernel), List.mem_of_getElem? (i := 837) (by decide +kernel), List.mem_of_getElem? (i := 838) (by decide +kernel)⟩
theorem lw_p33 : lw_okq (⟨"WellPipesModel", "isStep", "(I)Z"⟩, 26) := ⟨⟨by decide +kernel, by decide +kernel⟩, List.mem_of_getElem? (i := 663) (by decide +kernel), List.mem_of_getElem? (i := 846) (by decide +kernel), List.mem_of_getElem? (i := 847) (by decide +kernel)⟩
theorem lw_p34 : lw_okq (⟨"WellPipesModel", "isGrade", "(I)Z"⟩, 26) := ⟨⟨by decide +kernel, by decide +kernel⟩, List.mem_of_getElem? (i := 663) (by decide +kernel), List.mem_of_getElem? (i := 850) (by decide +kernel), List.mem_of_getElem? (i := 851) (by decide +kernel)⟩
theorem lw_p35 : lw_okq (⟨"WellPipesModel", "keep", "()V"⟩, 26) := ⟨⟨by decide +kernel, by decide +kernel⟩, List.mem_of_getElem? (i := 663) (by decide +kernel), List.mem_of_getElem? (i := 855) (by decide +kernel), List.mem_of_getElem? (i := 856) (by decide +kernel)⟩
theorem lw_p36 : lw_okq (⟨"WellPipesModel", "isThere", "()Z"⟩, 26) := ⟨⟨by decide +kernel, by decide +kernel⟩, List.mem_of_getElem? (i := 663) (by decide +kernel), List.mem_of_getElem? (i := 863) (by decide +kernel), List.mem_of_getElem? (i := 864) (by decide +kernel)⟩
theorem lw_p37 : lw_okq (⟨"WellPipesModel", "laysBest", "([II)I"⟩, 26) := ⟨⟨by decide +kernel, by decide +kernel⟩, List.mem_of_getElem? (i := 663) (by decide +kernel), List.mem_of_getElem? (i := 867) (by decide +kernel), List.mem_of_getElem? (i := 868) (by decide +kernel)⟩
theorem lw_p38 : lw_okq (⟨"WellPipesModel", "leastAt", "([IIIIII)I"⟩, 26) := ⟨⟨by decide +kernel, by decide +kernel⟩, List.mem_of_getElem? (i := 663) (by decide +kernel), List.mem_of_getElem? (i := 874) (by decide +kernel), List.mem_of_getElem? (i := 875) (by decide +kernel)⟩
theorem lw_p39 : lw_okq (⟨"WellPipesModel", "through", "([IIIIII)I"⟩, 26) := ⟨⟨by decide +kernel, by decide +kernel⟩, List.mem_of_getElem? (i := 663) (by decide +kernel), List.mem_of_getElem? (i := 879) (by decide +kernel), List.mem_of_getElem? (i := 880) (by decide +kernel)⟩
theorem lw_p40 : lw_okq (⟨"WellPipesModel", "firstLoose", "()I"⟩, 26) := ⟨⟨by decide +kernel, by decide +kernel⟩, List.mem_of_getElem? (i := 663) (by decide +kernel), List.mem_of_getElem? (i := 948) (by decide +kernel), List.mem_of_getElem? (i := 949) (by decide +kernel)⟩
theorem lw_p41 : lw_okq (⟨"WellPipesModel", "layThen", "()V"⟩, 26) := ⟨⟨by decide +kernel, by decide +kernel⟩, List.mem_of_getElem? (i := 663) (by decide +kernel), List.mem_of_getElem? (i := 967) (by decide +kernel), List.mem_of_getElem? (i := 968) (by decide +kernel)⟩
theorem lw_p42 : lw_okq (⟨"WellPipesModel", "heftAt", "(I)I"⟩, 26) := ⟨⟨by decide +kernel, by decide +kernel⟩, List.mem_of_getElem? (i := 663) (by decide +kernel), List.mem_of_getElem? (i := 991) (by decide +kernel), List.mem_of_getElem? (i := 992) (by decide +kernel)⟩
theorem lw_p43 : lw_okq (⟨"WellPipesModel", "bestTurn", "(II)I"⟩, 26) := ⟨⟨by decide +kernel, by decide +kernel⟩, List.mem_of_getElem? (i := 663) (by decide +kernel), List.mem_of_getElem? (i := 999) (by decide +kernel), List.mem_of_getElem? (i := 1000) (by decide +kernel)⟩
theorem lw_p44 : lw_okq (⟨"WellPipesModel", "rowFound", "(III)I"⟩, 26) := ⟨⟨by decide +kernel, by decide +kernel⟩, List.mem_of_getElem? (i := 663) (by decide +kernel), List.mem_of_getElem? (i := 1007) (by decide +kernel), List.mem_of_getElem? (i := 1008) (by decide +kernel)⟩
theorem lw_p45 : lw_okq (⟨"WellPipesModel", "sizeOf", "(I)I"⟩, 26) := ⟨⟨by decide +kernel, by decide +kernel⟩, List.mem_of_getElem? (i := 663) (by decide +kernel), List.mem_of_getElem? (i := 1053) (by decide +kernel), List.mem_of_getElem? (i := 1054) (by decide +kernel)⟩
theorem lw_p46 : lw_okq (⟨"WellPipesModel", "thickSize", "(I)I"⟩, 26) := ⟨⟨by decide +kernel, by decide +kernel⟩, List.mem_of_getElem? (i := 663) (by decide +kernel), List.mem_of_getElem? (i := 1057) (by decide +kernel), List.mem_of_getElem? (i := 1058) (by decide +kernel)⟩
theorem lw_p47 : lw_okq (⟨"WellPipesModel", "began", "(I)V"⟩, 26) := ⟨⟨by decide +kernel, by decide +kernel⟩, List.mem_of_getElem? (i := 663) (by decide +kernel), List.mem_of_getElem? (i := 1061) (by decide +kernel), List.mem_of_getElem? (i := 1062) (by decide +kernel)⟩
def lw_privs_3 : List (MethodName × Nat) := [(⟨"WellPipesModel", "failed", "()Z"⟩, 26), (⟨"WellPipesModel", "isStep", "(I)Z"⟩, 26), (⟨"WellPipesModel", "isGrade", "(I)Z"⟩, 26), (⟨"WellPipesModel", "keep", "()V"⟩, 26), (⟨"WellPipesModel", "isThere", "()Z"⟩, 26), (⟨"WellPipesModel", "laysBest", "([II)I"⟩, 26), (⟨"WellPipesModel", "leastAt", "([IIIIII)I"⟩, 26), (⟨"WellPipesModel", "through", "([IIIIII)I"⟩, 26), (⟨"WellPipesModel", "firstLoose", "()I"⟩, 26), (⟨"WellPipesModel", "layThen", "()V"⟩, 26), (⟨"WellPipesModel", "heftAt", "(I)I"⟩, 26), (⟨"WellPipesModel", "bestTurn", "(II)I"⟩, 26), (⟨"WellPipesModel", "rowFound", "(III)I"⟩, 26), (⟨"WellPipesModel", "sizeOf", "(I)I"⟩, 26), (⟨"WellPipesModel", "thickSize", "(I)I"⟩, 26), (⟨"WellPipesModel", "began", "(I)V"⟩, 26)]
theorem lw_r3 : ∀ q ∈ lw_privs_3, lw_okq q := List.forall_mem_cons.mpr ⟨lw_p32, List.forall_mem_cons.mpr ⟨lw_p33, List.forall_mem_cons.mpr ⟨lw_p34, List.forall_mem_cons.mpr ⟨lw_p35, List.forall_mem_cons.mpr ⟨lw_p36, List.forall_mem_cons.mpr ⟨lw_p37, List.forall_mem_cons.mpr ⟨lw_p38, List.forall_mem_cons.mpr ⟨lw_p39, List.forall_mem_cons.mpr ⟨lw_p40, List.forall_mem_cons.mpr ⟨lw_p41, List.forall_mem_cons.mpr ⟨lw_p42, List.forall_mem_cons.mpr ⟨lw_p43, List.forall_mem_cons.mpr ⟨lw_p44, List.forall_mem_cons.mpr ⟨lw_p45, List.forall_mem_cons.mpr ⟨lw_p46, List.forall_mem_cons.mpr ⟨lw_p47, fun _ h => absurd h List.not_mem_nil⟩⟩⟩⟩⟩⟩⟩⟩⟩⟩⟩⟩⟩⟩⟩⟩
theorem lw_p48 : lw_okq (⟨"WellPipesModel", "plainSize", "(I)I"⟩, 26) := ⟨⟨by decide +kernel, by decide +kernel⟩, List.mem_of_getElem? (i := 663) (by decide +kernel), List.mem_of_getElem? (i := 1065) (by decide +kernel), List.mem_of_getElem? (i := 1066) (by decide +kernel)⟩
theorem lw_p49 : lw_okq (⟨"WellPipesModel", "markOf", "(I)I"⟩, 26) := ⟨⟨by decide +kernel, by decide +kernel⟩, List.mem_of_getElem? (i := 663) (by decide +kernel), List.mem_of_getElem? (i := 1069) (by decide +kernel), List.mem_of_getElem? (i := 1070) (by decide +kernel)⟩
def lw_privs_4 : List (MethodName × Nat) := [(⟨"WellPipesModel", "plainSize", "(I)I"⟩, 26), (⟨"WellPipesModel", "markOf", "(I)I"⟩, 26)]
theorem lw_r4 : ∀ q ∈ lw_privs_4, lw_okq q := List.forall_mem_cons.mpr ⟨lw_p48, List.forall_mem_cons.mpr ⟨lw_p49, fun _ h => absurd h List.not_mem_nil⟩⟩
def lw_privs : List (MethodName × Nat) := lw_privs_1 ++ (lw_privs_2 ++ (lw_privs_3 ++ (lw_privs_4)))
def lw_tbl : List Cond := k2_sels lw_privs ++ tables_1
theorem lw_privs_ok : ∀ q ∈ lw_privs, lw_okq q := by
  show ∀ q ∈ lw_privs_1 ++ (lw_privs_2 ++ (lw_privs_3 ++ (lw_privs_4))), lw_okq q
  exact List.forall_mem_append.mpr ⟨lw_r1, List.forall_mem_append.mpr ⟨lw_r2, List.forall_mem_append.mpr ⟨lw_r3, lw_r4⟩⟩⟩
def RX0 : String := "WellPipes$Acts"
def TX0 : u_T := fun k => match k with
  | 0 => ("WellPipes$Acts", "whats", "[I", true)
  | 1 => ("WellPipes$Acts", "befores", "[I", true)
  | _ => ("WellPipes$Acts", "kept", "I", false)
def tyX0 : Nat → FieldType := fun k => match k with
  | 0 => .array .int
  | 1 => .array .int
  | _ => .int
abbrev wsX00 : List Cond := u_ws RX0 TX0 3
theorem nmX0 : ∀ a, a < 3 → ∀ b, b < 3 → a ≠ b → (TX0 a).2.1 ≠ (TX0 b).2.1 := by decide +kernel
theorem tyX0_ok : ∀ k, k < 3 → parseFieldDescriptor (TX0 k).2.2.1 = some (tyX0 k) := by decide +kernel
abbrev cX0_init : ByteArray := prog_2_method_1_code
def yX0_init : MethodName := ⟨RX0, "<init>", "()V"⟩
abbrev cX0_keep : ByteArray := prog_2_method_2_code
def yX0_keep : MethodName := ⟨RX0, "keep", "(II)V"⟩
abbrev cX0_takeBack : ByteArray := prog_2_method_3_code
def yX0_takeBack : MethodName := ⟨RX0, "takeBack", "(LWellPipes$Well;)V"⟩
abbrev cX0_forgetAll : ByteArray := prog_2_method_4_code
def yX0_forgetAll : MethodName := ⟨RX0, "forgetAll", "()V"⟩
def RX1 : String := "WellPipes$Asks"
def TX1 : u_T := fun k => match k with
  | 0 => ("WellPipes$Asks", "bodies", "[I", true)
  | 1 => ("WellPipes$Asks", "left", "I", false)
  | 2 => ("WellPipes$Asks", "well", "LWellPipes$Well;", false)
  | _ => ("WellPipes$Asks", "one", "I", false)
def tyX1 : Nat → FieldType := fun k => match k with
  | 0 => .array .int
  | 1 => .int
  | 2 => .object "WellPipes$Well"
  | _ => .int
abbrev wsX10 : List Cond := u_ws RX1 TX1 4
theorem nmX1 : ∀ a, a < 4 → ∀ b, b < 4 → a ≠ b → (TX1 a).2.1 ≠ (TX1 b).2.1 := by decide +kernel
theorem tyX1_ok : ∀ k, k < 4 → parseFieldDescriptor (TX1 k).2.2.1 = some (tyX1 k) := by decide +kernel
abbrev cX1_init : ByteArray := prog_3_method_1_code
def yX1_init : MethodName := ⟨RX1, "<init>", "()V"⟩
abbrev cX1_answer : ByteArray := prog_3_method_2_code
def yX1_answer : MethodName := ⟨RX1, "answer", "(LWellPipes$Well;II)I"⟩
abbrev cX1_bodyFor : ByteArray := prog_3_method_3_code
def yX1_bodyFor : MethodName := ⟨RX1, "bodyFor", "(I)I"⟩
abbrev cX1_begin : ByteArray := prog_3_method_4_code
def yX1_begin : MethodName := ⟨RX1, "begin", "(II)I"⟩
def RX2 : String := "WellPipes$Reader"
def TX2 : u_T := fun k => match k with
  | 0 => ("WellPipes$Reader", "bytes", "[I", true)
  | 1 => ("WellPipes$Reader", "length", "I", false)
  | 2 => ("WellPipes$Reader", "faultPlace", "I", false)
  | 3 => ("WellPipes$Reader", "latestFault", "I", false)
  | 4 => ("WellPipes$Reader", "at", "I", false)
  | _ => ("WellPipes$Reader", "failed", "Z", false)
def tyX2 : Nat → FieldType := fun k => match k with
  | 0 => .array .int
  | 1 => .int
  | 2 => .int
  | 3 => .int
  | 4 => .int
  | _ => .boolean
abbrev wsX20 : List Cond := u_ws RX2 TX2 6
theorem nmX2 : ∀ a, a < 6 → ∀ b, b < 6 → a ≠ b → (TX2 a).2.1 ≠ (TX2 b).2.1 := by decide +kernel
theorem tyX2_ok : ∀ k, k < 6 → parseFieldDescriptor (TX2 k).2.2.1 = some (tyX2 k) := by decide +kernel
abbrev cX2_init : ByteArray := prog_4_method_1_code
def yX2_init : MethodName := ⟨RX2, "<init>", "()V"⟩
abbrev cX2_take : ByteArray := prog_4_method_2_code
def yX2_take : MethodName := ⟨RX2, "take", "(I)Z"⟩
abbrev cX2_read : ByteArray := prog_4_method_3_code
def yX2_read : MethodName := ⟨RX2, "read", "(LWellPipes$Well;)Z"⟩
abbrev cX2_readLaw : ByteArray := prog_4_method_4_code
def yX2_readLaw : MethodName := ⟨RX2, "readLaw", "(LWellPipes$Well;)V"⟩
abbrev cX2_readGas : ByteArray := prog_4_method_5_code
def yX2_readGas : MethodName := ⟨RX2, "readGas", "(LWellPipes$Well;)V"⟩
abbrev cX2_readGrade : ByteArray := prog_4_method_6_code
def yX2_readGrade : MethodName := ⟨RX2, "readGrade", "(LWellPipes$Well;I)V"⟩
abbrev cX2_kindAtHand : ByteArray := prog_4_method_7_code
def yX2_kindAtHand : MethodName := ⟨RX2, "kindAtHand", "()I"⟩
abbrev cX2_readSign : ByteArray := prog_4_method_8_code
def yX2_readSign : MethodName := ⟨RX2, "readSign", "(C)V"⟩
abbrev cX2_readRule : ByteArray := prog_4_method_9_code
def yX2_readRule : MethodName := ⟨RX2, "readRule", "(I)I"⟩
abbrev cX2_readNumber : ByteArray := prog_4_method_10_code
def yX2_readNumber : MethodName := ⟨RX2, "readNumber", "(II)I"⟩
abbrev cX2_fail : ByteArray := prog_4_method_11_code
def yX2_fail : MethodName := ⟨RX2, "fail", "(I)V"⟩
def RX3 : String := "WellPipes$Row"
def TX3 : u_T := fun k => match k with
  | 0 => ("WellPipes$Row", "items", "[I", true)
  | 1 => ("WellPipes$Row", "lane", "I", false)
  | _ => ("WellPipes$Row", "size", "I", false)
def tyX3 : Nat → FieldType := fun k => match k with
  | 0 => .array .int
  | 1 => .int
  | _ => .int
abbrev wsX30 : List Cond := u_ws RX3 TX3 3
theorem nmX3 : ∀ a, a < 3 → ∀ b, b < 3 → a ≠ b → (TX3 a).2.1 ≠ (TX3 b).2.1 := by decide +kernel
theorem tyX3_ok : ∀ k, k < 3 → parseFieldDescriptor (TX3 k).2.2.1 = some (tyX3 k) := by decide +kernel
abbrev cX3_init : ByteArray := prog_5_method_1_code
def yX3_init : MethodName := ⟨RX3, "<init>", "()V"⟩
abbrev cX3_isMissing : ByteArray := prog_5_method_2_code
def yX3_isMissing : MethodName := ⟨RX3, "isMissing", "()Z"⟩
abbrev cX3_begin : ByteArray := prog_5_method_3_code
def yX3_begin : MethodName := ⟨RX3, "begin", "(II)V"⟩
abbrev cX3_hasPlaces : ByteArray := prog_5_method_4_code
def yX3_hasPlaces : MethodName := ⟨RX3, "hasPlaces", "(II)Z"⟩
abbrev cX3_put : ByteArray := prog_5_method_5_code
def yX3_put : MethodName := ⟨RX3, "put", "(II)I"⟩
def RX4 : String := "WellPipes$Search"
def TX4 : u_T := fun k => match k with
  | 0 => ("WellPipes$Search", "string", "[I", true)
  | 1 => ("WellPipes$Search", "cost", "I", false)
  | 2 => ("WellPipes$Search", "heft", "I", false)
  | 3 => ("WellPipes$Search", "below", "[I", false)
  | 4 => ("WellPipes$Search", "above", "[I", false)
  | 5 => ("WellPipes$Search", "wholeBelow", "[I", false)
  | 6 => ("WellPipes$Search", "wholeAbove", "[I", false)
  | 7 => ("WellPipes$Search", "well", "LWellPipes$Well;", false)
  | _ => ("WellPipes$Search", "least", "I", false)
def tyX4 : Nat → FieldType := fun k => match k with
  | 0 => .array .int
  | 1 => .int
  | 2 => .int
  | 3 => .array .int
  | 4 => .array .int
  | 5 => .array .int
  | 6 => .array .int
  | 7 => .object "WellPipes$Well"
  | _ => .int
abbrev wsX40 : List Cond := u_ws RX4 TX4 9
theorem nmX4 : ∀ a, a < 9 → ∀ b, b < 9 → a ≠ b → (TX4 a).2.1 ≠ (TX4 b).2.1 := by decide +kernel
theorem tyX4_ok : ∀ k, k < 9 → parseFieldDescriptor (TX4 k).2.2.1 = some (tyX4 k) := by decide +kernel
abbrev cX4_init : ByteArray := prog_6_method_1_code
def yX4_init : MethodName := ⟨RX4, "<init>", "()V"⟩
abbrev cX4_find : ByteArray := prog_6_method_2_code
def yX4_find : MethodName := ⟨RX4, "find", "(LWellPipes$Well;I)Z"⟩
abbrev cX4_swap : ByteArray := prog_6_method_3_code
def yX4_swap : MethodName := ⟨RX4, "swap", "()V"⟩
abbrev cX4_layOnAll : ByteArray := prog_6_method_4_code
def yX4_layOnAll : MethodName := ⟨RX4, "layOnAll", "(II)V"⟩
abbrev cX4_layOn : ByteArray := prog_6_method_5_code
def yX4_layOn : MethodName := ⟨RX4, "layOn", "(IIII)V"⟩
abbrev cX4_isAhead : ByteArray := prog_6_method_6_code
def yX4_isAhead : MethodName := ⟨RX4, "isAhead", "(II)Z"⟩
abbrev cX4_state : ByteArray := prog_6_method_7_code
def yX4_state : MethodName := ⟨RX4, "state", "(III)I"⟩
abbrev cX4_choose : ByteArray := prog_6_method_8_code
def yX4_choose : MethodName := ⟨RX4, "choose", "()Z"⟩
abbrev cX4_tellString : ByteArray := prog_6_method_9_code
def yX4_tellString : MethodName := ⟨RX4, "tellString", "(I)V"⟩
def RX5 : String := "WellPipes$Well"
def TX5 : u_T := fun k => match k with
  | 0 => ("WellPipes$Well", "steps", "I", false)
  | 1 => ("WellPipes$Well", "grades", "I", false)
  | 2 => ("WellPipes$Well", "rules", "[I", true)
  | 3 => ("WellPipes$Well", "kinds", "[I", true)
  | 4 => ("WellPipes$Well", "figures", "[I", true)
  | _ => ("WellPipes$Well", "laid", "[I", true)
def tyX5 : Nat → FieldType := fun k => match k with
  | 0 => .int
  | 1 => .int
  | 2 => .array .int
  | 3 => .array .int
  | 4 => .array .int
  | _ => .array .int
abbrev wsX50 : List Cond := u_ws RX5 TX5 6
theorem nmX5 : ∀ a, a < 6 → ∀ b, b < 6 → a ≠ b → (TX5 a).2.1 ≠ (TX5 b).2.1 := by decide +kernel
theorem tyX5_ok : ∀ k, k < 6 → parseFieldDescriptor (TX5 k).2.2.1 = some (tyX5 k) := by decide +kernel
abbrev cX5_init : ByteArray := prog_7_method_1_code
def yX5_init : MethodName := ⟨RX5, "<init>", "()V"⟩
abbrev cX5_becomes : ByteArray := prog_7_method_2_code
def yX5_becomes : MethodName := ⟨RX5, "becomes", "(LWellPipes$Well;)V"⟩
abbrev cX5_figure : ByteArray := prog_7_method_3_code
def yX5_figure : MethodName := ⟨RX5, "figure", "(II)I"⟩
abbrev cX5_putFigure : ByteArray := prog_7_method_4_code
def yX5_putFigure : MethodName := ⟨RX5, "putFigure", "(III)V"⟩
abbrev cX5_laidFigure : ByteArray := prog_7_method_5_code
def yX5_laidFigure : MethodName := ⟨RX5, "laidFigure", "(II)I"⟩
abbrev cX5_sumOfLaid : ByteArray := prog_7_method_6_code
def yX5_sumOfLaid : MethodName := ⟨RX5, "sumOfLaid", "(I)I"⟩
abbrev cX5_howManyLaid : ByteArray := prog_7_method_7_code
def yX5_howManyLaid : MethodName := ⟨RX5, "howManyLaid", "()I"⟩
abbrev cX5_burstLoad : ByteArray := prog_7_method_8_code
def yX5_burstLoad : MethodName := ⟨RX5, "burstLoad", "(I)I"⟩
abbrev cX5_crushLoad : ByteArray := prog_7_method_9_code
def yX5_crushLoad : MethodName := ⟨RX5, "crushLoad", "(I)I"⟩
abbrev cX5_pullLoad : ByteArray := prog_7_method_10_code
def yX5_pullLoad : MethodName := ⟨RX5, "pullLoad", "(I)I"⟩
abbrev cX5_burstBorne : ByteArray := prog_7_method_11_code
def yX5_burstBorne : MethodName := ⟨RX5, "burstBorne", "(I)I"⟩
abbrev cX5_pullBorne : ByteArray := prog_7_method_12_code
def yX5_pullBorne : MethodName := ⟨RX5, "pullBorne", "(I)I"⟩
abbrev cX5_crushBorne : ByteArray := prog_7_method_13_code
def yX5_crushBorne : MethodName := ⟨RX5, "crushBorne", "(II)I"⟩
abbrev cX5_dent : ByteArray := prog_7_method_14_code
def yX5_dent : MethodName := ⟨RX5, "dent", "(II)I"⟩
abbrev cX5_wouldHold : ByteArray := prog_7_method_15_code
def yX5_wouldHold : MethodName := ⟨RX5, "wouldHold", "(III)Z"⟩
abbrev cX5_holds : ByteArray := prog_7_method_16_code
def yX5_holds : MethodName := ⟨RX5, "holds", "(I)Z"⟩
abbrev cX5_holdsFlawed : ByteArray := prog_7_method_17_code
def yX5_holdsFlawed : MethodName := ⟨RX5, "holdsFlawed", "(I)Z"⟩
abbrev cX5_howManyHold : ByteArray := prog_7_method_18_code
def yX5_howManyHold : MethodName := ⟨RX5, "howManyHold", "()I"⟩
abbrev cX5_firstThatFails : ByteArray := prog_7_method_19_code
def yX5_firstThatFails : MethodName := ⟨RX5, "firstThatFails", "()I"⟩
abbrev cX5_isSound : ByteArray := prog_7_method_20_code
def yX5_isSound : MethodName := ⟨RX5, "isSound", "()Z"⟩
abbrev cX5_sectionLength : ByteArray := prog_7_method_21_code
def yX5_sectionLength : MethodName := ⟨RX5, "sectionLength", "(I)I"⟩
abbrev cX5_howManySections : ByteArray := prog_7_method_22_code
def yX5_howManySections : MethodName := ⟨RX5, "howManySections", "()I"⟩
abbrev cX5_priceOf : ByteArray := prog_7_method_23_code
def yX5_priceOf : MethodName := ⟨RX5, "priceOf", "(I)I"⟩
abbrev cX5_changeByDraw : ByteArray := prog_7_method_24_code
def yX5_changeByDraw : MethodName := ⟨RX5, "changeByDraw", "(I)V"⟩
abbrev cX5_stringCode : ByteArray := prog_7_method_25_code
def yX5_stringCode : MethodName := ⟨RX5, "stringCode", "()I"⟩
abbrev cX5_layString : ByteArray := prog_7_method_26_code
def yX5_layString : MethodName := ⟨RX5, "layString", "(I)V"⟩
def RX6 : String := "WellPipes"
def TX6 : u_T := fun k => match k with
  | 0 => ("WellPipes", "rows", "[LWellPipes$Row;", true)
  | 1 => ("WellPipes", "reader", "LWellPipes$Reader;", true)
  | 2 => ("WellPipes", "now", "LWellPipes$Well;", true)
  | 3 => ("WellPipes", "supposed", "LWellPipes$Well;", true)
  | 4 => ("WellPipes", "images", "[LWellPipes$Well;", true)
  | 5 => ("WellPipes", "search", "LWellPipes$Search;", true)
  | 6 => ("WellPipes", "acts", "LWellPipes$Acts;", true)
  | 7 => ("WellPipes", "asks", "LWellPipes$Asks;", true)
  | _ => ("WellPipes", "finding", "I", false)
def tyX6 : Nat → FieldType := fun k => match k with
  | 0 => .array (.object "WellPipes$Row")
  | 1 => .object "WellPipes$Reader"
  | 2 => .object "WellPipes$Well"
  | 3 => .object "WellPipes$Well"
  | 4 => .array (.object "WellPipes$Well")
  | 5 => .object "WellPipes$Search"
  | 6 => .object "WellPipes$Acts"
  | 7 => .object "WellPipes$Asks"
  | _ => .int
abbrev wsX60 : List Cond := u_ws RX6 TX6 9
theorem nmX6 : ∀ a, a < 9 → ∀ b, b < 9 → a ≠ b → (TX6 a).2.1 ≠ (TX6 b).2.1 := by decide +kernel
theorem tyX6_ok : ∀ k, k < 9 → parseFieldDescriptor (TX6 k).2.2.1 = some (tyX6 k) := by decide +kernel
abbrev cX6_init : ByteArray := prog_1_method_1_code
def yX6_init : MethodName := ⟨RX6, "<init>", "()V"⟩
abbrev cX6_row : ByteArray := prog_1_method_2_code
def yX6_row : MethodName := ⟨RX6, "row", "(III)I"⟩
abbrev cX6_set : ByteArray := prog_1_method_3_code
def yX6_set : MethodName := ⟨RX6, "set", "(III)I"⟩
abbrev cX6_copy : ByteArray := prog_1_method_4_code
def yX6_copy : MethodName := ⟨RX6, "copy", "(IIIII)I"⟩
abbrev cX6_drop : ByteArray := prog_1_method_5_code
def yX6_drop : MethodName := ⟨RX6, "drop", "(I)I"⟩
abbrev cX6_feed : ByteArray := prog_1_method_6_code
def yX6_feed : MethodName := ⟨RX6, "feed", "(I)I"⟩
abbrev cX6_well : ByteArray := prog_1_method_7_code
def yX6_well : MethodName := ⟨RX6, "well", "()I"⟩
abbrev cX6_fault : ByteArray := prog_1_method_8_code
def yX6_fault : MethodName := ⟨RX6, "fault", "()I"⟩
abbrev cX6_undo : ByteArray := prog_1_method_9_code
def yX6_undo : MethodName := ⟨RX6, "undo", "()I"⟩
abbrev cX6_lay : ByteArray := prog_1_method_10_code
def yX6_lay : MethodName := ⟨RX6, "lay", "(II)I"⟩
abbrev cX6_layBest : ByteArray := prog_1_method_11_code
def yX6_layBest : MethodName := ⟨RX6, "layBest", "()I"⟩
abbrev cX6_rule : ByteArray := prog_1_method_12_code
def yX6_rule : MethodName := ⟨RX6, "rule", "(II)I"⟩
abbrev cX6_price : ByteArray := prog_1_method_13_code
def yX6_price : MethodName := ⟨RX6, "price", "(II)I"⟩
abbrev cX6_grade : ByteArray := prog_1_method_14_code
def yX6_grade : MethodName := ⟨RX6, "grade", "(II)I"⟩
abbrev cX6_step : ByteArray := prog_1_method_15_code
def yX6_step : MethodName := ⟨RX6, "step", "(II)I"⟩
abbrev cX6_bears : ByteArray := prog_1_method_16_code
def yX6_bears : MethodName := ⟨RX6, "bears", "(II)I"⟩
abbrev cX6_stand : ByteArray := prog_1_method_17_code
def yX6_stand : MethodName := ⟨RX6, "stand", "(I)I"⟩
abbrev cX6_best : ByteArray := prog_1_method_18_code
def yX6_best : MethodName := ⟨RX6, "best", "(I)I"⟩
abbrev cX6_without : ByteArray := prog_1_method_19_code
def yX6_without : MethodName := ⟨RX6, "without", "(I)I"⟩
abbrev cX6_most : ByteArray := prog_1_method_20_code
def yX6_most : MethodName := ⟨RX6, "most", "(I)I"⟩
abbrev cX6_need : ByteArray := prog_1_method_21_code
def yX6_need : MethodName := ⟨RX6, "need", "(I)I"⟩
abbrev cX6_sets : ByteArray := prog_1_method_22_code
def yX6_sets : MethodName := ⟨RX6, "sets", "(II)I"⟩
abbrev cX6_share : ByteArray := prog_1_method_23_code
def yX6_share : MethodName := ⟨RX6, "share", "(II)I"⟩
abbrev cX6_byTurns : ByteArray := prog_1_method_24_code
def yX6_byTurns : MethodName := ⟨RX6, "byTurns", "(I)I"⟩
abbrev cX6_who : ByteArray := prog_1_method_25_code
def yX6_who : MethodName := ⟨RX6, "who", "(IIII)I"⟩
abbrev cX6_flaws : ByteArray := prog_1_method_26_code
def yX6_flaws : MethodName := ⟨RX6, "flaws", "(II)J"⟩
abbrev cX6_drawn : ByteArray := prog_1_method_27_code
def yX6_drawn : MethodName := ⟨RX6, "drawn", "(III)I"⟩
abbrev cX6_image : ByteArray := prog_1_method_28_code
def yX6_image : MethodName := ⟨RX6, "image", "(I)I"⟩
abbrev cX6_restore : ByteArray := prog_1_method_29_code
def yX6_restore : MethodName := ⟨RX6, "restore", "(I)I"⟩
abbrev cX6_kind : ByteArray := prog_1_method_30_code
def yX6_kind : MethodName := ⟨RX6, "kind", "(I)I"⟩
abbrev cX6_as : ByteArray := prog_1_method_31_code
def yX6_as : MethodName := ⟨RX6, "as", "(II)I"⟩
abbrev cX6_ask : ByteArray := prog_1_method_32_code
def yX6_ask : MethodName := ⟨RX6, "ask", "(II)I"⟩
abbrev cX6_trace : ByteArray := prog_1_method_33_code
def yX6_trace : MethodName := ⟨RX6, "trace", "(I)I"⟩
abbrev cX6_count : ByteArray := prog_1_method_34_code
def yX6_count : MethodName := ⟨RX6, "count", "(I)I"⟩
abbrev cX6_status : ByteArray := prog_1_method_35_code
def yX6_status : MethodName := ⟨RX6, "status", "()I"⟩
abbrev cX6_found : ByteArray := prog_1_method_36_code
def yX6_found : MethodName := ⟨RX6, "found", "(I)I"⟩
abbrev cX6_passed : ByteArray := prog_1_method_37_code
def yX6_passed : MethodName := ⟨RX6, "passed", "(I)I"⟩
abbrev cX6_isRow : ByteArray := prog_1_method_38_code
def yX6_isRow : MethodName := ⟨RX6, "isRow", "(I)Z"⟩
abbrev cX6_isStep : ByteArray := prog_1_method_39_code
def yX6_isStep : MethodName := ⟨RX6, "isStep", "(I)Z"⟩
abbrev cX6_isGrade : ByteArray := prog_1_method_40_code
def yX6_isGrade : MethodName := ⟨RX6, "isGrade", "(I)Z"⟩
abbrev cX6_hasNoWell : ByteArray := prog_1_method_41_code
def yX6_hasNoWell : MethodName := ⟨RX6, "hasNoWell", "()Z"⟩
abbrev cX6_howManyRows : ByteArray := prog_1_method_42_code
def yX6_howManyRows : MethodName := ⟨RX6, "howManyRows", "()I"⟩
abbrev cX6_isBest : ByteArray := prog_1_method_43_code
def yX6_isBest : MethodName := ⟨RX6, "isBest", "(LWellPipes$Well;LWellPipes$Row;I)Z"⟩
abbrev cX6_costByTurns : ByteArray := prog_1_method_44_code
def yX6_costByTurns : MethodName := ⟨RX6, "costByTurns", "(LWellPipes$Well;IIIZ)I"⟩
abbrev cX6_greatestDivisor : ByteArray := prog_1_method_45_code
def yX6_greatestDivisor : MethodName := ⟨RX6, "greatestDivisor", "(JJ)J"⟩
def RX7 : String := "WellPipesModel"
def TX7 : u_T := fun k => match k with
  | 0 => ("WellPipesModel", "thrown", "I", false)
  | 1 => ("WellPipesModel", "status", "I", false)
  | 2 => ("WellPipesModel", "lane", "[I", true)
  | 3 => ("WellPipesModel", "many", "[I", true)
  | 4 => ("WellPipesModel", "item", "[I", true)
  | 5 => ("WellPipesModel", "well", "[I", true)
  | 6 => ("WellPipesModel", "fresh", "[I", true)
  | 7 => ("WellPipesModel", "then", "[I", true)
  | 8 => ("WellPipesModel", "was", "[I", true)
  | 9 => ("WellPipesModel", "acts", "I", false)
  | 10 => ("WellPipesModel", "tape", "[I", true)
  | 11 => ("WellPipesModel", "taped", "I", false)
  | 12 => ("WellPipesModel", "cursor", "I", false)
  | 13 => ("WellPipesModel", "start", "I", false)
  | 14 => ("WellPipesModel", "token", "I", false)
  | 15 => ("WellPipesModel", "value", "I", false)
  | 16 => ("WellPipesModel", "fault", "I", false)
  | 17 => ("WellPipesModel", "faultAt", "I", false)
  | 18 => ("WellPipesModel", "latest", "I", false)
  | 19 => ("WellPipesModel", "table", "[I", true)
  | 20 => ("WellPipesModel", "string", "[I", true)
  | 21 => ("WellPipesModel", "worth", "[I", true)
  | 22 => ("WellPipesModel", "isKept", "[Z", true)
  | 23 => ("WellPipesModel", "kept", "[I", true)
  | 24 => ("WellPipesModel", "trace", "[I", true)
  | _ => ("WellPipesModel", "traced", "I", false)
def tyX7 : Nat → FieldType := fun k => match k with
  | 0 => .int
  | 1 => .int
  | 2 => .array .int
  | 3 => .array .int
  | 4 => .array .int
  | 5 => .array .int
  | 6 => .array .int
  | 7 => .array .int
  | 8 => .array .int
  | 9 => .int
  | 10 => .array .int
  | 11 => .int
  | 12 => .int
  | 13 => .int
  | 14 => .int
  | 15 => .int
  | 16 => .int
  | 17 => .int
  | 18 => .int
  | 19 => .array .int
  | 20 => .array .int
  | 21 => .array .int
  | 22 => .array .boolean
  | 23 => .array .int
  | 24 => .array .int
  | _ => .int
abbrev wsX70 : List Cond := u_ws RX7 TX7 26
theorem nmX7 : ∀ a, a < 26 → ∀ b, b < 26 → a ≠ b → (TX7 a).2.1 ≠ (TX7 b).2.1 := by decide +kernel
theorem tyX7_ok : ∀ k, k < 26 → parseFieldDescriptor (TX7 k).2.2.1 = some (tyX7 k) := by decide +kernel
abbrev cX7_init : ByteArray := prog_9_method_1_code
def yX7_init : MethodName := ⟨RX7, "<init>", "()V"⟩
abbrev cX7_in : ByteArray := prog_9_method_3_code
def yX7_in : MethodName := ⟨RX7, "in", "(JJJ)Z"⟩
abbrev cX7_finding : ByteArray := prog_9_method_4_code
def yX7_finding : MethodName := ⟨RX7, "finding", "(I)I"⟩
abbrev cX7_isRow : ByteArray := prog_9_method_5_code
def yX7_isRow : MethodName := ⟨RX7, "isRow", "(I)Z"⟩
abbrev cX7_row : ByteArray := prog_9_method_6_code
def yX7_row : MethodName := ⟨RX7, "row", "(III)I"⟩
abbrev cX7_set : ByteArray := prog_9_method_7_code
def yX7_set : MethodName := ⟨RX7, "set", "(III)I"⟩
abbrev cX7_copy : ByteArray := prog_9_method_8_code
def yX7_copy : MethodName := ⟨RX7, "copy", "(IIIII)I"⟩
abbrev cX7_drop : ByteArray := prog_9_method_9_code
def yX7_drop : MethodName := ⟨RX7, "drop", "(I)I"⟩
abbrev cX7_feed : ByteArray := prog_9_method_10_code
def yX7_feed : MethodName := ⟨RX7, "feed", "(I)I"⟩
abbrev cX7_bad : ByteArray := prog_9_method_11_code
def yX7_bad : MethodName := ⟨RX7, "bad", "(I)V"⟩
abbrev cX7_nextToken : ByteArray := prog_9_method_12_code
def yX7_nextToken : MethodName := ⟨RX7, "nextToken", "()V"⟩
abbrev cX7_must : ByteArray := prog_9_method_13_code
def yX7_must : MethodName := ⟨RX7, "must", "(Z)V"⟩
abbrev cX7_isLetter : ByteArray := prog_9_method_14_code
def yX7_isLetter : MethodName := ⟨RX7, "isLetter", "(I)Z"⟩
abbrev cX7_number : ByteArray := prog_9_method_15_code
def yX7_number : MethodName := ⟨RX7, "number", "(II)I"⟩
abbrev cX7_mustSign : ByteArray := prog_9_method_16_code
def yX7_mustSign : MethodName := ⟨RX7, "mustSign", "(I)V"⟩
abbrev cX7_begin : ByteArray := prog_9_method_17_code
def yX7_begin : MethodName := ⟨RX7, "begin", "()V"⟩
abbrev cX7_failed : ByteArray := prog_9_method_18_code
def yX7_failed : MethodName := ⟨RX7, "failed", "()Z"⟩
abbrev cX7_fault : ByteArray := prog_9_method_19_code
def yX7_fault : MethodName := ⟨RX7, "fault", "()I"⟩
abbrev cX7_kindBy : ByteArray := prog_9_method_20_code
def yX7_kindBy : MethodName := ⟨RX7, "kindBy", "(I)I"⟩
abbrev cX7_isSort : ByteArray := prog_9_method_21_code
def yX7_isSort : MethodName := ⟨RX7, "isSort", "()Z"⟩
abbrev cX7_readGrade : ByteArray := prog_9_method_22_code
def yX7_readGrade : MethodName := ⟨RX7, "readGrade", "()V"⟩
abbrev cX7_well : ByteArray := prog_9_method_23_code
def yX7_well : MethodName := ⟨RX7, "well", "()I"⟩
abbrev cX7_isThere : ByteArray := prog_9_method_24_code
def yX7_isThere : MethodName := ⟨RX7, "isThere", "()Z"⟩
abbrev cX7_isStep : ByteArray := prog_9_method_25_code
def yX7_isStep : MethodName := ⟨RX7, "isStep", "(I)Z"⟩
abbrev cX7_isGrade : ByteArray := prog_9_method_26_code
def yX7_isGrade : MethodName := ⟨RX7, "isGrade", "(I)Z"⟩
abbrev cX7_has : ByteArray := prog_9_method_27_code
def yX7_has : MethodName := ⟨RX7, "has", "(II)Z"⟩
abbrev cX7_of : ByteArray := prog_9_method_28_code
def yX7_of : MethodName := ⟨RX7, "of", "([III)I"⟩
abbrev cX7_burstLoad : ByteArray := prog_9_method_29_code
def yX7_burstLoad : MethodName := ⟨RX7, "burstLoad", "([II)I"⟩
abbrev cX7_crushLoad : ByteArray := prog_9_method_30_code
def yX7_crushLoad : MethodName := ⟨RX7, "crushLoad", "([II)I"⟩
abbrev cX7_hangs : ByteArray := prog_9_method_31_code
def yX7_hangs : MethodName := ⟨RX7, "hangs", "([II)I"⟩
abbrev cX7_bearsBurst : ByteArray := prog_9_method_32_code
def yX7_bearsBurst : MethodName := ⟨RX7, "bearsBurst", "([II)I"⟩
abbrev cX7_bearsPull : ByteArray := prog_9_method_33_code
def yX7_bearsPull : MethodName := ⟨RX7, "bearsPull", "([II)I"⟩
abbrev cX7_bearsCrush : ByteArray := prog_9_method_34_code
def yX7_bearsCrush : MethodName := ⟨RX7, "bearsCrush", "([III)I"⟩
abbrev cX7_wouldHold : ByteArray := prog_9_method_35_code
def yX7_wouldHold : MethodName := ⟨RX7, "wouldHold", "([IIII)Z"⟩
abbrev cX7_holds : ByteArray := prog_9_method_36_code
def yX7_holds : MethodName := ⟨RX7, "holds", "([II)Z"⟩
abbrev cX7_manyHold : ByteArray := prog_9_method_37_code
def yX7_manyHold : MethodName := ⟨RX7, "manyHold", "([I)I"⟩
abbrev cX7_costOf : ByteArray := prog_9_method_38_code
def yX7_costOf : MethodName := ⟨RX7, "costOf", "([I)I"⟩
abbrev cX7_sectionOf : ByteArray := prog_9_method_39_code
def yX7_sectionOf : MethodName := ⟨RX7, "sectionOf", "([II)I"⟩
abbrev cX7_sections : ByteArray := prog_9_method_40_code
def yX7_sections : MethodName := ⟨RX7, "sections", "([I)I"⟩
abbrev cX7_isSound : ByteArray := prog_9_method_41_code
def yX7_isSound : MethodName := ⟨RX7, "isSound", "([I)Z"⟩
abbrev cX7_layThen : ByteArray := prog_9_method_42_code
def yX7_layThen : MethodName := ⟨RX7, "layThen", "()V"⟩
abbrev cX7_at : ByteArray := prog_9_method_43_code
def yX7_at : MethodName := ⟨RX7, "at", "(IIII)I"⟩
abbrev cX7_through : ByteArray := prog_9_method_44_code
def yX7_through : MethodName := ⟨RX7, "through", "([IIIIII)I"⟩
abbrev cX7_leastAt : ByteArray := prog_9_method_45_code
def yX7_leastAt : MethodName := ⟨RX7, "leastAt", "([IIIIII)I"⟩
abbrev cX7_laysBest : ByteArray := prog_9_method_46_code
def yX7_laysBest : MethodName := ⟨RX7, "laysBest", "([II)I"⟩
abbrev cX7_keep : ByteArray := prog_9_method_47_code
def yX7_keep : MethodName := ⟨RX7, "keep", "()V"⟩
abbrev cX7_lay : ByteArray := prog_9_method_48_code
def yX7_lay : MethodName := ⟨RX7, "lay", "(II)I"⟩
abbrev cX7_layBest : ByteArray := prog_9_method_49_code
def yX7_layBest : MethodName := ⟨RX7, "layBest", "()I"⟩
abbrev cX7_rule : ByteArray := prog_9_method_50_code
def yX7_rule : MethodName := ⟨RX7, "rule", "(II)I"⟩
abbrev cX7_price : ByteArray := prog_9_method_51_code
def yX7_price : MethodName := ⟨RX7, "price", "(II)I"⟩
abbrev cX7_undo : ByteArray := prog_9_method_52_code
def yX7_undo : MethodName := ⟨RX7, "undo", "()I"⟩
abbrev cX7_grade : ByteArray := prog_9_method_53_code
def yX7_grade : MethodName := ⟨RX7, "grade", "(II)I"⟩
abbrev cX7_step : ByteArray := prog_9_method_54_code
def yX7_step : MethodName := ⟨RX7, "step", "(II)I"⟩
abbrev cX7_bears : ByteArray := prog_9_method_55_code
def yX7_bears : MethodName := ⟨RX7, "bears", "(II)I"⟩
abbrev cX7_firstLoose : ByteArray := prog_9_method_56_code
def yX7_firstLoose : MethodName := ⟨RX7, "firstLoose", "()I"⟩
abbrev cX7_stand : ByteArray := prog_9_method_57_code
def yX7_stand : MethodName := ⟨RX7, "stand", "(I)I"⟩
abbrev cX7_best : ByteArray := prog_9_method_58_code
def yX7_best : MethodName := ⟨RX7, "best", "(I)I"⟩
abbrev cX7_without : ByteArray := prog_9_method_59_code
def yX7_without : MethodName := ⟨RX7, "without", "(I)I"⟩
abbrev cX7_most : ByteArray := prog_9_method_60_code
def yX7_most : MethodName := ⟨RX7, "most", "(I)I"⟩
abbrev cX7_need : ByteArray := prog_9_method_61_code
def yX7_need : MethodName := ⟨RX7, "need", "(I)I"⟩
abbrev cX7_sets : ByteArray := prog_9_method_62_code
def yX7_sets : MethodName := ⟨RX7, "sets", "(II)I"⟩
abbrev cX7_heftAt : ByteArray := prog_9_method_63_code
def yX7_heftAt : MethodName := ⟨RX7, "heftAt", "(I)I"⟩
abbrev cX7_share : ByteArray := prog_9_method_64_code
def yX7_share : MethodName := ⟨RX7, "share", "(II)I"⟩
abbrev cX7_bestTurn : ByteArray := prog_9_method_65_code
def yX7_bestTurn : MethodName := ⟨RX7, "bestTurn", "(II)I"⟩
abbrev cX7_byTurns : ByteArray := prog_9_method_66_code
def yX7_byTurns : MethodName := ⟨RX7, "byTurns", "(I)I"⟩
abbrev cX7_rowFound : ByteArray := prog_9_method_67_code
def yX7_rowFound : MethodName := ⟨RX7, "rowFound", "(III)I"⟩
abbrev cX7_who : ByteArray := prog_9_method_68_code
def yX7_who : MethodName := ⟨RX7, "who", "(IIII)I"⟩
abbrev cX7_flaws : ByteArray := prog_9_method_69_code
def yX7_flaws : MethodName := ⟨RX7, "flaws", "(II)J"⟩
abbrev cX7_drawn : ByteArray := prog_9_method_70_code
def yX7_drawn : MethodName := ⟨RX7, "drawn", "(III)I"⟩
abbrev cX7_image : ByteArray := prog_9_method_71_code
def yX7_image : MethodName := ⟨RX7, "image", "(I)I"⟩
abbrev cX7_restore : ByteArray := prog_9_method_72_code
def yX7_restore : MethodName := ⟨RX7, "restore", "(I)I"⟩
abbrev cX7_isOf : ByteArray := prog_9_method_73_code
def yX7_isOf : MethodName := ⟨RX7, "isOf", "(II)Z"⟩
abbrev cX7_kind : ByteArray := prog_9_method_74_code
def yX7_kind : MethodName := ⟨RX7, "kind", "(I)I"⟩
abbrev cX7_as : ByteArray := prog_9_method_75_code
def yX7_as : MethodName := ⟨RX7, "as", "(II)I"⟩
abbrev cX7_began : ByteArray := prog_9_method_76_code
def yX7_began : MethodName := ⟨RX7, "began", "(I)V"⟩
abbrev cX7_plainSize : ByteArray := prog_9_method_77_code
def yX7_plainSize : MethodName := ⟨RX7, "plainSize", "(I)I"⟩
abbrev cX7_thickSize : ByteArray := prog_9_method_78_code
def yX7_thickSize : MethodName := ⟨RX7, "thickSize", "(I)I"⟩
abbrev cX7_markOf : ByteArray := prog_9_method_79_code
def yX7_markOf : MethodName := ⟨RX7, "markOf", "(I)I"⟩
abbrev cX7_sizeOf : ByteArray := prog_9_method_80_code
def yX7_sizeOf : MethodName := ⟨RX7, "sizeOf", "(I)I"⟩
abbrev cX7_ask : ByteArray := prog_9_method_81_code
def yX7_ask : MethodName := ⟨RX7, "ask", "(II)I"⟩
abbrev cX7_trace : ByteArray := prog_9_method_82_code
def yX7_trace : MethodName := ⟨RX7, "trace", "(I)I"⟩
abbrev cX7_count : ByteArray := prog_9_method_83_code
def yX7_count : MethodName := ⟨RX7, "count", "(I)I"⟩
abbrev cX7_status : ByteArray := prog_9_method_84_code
def yX7_status : MethodName := ⟨RX7, "status", "()I"⟩
def RJ9 : String := "java/lang/Math"
abbrev cJ9_max_7cf53 : ByteArray := prog_10_method_65_code
def yJ9_max_7cf53 : MethodName := ⟨RJ9, "max", "(II)I"⟩
abbrev cJ9_max_f86c9 : ByteArray := prog_10_method_66_code
def yJ9_max_f86c9 : MethodName := ⟨RJ9, "max", "(JJ)J"⟩
abbrev cJ9_min_7cf53 : ByteArray := prog_10_method_69_code
def yJ9_min_7cf53 : MethodName := ⟨RJ9, "min", "(II)I"⟩
def RJ10 : String := "java/lang/System"
def RJ7 : String := "java/util/Arrays"
abbrev cJ7_fill_53178 : ByteArray := prog_12_method_103_code
def yJ7_fill_53178 : MethodName := ⟨RJ7, "fill", "([II)V"⟩
def RL : String := "WellPipesLaw"
