theorem tb_m0 {w : Cond} (h : w ∈ k2_sels lw_privs) (hg : goodWord w = true) : w ∈ wq_TB := List.mem_filter.mpr ⟨List.mem_append_left _ h, hg⟩
theorem tb_m {w : Cond} (h : w ∈ tables_1) (hg : goodWord w = true) : w ∈ wq_TB := List.mem_filter.mpr ⟨List.mem_append_right _ h, hg⟩
theorem tb_0 {w : Cond} (i : Nat) (h : (k2_sels lw_privs)[i]? = some w) (hg : goodWord w = true) : w ∈ wq_TB := tb_m0 (List.mem_of_getElem? h) hg
theorem tb_1 {w : Cond} (i : Nat) (h : tables_1_1[i]? = some w) (hg : goodWord w = true) : w ∈ wq_TB := tb_m (List.mem_append_left _ (List.mem_of_getElem? h)) hg
theorem tb_2 {w : Cond} (i : Nat) (h : tables_1_2[i]? = some w) (hg : goodWord w = true) : w ∈ wq_TB := tb_m (List.mem_append_right _ (List.mem_append_left _ (List.mem_of_getElem? h))) hg
theorem tb_3 {w : Cond} (i : Nat) (h : tables_1_3[i]? = some w) (hg : goodWord w = true) : w ∈ wq_TB := tb_m (List.mem_append_right _ (List.mem_append_right _ (List.mem_append_left _ (List.mem_of_getElem? h)))) hg
theorem tb_4 {w : Cond} (i : Nat) (h : tables_1_4[i]? = some w) (hg : goodWord w = true) : w ∈ wq_TB := tb_m (List.mem_append_right _ (List.mem_append_right _ (List.mem_append_right _ (List.mem_append_left _ (List.mem_of_getElem? h))))) hg
theorem tb_5 {w : Cond} (i : Nat) (h : tables_1_5[i]? = some w) (hg : goodWord w = true) : w ∈ wq_TB := tb_m (List.mem_append_right _ (List.mem_append_right _ (List.mem_append_right _ (List.mem_append_right _ (List.mem_of_getElem? h))))) hg
theorem tw_0 : Jvm.Cond.selects "WellPipes" ({ cls := "WellPipes", name := "found", desc := "(I)I" } : Jvm.MethodName) ({ cls := "WellPipes", name := "found", desc := "(I)I" } : Jvm.MethodName) ∈ wq_TB := tb_0 0 rfl rfl
theorem tw_1 : Jvm.Cond.selects "WellPipes" ({ cls := "WellPipes", name := "passed", desc := "(I)I" } : Jvm.MethodName) ({ cls := "WellPipes", name := "passed", desc := "(I)I" } : Jvm.MethodName) ∈ wq_TB := tb_0 1 rfl rfl
theorem tw_2 : Jvm.Cond.selects "WellPipes$Reader" ({ cls := "WellPipes$Reader", name := "readLaw", desc := "(LWellPipes$Well;)V" } : Jvm.MethodName) ({ cls := "WellPipes$Reader", name := "readLaw", desc := "(LWellPipes$Well;)V" } : Jvm.MethodName) ∈ wq_TB := tb_0 2 rfl rfl
theorem tw_3 : Jvm.Cond.selects "WellPipes$Reader" ({ cls := "WellPipes$Reader", name := "readSign", desc := "(C)V" } : Jvm.MethodName) ({ cls := "WellPipes$Reader", name := "readSign", desc := "(C)V" } : Jvm.MethodName) ∈ wq_TB := tb_0 3 rfl rfl
theorem tw_4 : Jvm.Cond.selects "WellPipes$Reader" ({ cls := "WellPipes$Reader", name := "fail", desc := "(I)V" } : Jvm.MethodName) ({ cls := "WellPipes$Reader", name := "fail", desc := "(I)V" } : Jvm.MethodName) ∈ wq_TB := tb_0 4 rfl rfl
theorem tw_5 : Jvm.Cond.selects "WellPipes$Reader" ({ cls := "WellPipes$Reader", name := "readNumber", desc := "(II)I" } : Jvm.MethodName) ({ cls := "WellPipes$Reader", name := "readNumber", desc := "(II)I" } : Jvm.MethodName) ∈ wq_TB := tb_0 5 rfl rfl
theorem tw_6 : Jvm.Cond.selects "WellPipes$Reader" ({ cls := "WellPipes$Reader", name := "readRule", desc := "(I)I" } : Jvm.MethodName) ({ cls := "WellPipes$Reader", name := "readRule", desc := "(I)I" } : Jvm.MethodName) ∈ wq_TB := tb_0 6 rfl rfl
theorem tw_7 : Jvm.Cond.selects "WellPipes$Reader" ({ cls := "WellPipes$Reader", name := "readGas", desc := "(LWellPipes$Well;)V" } : Jvm.MethodName) ({ cls := "WellPipes$Reader", name := "readGas", desc := "(LWellPipes$Well;)V" } : Jvm.MethodName) ∈ wq_TB := tb_0 7 rfl rfl
theorem tw_8 : Jvm.Cond.selects "WellPipes$Reader" ({ cls := "WellPipes$Reader", name := "readGrade", desc := "(LWellPipes$Well;I)V" } : Jvm.MethodName) ({ cls := "WellPipes$Reader", name := "readGrade", desc := "(LWellPipes$Well;I)V" } : Jvm.MethodName) ∈ wq_TB := tb_0 8 rfl rfl
theorem tw_9 : Jvm.Cond.selects "WellPipes$Reader" ({ cls := "WellPipes$Reader", name := "kindAtHand", desc := "()I" } : Jvm.MethodName) ({ cls := "WellPipes$Reader", name := "kindAtHand", desc := "()I" } : Jvm.MethodName) ∈ wq_TB := tb_0 9 rfl rfl
theorem tw_10 : Jvm.Cond.selects "WellPipes" ({ cls := "WellPipes", name := "isStep", desc := "(I)Z" } : Jvm.MethodName) ({ cls := "WellPipes", name := "isStep", desc := "(I)Z" } : Jvm.MethodName) ∈ wq_TB := tb_0 10 rfl rfl
theorem tw_11 : Jvm.Cond.selects "WellPipes" ({ cls := "WellPipes", name := "isGrade", desc := "(I)Z" } : Jvm.MethodName) ({ cls := "WellPipes", name := "isGrade", desc := "(I)Z" } : Jvm.MethodName) ∈ wq_TB := tb_0 11 rfl rfl
theorem tw_12 : Jvm.Cond.selects "WellPipes" ({ cls := "WellPipes", name := "hasNoWell", desc := "()Z" } : Jvm.MethodName) ({ cls := "WellPipes", name := "hasNoWell", desc := "()Z" } : Jvm.MethodName) ∈ wq_TB := tb_0 12 rfl rfl
theorem tw_13 : Jvm.Cond.selects "WellPipes$Search" ({ cls := "WellPipes$Search", name := "swap", desc := "()V" } : Jvm.MethodName) ({ cls := "WellPipes$Search", name := "swap", desc := "()V" } : Jvm.MethodName) ∈ wq_TB := tb_0 13 rfl rfl
theorem tw_14 : Jvm.Cond.selects "WellPipes$Search" ({ cls := "WellPipes$Search", name := "layOnAll", desc := "(II)V" } : Jvm.MethodName) ({ cls := "WellPipes$Search", name := "layOnAll", desc := "(II)V" } : Jvm.MethodName) ∈ wq_TB := tb_0 14 rfl rfl
theorem tw_15 : Jvm.Cond.selects "WellPipes$Search" ({ cls := "WellPipes$Search", name := "layOn", desc := "(IIII)V" } : Jvm.MethodName) ({ cls := "WellPipes$Search", name := "layOn", desc := "(IIII)V" } : Jvm.MethodName) ∈ wq_TB := tb_0 15 rfl rfl
theorem tw_16 : Jvm.Cond.selects "WellPipes$Search" ({ cls := "WellPipes$Search", name := "choose", desc := "()Z" } : Jvm.MethodName) ({ cls := "WellPipes$Search", name := "choose", desc := "()Z" } : Jvm.MethodName) ∈ wq_TB := tb_0 16 rfl rfl
theorem tw_17 : Jvm.Cond.selects "WellPipes$Search" ({ cls := "WellPipes$Search", name := "tellString", desc := "(I)V" } : Jvm.MethodName) ({ cls := "WellPipes$Search", name := "tellString", desc := "(I)V" } : Jvm.MethodName) ∈ wq_TB := tb_0 17 rfl rfl
theorem tw_18 : Jvm.Cond.selects "WellPipes" ({ cls := "WellPipes", name := "isBest", desc := "(LWellPipes$Well;LWellPipes$Row;I)Z" } : Jvm.MethodName) ({ cls := "WellPipes", name := "isBest", desc := "(LWellPipes$Well;LWellPipes$Row;I)Z" } : Jvm.MethodName) ∈ wq_TB := tb_0 18 rfl rfl
theorem tw_19 : Jvm.Cond.selects "WellPipes$Asks" ({ cls := "WellPipes$Asks", name := "bodyFor", desc := "(I)I" } : Jvm.MethodName) ({ cls := "WellPipes$Asks", name := "bodyFor", desc := "(I)I" } : Jvm.MethodName) ∈ wq_TB := tb_0 19 rfl rfl
theorem tw_20 : Jvm.Cond.selects "WellPipes$Asks" ({ cls := "WellPipes$Asks", name := "begin", desc := "(II)I" } : Jvm.MethodName) ({ cls := "WellPipes$Asks", name := "begin", desc := "(II)I" } : Jvm.MethodName) ∈ wq_TB := tb_0 20 rfl rfl
theorem tw_21 : Jvm.Cond.selects "WellPipes" ({ cls := "WellPipes", name := "howManyRows", desc := "()I" } : Jvm.MethodName) ({ cls := "WellPipes", name := "howManyRows", desc := "()I" } : Jvm.MethodName) ∈ wq_TB := tb_0 21 rfl rfl
theorem tw_22 : Jvm.Cond.selects "WellPipesModel" ({ cls := "WellPipesModel", name := "finding", desc := "(I)I" } : Jvm.MethodName) ({ cls := "WellPipesModel", name := "finding", desc := "(I)I" } : Jvm.MethodName) ∈ wq_TB := tb_0 22 rfl rfl
theorem tw_23 : Jvm.Cond.selects "WellPipesModel" ({ cls := "WellPipesModel", name := "begin", desc := "()V" } : Jvm.MethodName) ({ cls := "WellPipesModel", name := "begin", desc := "()V" } : Jvm.MethodName) ∈ wq_TB := tb_0 23 rfl rfl
theorem tw_24 : Jvm.Cond.selects "WellPipesModel" ({ cls := "WellPipesModel", name := "nextToken", desc := "()V" } : Jvm.MethodName) ({ cls := "WellPipesModel", name := "nextToken", desc := "()V" } : Jvm.MethodName) ∈ wq_TB := tb_0 24 rfl rfl
theorem tw_25 : Jvm.Cond.selects "WellPipesModel" ({ cls := "WellPipesModel", name := "isLetter", desc := "(I)Z" } : Jvm.MethodName) ({ cls := "WellPipesModel", name := "isLetter", desc := "(I)Z" } : Jvm.MethodName) ∈ wq_TB := tb_0 25 rfl rfl
theorem tw_26 : Jvm.Cond.selects "WellPipesModel" ({ cls := "WellPipesModel", name := "must", desc := "(Z)V" } : Jvm.MethodName) ({ cls := "WellPipesModel", name := "must", desc := "(Z)V" } : Jvm.MethodName) ∈ wq_TB := tb_0 26 rfl rfl
theorem tw_27 : Jvm.Cond.selects "WellPipesModel" ({ cls := "WellPipesModel", name := "bad", desc := "(I)V" } : Jvm.MethodName) ({ cls := "WellPipesModel", name := "bad", desc := "(I)V" } : Jvm.MethodName) ∈ wq_TB := tb_0 27 rfl rfl
theorem tw_28 : Jvm.Cond.selects "WellPipesModel" ({ cls := "WellPipesModel", name := "number", desc := "(II)I" } : Jvm.MethodName) ({ cls := "WellPipesModel", name := "number", desc := "(II)I" } : Jvm.MethodName) ∈ wq_TB := tb_0 28 rfl rfl
theorem tw_29 : Jvm.Cond.selects "WellPipesModel" ({ cls := "WellPipesModel", name := "mustSign", desc := "(I)V" } : Jvm.MethodName) ({ cls := "WellPipesModel", name := "mustSign", desc := "(I)V" } : Jvm.MethodName) ∈ wq_TB := tb_0 29 rfl rfl
theorem tw_30 : Jvm.Cond.selects "WellPipesModel" ({ cls := "WellPipesModel", name := "isSort", desc := "()Z" } : Jvm.MethodName) ({ cls := "WellPipesModel", name := "isSort", desc := "()Z" } : Jvm.MethodName) ∈ wq_TB := tb_0 30 rfl rfl
theorem tw_31 : Jvm.Cond.selects "WellPipesModel" ({ cls := "WellPipesModel", name := "readGrade", desc := "()V" } : Jvm.MethodName) ({ cls := "WellPipesModel", name := "readGrade", desc := "()V" } : Jvm.MethodName) ∈ wq_TB := tb_0 31 rfl rfl
theorem tw_32 : Jvm.Cond.selects "WellPipesModel" ({ cls := "WellPipesModel", name := "failed", desc := "()Z" } : Jvm.MethodName) ({ cls := "WellPipesModel", name := "failed", desc := "()Z" } : Jvm.MethodName) ∈ wq_TB := tb_0 32 rfl rfl
theorem tw_33 : Jvm.Cond.selects "WellPipesModel" ({ cls := "WellPipesModel", name := "isStep", desc := "(I)Z" } : Jvm.MethodName) ({ cls := "WellPipesModel", name := "isStep", desc := "(I)Z" } : Jvm.MethodName) ∈ wq_TB := tb_0 33 rfl rfl
theorem tw_34 : Jvm.Cond.selects "WellPipesModel" ({ cls := "WellPipesModel", name := "isGrade", desc := "(I)Z" } : Jvm.MethodName) ({ cls := "WellPipesModel", name := "isGrade", desc := "(I)Z" } : Jvm.MethodName) ∈ wq_TB := tb_0 34 rfl rfl
theorem tw_35 : Jvm.Cond.selects "WellPipesModel" ({ cls := "WellPipesModel", name := "keep", desc := "()V" } : Jvm.MethodName) ({ cls := "WellPipesModel", name := "keep", desc := "()V" } : Jvm.MethodName) ∈ wq_TB := tb_0 35 rfl rfl
theorem tw_36 : Jvm.Cond.selects "WellPipesModel" ({ cls := "WellPipesModel", name := "isThere", desc := "()Z" } : Jvm.MethodName) ({ cls := "WellPipesModel", name := "isThere", desc := "()Z" } : Jvm.MethodName) ∈ wq_TB := tb_0 36 rfl rfl
theorem tw_37 : Jvm.Cond.selects "WellPipesModel" ({ cls := "WellPipesModel", name := "laysBest", desc := "([II)I" } : Jvm.MethodName) ({ cls := "WellPipesModel", name := "laysBest", desc := "([II)I" } : Jvm.MethodName) ∈ wq_TB := tb_0 37 rfl rfl
theorem tw_38 : Jvm.Cond.selects "WellPipesModel" ({ cls := "WellPipesModel", name := "leastAt", desc := "([IIIIII)I" } : Jvm.MethodName) ({ cls := "WellPipesModel", name := "leastAt", desc := "([IIIIII)I" } : Jvm.MethodName) ∈ wq_TB := tb_0 38 rfl rfl
theorem tw_39 : Jvm.Cond.selects "WellPipesModel" ({ cls := "WellPipesModel", name := "through", desc := "([IIIIII)I" } : Jvm.MethodName) ({ cls := "WellPipesModel", name := "through", desc := "([IIIIII)I" } : Jvm.MethodName) ∈ wq_TB := tb_0 39 rfl rfl
theorem tw_40 : Jvm.Cond.selects "WellPipesModel" ({ cls := "WellPipesModel", name := "firstLoose", desc := "()I" } : Jvm.MethodName) ({ cls := "WellPipesModel", name := "firstLoose", desc := "()I" } : Jvm.MethodName) ∈ wq_TB := tb_0 40 rfl rfl
theorem tw_41 : Jvm.Cond.selects "WellPipesModel" ({ cls := "WellPipesModel", name := "layThen", desc := "()V" } : Jvm.MethodName) ({ cls := "WellPipesModel", name := "layThen", desc := "()V" } : Jvm.MethodName) ∈ wq_TB := tb_0 41 rfl rfl
theorem tw_42 : Jvm.Cond.selects "WellPipesModel" ({ cls := "WellPipesModel", name := "heftAt", desc := "(I)I" } : Jvm.MethodName) ({ cls := "WellPipesModel", name := "heftAt", desc := "(I)I" } : Jvm.MethodName) ∈ wq_TB := tb_0 42 rfl rfl
theorem tw_43 : Jvm.Cond.selects "WellPipesModel" ({ cls := "WellPipesModel", name := "bestTurn", desc := "(II)I" } : Jvm.MethodName) ({ cls := "WellPipesModel", name := "bestTurn", desc := "(II)I" } : Jvm.MethodName) ∈ wq_TB := tb_0 43 rfl rfl
theorem tw_44 : Jvm.Cond.selects "WellPipesModel" ({ cls := "WellPipesModel", name := "rowFound", desc := "(III)I" } : Jvm.MethodName) ({ cls := "WellPipesModel", name := "rowFound", desc := "(III)I" } : Jvm.MethodName) ∈ wq_TB := tb_0 44 rfl rfl
theorem tw_45 : Jvm.Cond.selects "WellPipesModel" ({ cls := "WellPipesModel", name := "sizeOf", desc := "(I)I" } : Jvm.MethodName) ({ cls := "WellPipesModel", name := "sizeOf", desc := "(I)I" } : Jvm.MethodName) ∈ wq_TB := tb_0 45 rfl rfl
theorem tw_46 : Jvm.Cond.selects "WellPipesModel" ({ cls := "WellPipesModel", name := "thickSize", desc := "(I)I" } : Jvm.MethodName) ({ cls := "WellPipesModel", name := "thickSize", desc := "(I)I" } : Jvm.MethodName) ∈ wq_TB := tb_0 46 rfl rfl
theorem tw_47 : Jvm.Cond.selects "WellPipesModel" ({ cls := "WellPipesModel", name := "began", desc := "(I)V" } : Jvm.MethodName) ({ cls := "WellPipesModel", name := "began", desc := "(I)V" } : Jvm.MethodName) ∈ wq_TB := tb_0 47 rfl rfl
theorem tw_48 : Jvm.Cond.selects "WellPipesModel" ({ cls := "WellPipesModel", name := "plainSize", desc := "(I)I" } : Jvm.MethodName) ({ cls := "WellPipesModel", name := "plainSize", desc := "(I)I" } : Jvm.MethodName) ∈ wq_TB := tb_0 48 rfl rfl
theorem tw_49 : Jvm.Cond.selects "WellPipesModel" ({ cls := "WellPipesModel", name := "markOf", desc := "(I)I" } : Jvm.MethodName) ({ cls := "WellPipesModel", name := "markOf", desc := "(I)I" } : Jvm.MethodName) ∈ wq_TB := tb_0 49 rfl rfl
theorem tw_50 : Jvm.Cond.initialized "WellPipesLaw" ∈ wq_TB := tb_1 0 rfl rfl
theorem tw_51 : Jvm.Cond.initialized "WellPipes" ∈ wq_TB := tb_1 1 rfl rfl
theorem tw_52 : Jvm.Cond.initialized "WellPipes$Reader" ∈ wq_TB := tb_1 2 rfl rfl
theorem tw_53 : Jvm.Cond.initialized "WellPipes$Well" ∈ wq_TB := tb_1 3 rfl rfl
theorem tw_54 : Jvm.Cond.initialized "WellPipes$Search" ∈ wq_TB := tb_1 4 rfl rfl
theorem tw_55 : Jvm.Cond.initialized "WellPipes$Acts" ∈ wq_TB := tb_1 5 rfl rfl
theorem tw_56 : Jvm.Cond.initialized "WellPipes$Asks" ∈ wq_TB := tb_1 6 rfl rfl
theorem tw_57 : Jvm.Cond.initialized "WellPipes$Row" ∈ wq_TB := tb_1 7 rfl rfl
theorem tw_58 : Jvm.Cond.initialized "WellPipesModel" ∈ wq_TB := tb_1 8 rfl rfl
theorem tw_59 : Jvm.Cond.initialized "java/util/Arrays" ∈ wq_TB := tb_1 9 rfl rfl
theorem tw_60 : Jvm.Cond.initialized "java/lang/System" ∈ wq_TB := tb_1 10 rfl rfl
theorem tw_61 : Jvm.Cond.initialized "java/lang/Math" ∈ wq_TB := tb_1 11 rfl rfl
theorem tw_64 : Jvm.Cond.methodLink "WellPipesLaw" (9 : Nat) ({ cls := "WellPipes", name := "<init>", desc := "()V" } : Jvm.MethodName) ∈ wq_TB := tb_1 14 rfl rfl
theorem tw_65 : Jvm.Cond.instanceMethod ({ cls := "WellPipes", name := "<init>", desc := "()V" } : Jvm.MethodName) ∈ wq_TB := tb_1 15 rfl rfl
theorem tw_66 : Jvm.Cond.code ({ cls := "WellPipes", name := "<init>", desc := "()V" } : Jvm.MethodName) prog_1_method_1_code (2 : Nat) (Option.none : Option Jvm.ClassFile.FieldType) ∈ wq_TB := tb_1 16 rfl rfl
theorem tw_67 : Jvm.Cond.methodLink "WellPipes" (1 : Nat) ({ cls := "java/lang/Object", name := "<init>", desc := "()V" } : Jvm.MethodName) ∈ wq_TB := tb_1 17 rfl rfl
theorem tw_68 : Jvm.Cond.instanceMethod ({ cls := "java/lang/Object", name := "<init>", desc := "()V" } : Jvm.MethodName) ∈ wq_TB := tb_1 18 rfl rfl
theorem tw_69 : Jvm.Cond.code ({ cls := "java/lang/Object", name := "<init>", desc := "()V" } : Jvm.MethodName) object_method_1_code (1 : Nat) (Option.none : Option Jvm.ClassFile.FieldType) ∈ wq_TB := tb_1 19 rfl rfl
theorem tw_75 : Jvm.Cond.instanceMethod ({ cls := "WellPipes$Reader", name := "<init>", desc := "()V" } : Jvm.MethodName) ∈ wq_TB := tb_1 25 rfl rfl
theorem tw_76 : Jvm.Cond.code ({ cls := "WellPipes$Reader", name := "<init>", desc := "()V" } : Jvm.MethodName) prog_4_method_1_code (1 : Nat) (Option.none : Option Jvm.ClassFile.FieldType) ∈ wq_TB := tb_1 26 rfl rfl
theorem tw_77 : Jvm.Cond.methodLink "WellPipes$Reader" (3 : Nat) ({ cls := "java/lang/Object", name := "<init>", desc := "()V" } : Jvm.MethodName) ∈ wq_TB := tb_1 27 rfl rfl
theorem tw_78 : Jvm.Cond.fieldLink "WellPipes$Reader" (9 : Nat) "WellPipes$Reader" "bytes" "[I" ∈ wq_TB := tb_1 28 rfl rfl
theorem tw_79 : Jvm.Cond.fieldLink "WellPipes$Reader" (15 : Nat) "WellPipes$Reader" "length" "I" ∈ wq_TB := tb_1 29 rfl rfl
theorem tw_80 : Jvm.Cond.fieldLink "WellPipes" (106 : Nat) "WellPipes$Reader" "length" "I" ∈ wq_TB := tb_1 30 rfl rfl
theorem tw_81 : Jvm.Cond.fieldLink "WellPipes" (115 : Nat) "WellPipes$Reader" "faultPlace" "I" ∈ wq_TB := tb_1 31 rfl rfl
theorem tw_82 : Jvm.Cond.fieldLink "WellPipes$Reader" (93 : Nat) "WellPipes$Reader" "faultPlace" "I" ∈ wq_TB := tb_1 32 rfl rfl
theorem tw_83 : Jvm.Cond.fieldLink "WellPipes" (128 : Nat) "WellPipes$Reader" "latestFault" "I" ∈ wq_TB := tb_1 33 rfl rfl
theorem tw_84 : Jvm.Cond.fieldLink "WellPipes$Reader" (96 : Nat) "WellPipes$Reader" "latestFault" "I" ∈ wq_TB := tb_1 34 rfl rfl
theorem tw_85 : Jvm.Cond.fieldLink "WellPipes$Reader" (19 : Nat) "WellPipes$Reader" "at" "I" ∈ wq_TB := tb_1 35 rfl rfl
theorem tw_86 : Jvm.Cond.fieldLink "WellPipes$Reader" (22 : Nat) "WellPipes$Reader" "failed" "Z" ∈ wq_TB := tb_1 36 rfl rfl
theorem tw_104 : Jvm.Cond.instanceMethod ({ cls := "WellPipes$Well", name := "<init>", desc := "()V" } : Jvm.MethodName) ∈ wq_TB := tb_1 54 rfl rfl
theorem tw_105 : Jvm.Cond.code ({ cls := "WellPipes$Well", name := "<init>", desc := "()V" } : Jvm.MethodName) prog_7_method_1_code (1 : Nat) (Option.none : Option Jvm.ClassFile.FieldType) ∈ wq_TB := tb_1 55 rfl rfl
theorem tw_106 : Jvm.Cond.methodLink "WellPipes$Well" (3 : Nat) ({ cls := "java/lang/Object", name := "<init>", desc := "()V" } : Jvm.MethodName) ∈ wq_TB := tb_1 56 rfl rfl
theorem tw_107 : Jvm.Cond.fieldLink "WellPipes$Well" (24 : Nat) "WellPipes$Well" "steps" "I" ∈ wq_TB := tb_1 57 rfl rfl
theorem tw_108 : Jvm.Cond.fieldLink "WellPipes$Search" (55 : Nat) "WellPipes$Well" "steps" "I" ∈ wq_TB := tb_1 58 rfl rfl
theorem tw_109 : Jvm.Cond.fieldLink "WellPipes$Reader" (59 : Nat) "WellPipes$Well" "steps" "I" ∈ wq_TB := tb_1 59 rfl rfl
theorem tw_110 : Jvm.Cond.fieldLink "WellPipes" (211 : Nat) "WellPipes$Well" "steps" "I" ∈ wq_TB := tb_1 60 rfl rfl
theorem tw_111 : Jvm.Cond.fieldLink "WellPipes$Well" (28 : Nat) "WellPipes$Well" "grades" "I" ∈ wq_TB := tb_1 61 rfl rfl
theorem tw_112 : Jvm.Cond.fieldLink "WellPipes$Search" (61 : Nat) "WellPipes$Well" "grades" "I" ∈ wq_TB := tb_1 62 rfl rfl
theorem tw_113 : Jvm.Cond.fieldLink "WellPipes$Reader" (33 : Nat) "WellPipes$Well" "grades" "I" ∈ wq_TB := tb_1 63 rfl rfl
theorem tw_114 : Jvm.Cond.fieldLink "WellPipes" (125 : Nat) "WellPipes$Well" "grades" "I" ∈ wq_TB := tb_1 64 rfl rfl
theorem tw_115 : Jvm.Cond.fieldLink "WellPipes$Well" (9 : Nat) "WellPipes$Well" "rules" "[I" ∈ wq_TB := tb_1 65 rfl rfl
theorem tw_116 : Jvm.Cond.fieldLink "WellPipes$Search" (31 : Nat) "WellPipes$Well" "rules" "[I" ∈ wq_TB := tb_1 66 rfl rfl
theorem tw_117 : Jvm.Cond.fieldLink "WellPipes$Acts" (38 : Nat) "WellPipes$Well" "rules" "[I" ∈ wq_TB := tb_1 67 rfl rfl
theorem tw_118 : Jvm.Cond.fieldLink "WellPipes$Reader" (62 : Nat) "WellPipes$Well" "rules" "[I" ∈ wq_TB := tb_1 68 rfl rfl
theorem tw_119 : Jvm.Cond.fieldLink "WellPipes" (174 : Nat) "WellPipes$Well" "rules" "[I" ∈ wq_TB := tb_1 69 rfl rfl
theorem tw_120 : Jvm.Cond.fieldLink "WellPipes$Well" (15 : Nat) "WellPipes$Well" "kinds" "[I" ∈ wq_TB := tb_1 70 rfl rfl
theorem tw_121 : Jvm.Cond.fieldLink "WellPipes$Asks" (34 : Nat) "WellPipes$Well" "kinds" "[I" ∈ wq_TB := tb_1 71 rfl rfl
theorem tw_122 : Jvm.Cond.fieldLink "WellPipes$Reader" (77 : Nat) "WellPipes$Well" "kinds" "[I" ∈ wq_TB := tb_1 72 rfl rfl
theorem tw_123 : Jvm.Cond.fieldLink "WellPipes" (236 : Nat) "WellPipes$Well" "kinds" "[I" ∈ wq_TB := tb_1 73 rfl rfl
theorem tw_124 : Jvm.Cond.fieldLink "WellPipes$Well" (18 : Nat) "WellPipes$Well" "figures" "[I" ∈ wq_TB := tb_1 74 rfl rfl
theorem tw_125 : Jvm.Cond.fieldLink "WellPipes$Well" (21 : Nat) "WellPipes$Well" "laid" "[I" ∈ wq_TB := tb_1 75 rfl rfl
theorem tw_126 : Jvm.Cond.fieldLink "WellPipes$Reader" (42 : Nat) "WellPipes$Well" "laid" "[I" ∈ wq_TB := tb_1 76 rfl rfl
theorem tw_127 : Jvm.Cond.fieldLink "WellPipes" (144 : Nat) "WellPipes$Well" "laid" "[I" ∈ wq_TB := tb_1 77 rfl rfl
theorem tw_145 : Jvm.Cond.instanceMethod ({ cls := "WellPipes$Search", name := "<init>", desc := "()V" } : Jvm.MethodName) ∈ wq_TB := tb_1 95 rfl rfl
theorem tw_146 : Jvm.Cond.code ({ cls := "WellPipes$Search", name := "<init>", desc := "()V" } : Jvm.MethodName) prog_6_method_1_code (1 : Nat) (Option.none : Option Jvm.ClassFile.FieldType) ∈ wq_TB := tb_1 96 rfl rfl
theorem tw_147 : Jvm.Cond.methodLink "WellPipes$Search" (5 : Nat) ({ cls := "java/lang/Object", name := "<init>", desc := "()V" } : Jvm.MethodName) ∈ wq_TB := tb_1 97 rfl rfl
theorem tw_148 : Jvm.Cond.fieldLink "WellPipes$Search" (11 : Nat) "WellPipes$Search" "string" "[I" ∈ wq_TB := tb_1 98 rfl rfl
theorem tw_149 : Jvm.Cond.fieldLink "WellPipes" (162 : Nat) "WellPipes$Search" "string" "[I" ∈ wq_TB := tb_1 99 rfl rfl
theorem tw_150 : Jvm.Cond.fieldLink "WellPipes$Search" (95 : Nat) "WellPipes$Search" "cost" "I" ∈ wq_TB := tb_1 100 rfl rfl
theorem tw_151 : Jvm.Cond.fieldLink "WellPipes" (165 : Nat) "WellPipes$Search" "cost" "I" ∈ wq_TB := tb_1 101 rfl rfl
theorem tw_152 : Jvm.Cond.fieldLink "WellPipes$Search" (92 : Nat) "WellPipes$Search" "heft" "I" ∈ wq_TB := tb_1 102 rfl rfl
theorem tw_153 : Jvm.Cond.fieldLink "WellPipes" (223 : Nat) "WellPipes$Search" "heft" "I" ∈ wq_TB := tb_1 103 rfl rfl
theorem tw_154 : Jvm.Cond.fieldLink "WellPipes$Search" (15 : Nat) "WellPipes$Search" "below" "[I" ∈ wq_TB := tb_1 104 rfl rfl
theorem tw_155 : Jvm.Cond.fieldLink "WellPipes$Search" (18 : Nat) "WellPipes$Search" "above" "[I" ∈ wq_TB := tb_1 105 rfl rfl
theorem tw_156 : Jvm.Cond.fieldLink "WellPipes$Search" (21 : Nat) "WellPipes$Search" "wholeBelow" "[I" ∈ wq_TB := tb_1 106 rfl rfl
theorem tw_157 : Jvm.Cond.fieldLink "WellPipes$Search" (24 : Nat) "WellPipes$Search" "wholeAbove" "[I" ∈ wq_TB := tb_1 107 rfl rfl
theorem tw_158 : Jvm.Cond.fieldLink "WellPipes$Search" (27 : Nat) "WellPipes$Search" "well" "LWellPipes$Well;" ∈ wq_TB := tb_1 108 rfl rfl
theorem tw_159 : Jvm.Cond.fieldLink "WellPipes$Search" (45 : Nat) "WellPipes$Search" "least" "I" ∈ wq_TB := tb_1 109 rfl rfl
theorem tw_182 : Jvm.Cond.instanceMethod ({ cls := "WellPipes$Acts", name := "<init>", desc := "()V" } : Jvm.MethodName) ∈ wq_TB := tb_1 132 rfl rfl
theorem tw_183 : Jvm.Cond.code ({ cls := "WellPipes$Acts", name := "<init>", desc := "()V" } : Jvm.MethodName) prog_2_method_1_code (1 : Nat) (Option.none : Option Jvm.ClassFile.FieldType) ∈ wq_TB := tb_1 133 rfl rfl
theorem tw_184 : Jvm.Cond.methodLink "WellPipes$Acts" (5 : Nat) ({ cls := "java/lang/Object", name := "<init>", desc := "()V" } : Jvm.MethodName) ∈ wq_TB := tb_1 134 rfl rfl
theorem tw_185 : Jvm.Cond.fieldLink "WellPipes$Acts" (11 : Nat) "WellPipes$Acts" "whats" "[I" ∈ wq_TB := tb_1 135 rfl rfl
theorem tw_186 : Jvm.Cond.fieldLink "WellPipes$Acts" (15 : Nat) "WellPipes$Acts" "befores" "[I" ∈ wq_TB := tb_1 136 rfl rfl
theorem tw_187 : Jvm.Cond.fieldLink "WellPipes$Acts" (18 : Nat) "WellPipes$Acts" "kept" "I" ∈ wq_TB := tb_1 137 rfl rfl
theorem tw_188 : Jvm.Cond.fieldLink "WellPipes" (131 : Nat) "WellPipes$Acts" "kept" "I" ∈ wq_TB := tb_1 138 rfl rfl
theorem tw_199 : Jvm.Cond.instanceMethod ({ cls := "WellPipes$Asks", name := "<init>", desc := "()V" } : Jvm.MethodName) ∈ wq_TB := tb_1 149 rfl rfl
theorem tw_200 : Jvm.Cond.code ({ cls := "WellPipes$Asks", name := "<init>", desc := "()V" } : Jvm.MethodName) prog_3_method_1_code (1 : Nat) (Option.none : Option Jvm.ClassFile.FieldType) ∈ wq_TB := tb_1 150 rfl rfl
theorem tw_201 : Jvm.Cond.methodLink "WellPipes$Asks" (3 : Nat) ({ cls := "java/lang/Object", name := "<init>", desc := "()V" } : Jvm.MethodName) ∈ wq_TB := tb_1 151 rfl rfl
theorem tw_202 : Jvm.Cond.fieldLink "WellPipes$Asks" (9 : Nat) "WellPipes$Asks" "bodies" "[I" ∈ wq_TB := tb_1 152 rfl rfl
theorem tw_203 : Jvm.Cond.fieldLink "WellPipes" (283 : Nat) "WellPipes$Asks" "bodies" "[I" ∈ wq_TB := tb_1 153 rfl rfl
theorem tw_204 : Jvm.Cond.fieldLink "WellPipes$Asks" (23 : Nat) "WellPipes$Asks" "left" "I" ∈ wq_TB := tb_1 154 rfl rfl
theorem tw_205 : Jvm.Cond.fieldLink "WellPipes" (280 : Nat) "WellPipes$Asks" "left" "I" ∈ wq_TB := tb_1 155 rfl rfl
theorem tw_206 : Jvm.Cond.fieldLink "WellPipes$Asks" (15 : Nat) "WellPipes$Asks" "well" "LWellPipes$Well;" ∈ wq_TB := tb_1 156 rfl rfl
theorem tw_207 : Jvm.Cond.fieldLink "WellPipes$Asks" (19 : Nat) "WellPipes$Asks" "one" "I" ∈ wq_TB := tb_1 157 rfl rfl
theorem tw_219 : Jvm.Cond.instanceMethod ({ cls := "WellPipes$Row", name := "<init>", desc := "()V" } : Jvm.MethodName) ∈ wq_TB := tb_1 169 rfl rfl
theorem tw_220 : Jvm.Cond.code ({ cls := "WellPipes$Row", name := "<init>", desc := "()V" } : Jvm.MethodName) prog_5_method_1_code (1 : Nat) (Option.none : Option Jvm.ClassFile.FieldType) ∈ wq_TB := tb_1 170 rfl rfl
theorem tw_221 : Jvm.Cond.methodLink "WellPipes$Row" (3 : Nat) ({ cls := "java/lang/Object", name := "<init>", desc := "()V" } : Jvm.MethodName) ∈ wq_TB := tb_1 171 rfl rfl
theorem tw_222 : Jvm.Cond.fieldLink "WellPipes$Row" (9 : Nat) "WellPipes$Row" "items" "[I" ∈ wq_TB := tb_1 172 rfl rfl
theorem tw_223 : Jvm.Cond.fieldLink "WellPipes" (90 : Nat) "WellPipes$Row" "items" "[I" ∈ wq_TB := tb_1 173 rfl rfl
theorem tw_224 : Jvm.Cond.fieldLink "WellPipes$Row" (19 : Nat) "WellPipes$Row" "lane" "I" ∈ wq_TB := tb_1 174 rfl rfl
theorem tw_225 : Jvm.Cond.fieldLink "WellPipes" (86 : Nat) "WellPipes$Row" "lane" "I" ∈ wq_TB := tb_1 175 rfl rfl
theorem tw_226 : Jvm.Cond.fieldLink "WellPipes$Row" (15 : Nat) "WellPipes$Row" "size" "I" ∈ wq_TB := tb_1 176 rfl rfl
theorem tw_227 : Jvm.Cond.fieldLink "WellPipes" (100 : Nat) "WellPipes$Row" "size" "I" ∈ wq_TB := tb_1 177 rfl rfl
theorem tw_235 : Jvm.Cond.fieldLink "WellPipes" (11 : Nat) "WellPipes" "rows" "[LWellPipes$Row;" ∈ wq_TB := tb_1 185 rfl rfl
theorem tw_236 : Jvm.Cond.fieldLink "WellPipes" (18 : Nat) "WellPipes" "reader" "LWellPipes$Reader;" ∈ wq_TB := tb_1 186 rfl rfl
theorem tw_237 : Jvm.Cond.fieldLink "WellPipes" (25 : Nat) "WellPipes" "now" "LWellPipes$Well;" ∈ wq_TB := tb_1 187 rfl rfl
theorem tw_238 : Jvm.Cond.fieldLink "WellPipes" (29 : Nat) "WellPipes" "supposed" "LWellPipes$Well;" ∈ wq_TB := tb_1 188 rfl rfl
theorem tw_239 : Jvm.Cond.fieldLink "WellPipes" (32 : Nat) "WellPipes" "images" "[LWellPipes$Well;" ∈ wq_TB := tb_1 189 rfl rfl
theorem tw_240 : Jvm.Cond.fieldLink "WellPipes" (39 : Nat) "WellPipes" "search" "LWellPipes$Search;" ∈ wq_TB := tb_1 190 rfl rfl
theorem tw_241 : Jvm.Cond.fieldLink "WellPipes" (46 : Nat) "WellPipes" "acts" "LWellPipes$Acts;" ∈ wq_TB := tb_1 191 rfl rfl
theorem tw_242 : Jvm.Cond.fieldLink "WellPipes" (53 : Nat) "WellPipes" "asks" "LWellPipes$Asks;" ∈ wq_TB := tb_1 192 rfl rfl
theorem tw_243 : Jvm.Cond.fieldLink "WellPipes" (295 : Nat) "WellPipes" "finding" "I" ∈ wq_TB := tb_1 193 rfl rfl
theorem tw_263 : Jvm.Cond.methodLink "WellPipesLaw" (13 : Nat) ({ cls := "WellPipes", name := "row", desc := "(III)I" } : Jvm.MethodName) ∈ wq_TB := tb_1 213 rfl rfl
theorem tw_264 : Jvm.Cond.instanceMethod ({ cls := "WellPipes", name := "row", desc := "(III)I" } : Jvm.MethodName) ∈ wq_TB := tb_1 214 rfl rfl
theorem tw_265 : Jvm.Cond.selects "WellPipes" ({ cls := "WellPipes", name := "row", desc := "(III)I" } : Jvm.MethodName) ({ cls := "WellPipes", name := "row", desc := "(III)I" } : Jvm.MethodName) ∈ wq_TB := tb_1 215 rfl rfl
theorem tw_266 : Jvm.Cond.code ({ cls := "WellPipes", name := "row", desc := "(III)I" } : Jvm.MethodName) prog_1_method_2_code (4 : Nat) (Option.some Jvm.ClassFile.FieldType.int) ∈ wq_TB := tb_1 216 rfl rfl
theorem tw_267 : Jvm.Cond.methodLink "WellPipes" (58 : Nat) ({ cls := "WellPipes", name := "isRow", desc := "(I)Z" } : Jvm.MethodName) ∈ wq_TB := tb_1 217 rfl rfl
theorem tw_268 : Jvm.Cond.static ({ cls := "WellPipes", name := "isRow", desc := "(I)Z" } : Jvm.MethodName) ∈ wq_TB := tb_1 218 rfl rfl
theorem tw_269 : Jvm.Cond.code ({ cls := "WellPipes", name := "isRow", desc := "(I)Z" } : Jvm.MethodName) prog_1_method_38_code (1 : Nat) (Option.some Jvm.ClassFile.FieldType.boolean) ∈ wq_TB := tb_1 219 rfl rfl
theorem tw_270 : Jvm.Cond.constant "WellPipes" (62 : Nat) (-1000001 : Int32) ∈ wq_TB := tb_1 220 rfl rfl
theorem tw_271 : Jvm.Cond.methodLink "WellPipes" (63 : Nat) ({ cls := "WellPipes", name := "found", desc := "(I)I" } : Jvm.MethodName) ∈ wq_TB := tb_1 221 rfl rfl
theorem tw_273 : Jvm.Cond.instanceMethod ({ cls := "WellPipes", name := "found", desc := "(I)I" } : Jvm.MethodName) ∈ wq_TB := tb_1 223 rfl rfl
theorem tw_274 : Jvm.Cond.code ({ cls := "WellPipes", name := "found", desc := "(I)I" } : Jvm.MethodName) prog_1_method_36_code (2 : Nat) (Option.some Jvm.ClassFile.FieldType.int) ∈ wq_TB := tb_1 224 rfl rfl
theorem tw_275 : Jvm.Cond.constant "WellPipes" (298 : Nat) (-1000010 : Int32) ∈ wq_TB := tb_1 225 rfl rfl
theorem tw_276 : Jvm.Cond.methodLink "WellPipes" (67 : Nat) ({ cls := "WellPipes$Row", name := "begin", desc := "(II)V" } : Jvm.MethodName) ∈ wq_TB := tb_1 226 rfl rfl
theorem tw_277 : Jvm.Cond.instanceMethod ({ cls := "WellPipes$Row", name := "begin", desc := "(II)V" } : Jvm.MethodName) ∈ wq_TB := tb_1 227 rfl rfl
theorem tw_278 : Jvm.Cond.selects "WellPipes$Row" ({ cls := "WellPipes$Row", name := "begin", desc := "(II)V" } : Jvm.MethodName) ({ cls := "WellPipes$Row", name := "begin", desc := "(II)V" } : Jvm.MethodName) ∈ wq_TB := tb_1 228 rfl rfl
theorem tw_279 : Jvm.Cond.code ({ cls := "WellPipes$Row", name := "begin", desc := "(II)V" } : Jvm.MethodName) prog_5_method_3_code (3 : Nat) (Option.none : Option Jvm.ClassFile.FieldType) ∈ wq_TB := tb_1 229 rfl rfl
theorem tw_280 : Jvm.Cond.methodLink "WellPipes$Row" (22 : Nat) ({ cls := "java/util/Arrays", name := "fill", desc := "([II)V" } : Jvm.MethodName) ∈ wq_TB := tb_1 230 rfl rfl
theorem tw_281 : Jvm.Cond.static ({ cls := "java/util/Arrays", name := "fill", desc := "([II)V" } : Jvm.MethodName) ∈ wq_TB := tb_1 231 rfl rfl
theorem tw_282 : Jvm.Cond.code ({ cls := "java/util/Arrays", name := "fill", desc := "([II)V" } : Jvm.MethodName) prog_12_method_103_code (4 : Nat) (Option.none : Option Jvm.ClassFile.FieldType) ∈ wq_TB := tb_1 232 rfl rfl
theorem tw_283 : Jvm.Cond.methodLink "WellPipes" (71 : Nat) ({ cls := "WellPipes", name := "passed", desc := "(I)I" } : Jvm.MethodName) ∈ wq_TB := tb_1 233 rfl rfl
theorem tw_285 : Jvm.Cond.instanceMethod ({ cls := "WellPipes", name := "passed", desc := "(I)I" } : Jvm.MethodName) ∈ wq_TB := tb_1 235 rfl rfl
theorem tw_286 : Jvm.Cond.code ({ cls := "WellPipes", name := "passed", desc := "(I)I" } : Jvm.MethodName) prog_1_method_37_code (2 : Nat) (Option.some Jvm.ClassFile.FieldType.int) ∈ wq_TB := tb_1 236 rfl rfl
theorem tw_287 : Jvm.Cond.methodLink "WellPipesLaw" (18 : Nat) ({ cls := "WellPipes", name := "set", desc := "(III)I" } : Jvm.MethodName) ∈ wq_TB := tb_1 237 rfl rfl
theorem tw_288 : Jvm.Cond.instanceMethod ({ cls := "WellPipes", name := "set", desc := "(III)I" } : Jvm.MethodName) ∈ wq_TB := tb_1 238 rfl rfl
theorem tw_289 : Jvm.Cond.selects "WellPipes" ({ cls := "WellPipes", name := "set", desc := "(III)I" } : Jvm.MethodName) ({ cls := "WellPipes", name := "set", desc := "(III)I" } : Jvm.MethodName) ∈ wq_TB := tb_1 239 rfl rfl
theorem tw_290 : Jvm.Cond.code ({ cls := "WellPipes", name := "set", desc := "(III)I" } : Jvm.MethodName) prog_1_method_3_code (5 : Nat) (Option.some Jvm.ClassFile.FieldType.int) ∈ wq_TB := tb_2 0 rfl rfl
theorem tw_291 : Jvm.Cond.methodLink "WellPipes" (74 : Nat) ({ cls := "WellPipes$Row", name := "isMissing", desc := "()Z" } : Jvm.MethodName) ∈ wq_TB := tb_2 1 rfl rfl
theorem tw_292 : Jvm.Cond.instanceMethod ({ cls := "WellPipes$Row", name := "isMissing", desc := "()Z" } : Jvm.MethodName) ∈ wq_TB := tb_2 2 rfl rfl
theorem tw_293 : Jvm.Cond.selects "WellPipes$Row" ({ cls := "WellPipes$Row", name := "isMissing", desc := "()Z" } : Jvm.MethodName) ({ cls := "WellPipes$Row", name := "isMissing", desc := "()Z" } : Jvm.MethodName) ∈ wq_TB := tb_2 3 rfl rfl
theorem tw_294 : Jvm.Cond.code ({ cls := "WellPipes$Row", name := "isMissing", desc := "()Z" } : Jvm.MethodName) prog_5_method_2_code (1 : Nat) (Option.some Jvm.ClassFile.FieldType.boolean) ∈ wq_TB := tb_2 4 rfl rfl
theorem tw_295 : Jvm.Cond.methodLink "WellPipes" (78 : Nat) ({ cls := "WellPipes$Row", name := "hasPlaces", desc := "(II)Z" } : Jvm.MethodName) ∈ wq_TB := tb_2 5 rfl rfl
theorem tw_296 : Jvm.Cond.instanceMethod ({ cls := "WellPipes$Row", name := "hasPlaces", desc := "(II)Z" } : Jvm.MethodName) ∈ wq_TB := tb_2 6 rfl rfl
theorem tw_297 : Jvm.Cond.selects "WellPipes$Row" ({ cls := "WellPipes$Row", name := "hasPlaces", desc := "(II)Z" } : Jvm.MethodName) ({ cls := "WellPipes$Row", name := "hasPlaces", desc := "(II)Z" } : Jvm.MethodName) ∈ wq_TB := tb_2 7 rfl rfl
theorem tw_298 : Jvm.Cond.code ({ cls := "WellPipes$Row", name := "hasPlaces", desc := "(II)Z" } : Jvm.MethodName) prog_5_method_4_code (3 : Nat) (Option.some Jvm.ClassFile.FieldType.boolean) ∈ wq_TB := tb_2 8 rfl rfl
theorem tw_299 : Jvm.Cond.methodLink "WellPipes" (82 : Nat) ({ cls := "WellPipes$Row", name := "put", desc := "(II)I" } : Jvm.MethodName) ∈ wq_TB := tb_2 9 rfl rfl
theorem tw_300 : Jvm.Cond.instanceMethod ({ cls := "WellPipes$Row", name := "put", desc := "(II)I" } : Jvm.MethodName) ∈ wq_TB := tb_2 10 rfl rfl
theorem tw_301 : Jvm.Cond.selects "WellPipes$Row" ({ cls := "WellPipes$Row", name := "put", desc := "(II)I" } : Jvm.MethodName) ({ cls := "WellPipes$Row", name := "put", desc := "(II)I" } : Jvm.MethodName) ∈ wq_TB := tb_2 11 rfl rfl
theorem tw_302 : Jvm.Cond.code ({ cls := "WellPipes$Row", name := "put", desc := "(II)I" } : Jvm.MethodName) prog_5_method_5_code (3 : Nat) (Option.some Jvm.ClassFile.FieldType.int) ∈ wq_TB := tb_2 12 rfl rfl
theorem tw_303 : Jvm.Cond.methodLink "WellPipesLaw" (22 : Nat) ({ cls := "WellPipes", name := "copy", desc := "(IIIII)I" } : Jvm.MethodName) ∈ wq_TB := tb_2 13 rfl rfl
theorem tw_304 : Jvm.Cond.instanceMethod ({ cls := "WellPipes", name := "copy", desc := "(IIIII)I" } : Jvm.MethodName) ∈ wq_TB := tb_2 14 rfl rfl
theorem tw_305 : Jvm.Cond.selects "WellPipes" ({ cls := "WellPipes", name := "copy", desc := "(IIIII)I" } : Jvm.MethodName) ({ cls := "WellPipes", name := "copy", desc := "(IIIII)I" } : Jvm.MethodName) ∈ wq_TB := tb_2 15 rfl rfl
theorem tw_306 : Jvm.Cond.code ({ cls := "WellPipes", name := "copy", desc := "(IIIII)I" } : Jvm.MethodName) prog_1_method_4_code (8 : Nat) (Option.some Jvm.ClassFile.FieldType.int) ∈ wq_TB := tb_2 16 rfl rfl
theorem tw_307 : Jvm.Cond.methodLink "WellPipes" (94 : Nat) ({ cls := "java/lang/System", name := "arraycopy", desc := "(Ljava/lang/Object;ILjava/lang/Object;II)V" } : Jvm.MethodName) ∈ wq_TB := tb_2 17 rfl rfl
theorem tw_308 : Jvm.Cond.static ({ cls := "java/lang/System", name := "arraycopy", desc := "(Ljava/lang/Object;ILjava/lang/Object;II)V" } : Jvm.MethodName) ∈ wq_TB := tb_2 18 rfl rfl
theorem tw_309 : Jvm.Cond.native ({ cls := "java/lang/System", name := "arraycopy", desc := "(Ljava/lang/Object;ILjava/lang/Object;II)V" } : Jvm.MethodName) ∈ wq_TB := tb_2 19 rfl rfl
theorem tw_310 : Jvm.Cond.methodLink "WellPipesLaw" (27 : Nat) ({ cls := "WellPipes", name := "drop", desc := "(I)I" } : Jvm.MethodName) ∈ wq_TB := tb_2 20 rfl rfl
theorem tw_311 : Jvm.Cond.instanceMethod ({ cls := "WellPipes", name := "drop", desc := "(I)I" } : Jvm.MethodName) ∈ wq_TB := tb_2 21 rfl rfl
theorem tw_312 : Jvm.Cond.selects "WellPipes" ({ cls := "WellPipes", name := "drop", desc := "(I)I" } : Jvm.MethodName) ({ cls := "WellPipes", name := "drop", desc := "(I)I" } : Jvm.MethodName) ∈ wq_TB := tb_2 22 rfl rfl
theorem tw_313 : Jvm.Cond.code ({ cls := "WellPipes", name := "drop", desc := "(I)I" } : Jvm.MethodName) prog_1_method_5_code (4 : Nat) (Option.some Jvm.ClassFile.FieldType.int) ∈ wq_TB := tb_2 23 rfl rfl
theorem tw_314 : Jvm.Cond.methodLink "WellPipesLaw" (32 : Nat) ({ cls := "WellPipes", name := "feed", desc := "(I)I" } : Jvm.MethodName) ∈ wq_TB := tb_2 24 rfl rfl
theorem tw_315 : Jvm.Cond.instanceMethod ({ cls := "WellPipes", name := "feed", desc := "(I)I" } : Jvm.MethodName) ∈ wq_TB := tb_2 25 rfl rfl
theorem tw_316 : Jvm.Cond.selects "WellPipes" ({ cls := "WellPipes", name := "feed", desc := "(I)I" } : Jvm.MethodName) ({ cls := "WellPipes", name := "feed", desc := "(I)I" } : Jvm.MethodName) ∈ wq_TB := tb_2 26 rfl rfl
theorem tw_317 : Jvm.Cond.code ({ cls := "WellPipes", name := "feed", desc := "(I)I" } : Jvm.MethodName) prog_1_method_6_code (2 : Nat) (Option.some Jvm.ClassFile.FieldType.int) ∈ wq_TB := tb_2 27 rfl rfl
theorem tw_318 : Jvm.Cond.methodLink "WellPipes" (103 : Nat) ({ cls := "WellPipes$Reader", name := "take", desc := "(I)Z" } : Jvm.MethodName) ∈ wq_TB := tb_2 28 rfl rfl
theorem tw_319 : Jvm.Cond.instanceMethod ({ cls := "WellPipes$Reader", name := "take", desc := "(I)Z" } : Jvm.MethodName) ∈ wq_TB := tb_2 29 rfl rfl
theorem tw_320 : Jvm.Cond.selects "WellPipes$Reader" ({ cls := "WellPipes$Reader", name := "take", desc := "(I)Z" } : Jvm.MethodName) ({ cls := "WellPipes$Reader", name := "take", desc := "(I)Z" } : Jvm.MethodName) ∈ wq_TB := tb_2 30 rfl rfl
theorem tw_321 : Jvm.Cond.code ({ cls := "WellPipes$Reader", name := "take", desc := "(I)Z" } : Jvm.MethodName) prog_4_method_2_code (2 : Nat) (Option.some Jvm.ClassFile.FieldType.boolean) ∈ wq_TB := tb_2 31 rfl rfl
theorem tw_322 : Jvm.Cond.constant "WellPipes" (109 : Nat) (-1000003 : Int32) ∈ wq_TB := tb_2 32 rfl rfl
theorem tw_323 : Jvm.Cond.methodLink "WellPipesLaw" (36 : Nat) ({ cls := "WellPipes", name := "well", desc := "()I" } : Jvm.MethodName) ∈ wq_TB := tb_2 33 rfl rfl
theorem tw_324 : Jvm.Cond.instanceMethod ({ cls := "WellPipes", name := "well", desc := "()I" } : Jvm.MethodName) ∈ wq_TB := tb_2 34 rfl rfl
theorem tw_325 : Jvm.Cond.selects "WellPipes" ({ cls := "WellPipes", name := "well", desc := "()I" } : Jvm.MethodName) ({ cls := "WellPipes", name := "well", desc := "()I" } : Jvm.MethodName) ∈ wq_TB := tb_2 35 rfl rfl
theorem tw_326 : Jvm.Cond.code ({ cls := "WellPipes", name := "well", desc := "()I" } : Jvm.MethodName) prog_1_method_7_code (1 : Nat) (Option.some Jvm.ClassFile.FieldType.int) ∈ wq_TB := tb_2 36 rfl rfl
theorem tw_327 : Jvm.Cond.methodLink "WellPipes" (110 : Nat) ({ cls := "WellPipes$Reader", name := "read", desc := "(LWellPipes$Well;)Z" } : Jvm.MethodName) ∈ wq_TB := tb_2 37 rfl rfl
theorem tw_328 : Jvm.Cond.instanceMethod ({ cls := "WellPipes$Reader", name := "read", desc := "(LWellPipes$Well;)Z" } : Jvm.MethodName) ∈ wq_TB := tb_2 38 rfl rfl
theorem tw_329 : Jvm.Cond.selects "WellPipes$Reader" ({ cls := "WellPipes$Reader", name := "read", desc := "(LWellPipes$Well;)Z" } : Jvm.MethodName) ({ cls := "WellPipes$Reader", name := "read", desc := "(LWellPipes$Well;)Z" } : Jvm.MethodName) ∈ wq_TB := tb_2 39 rfl rfl
theorem tw_330 : Jvm.Cond.code ({ cls := "WellPipes$Reader", name := "read", desc := "(LWellPipes$Well;)Z" } : Jvm.MethodName) prog_4_method_3_code (3 : Nat) (Option.some Jvm.ClassFile.FieldType.boolean) ∈ wq_TB := tb_2 40 rfl rfl
theorem tw_331 : Jvm.Cond.methodLink "WellPipes$Reader" (26 : Nat) ({ cls := "WellPipes$Reader", name := "readLaw", desc := "(LWellPipes$Well;)V" } : Jvm.MethodName) ∈ wq_TB := tb_2 41 rfl rfl
theorem tw_333 : Jvm.Cond.instanceMethod ({ cls := "WellPipes$Reader", name := "readLaw", desc := "(LWellPipes$Well;)V" } : Jvm.MethodName) ∈ wq_TB := tb_2 43 rfl rfl
theorem tw_334 : Jvm.Cond.code ({ cls := "WellPipes$Reader", name := "readLaw", desc := "(LWellPipes$Well;)V" } : Jvm.MethodName) prog_4_method_4_code (2 : Nat) (Option.none : Option Jvm.ClassFile.FieldType) ∈ wq_TB := tb_2 44 rfl rfl
theorem tw_335 : Jvm.Cond.methodLink "WellPipes$Reader" (51 : Nat) ({ cls := "WellPipes$Reader", name := "readSign", desc := "(C)V" } : Jvm.MethodName) ∈ wq_TB := tb_2 45 rfl rfl
theorem tw_337 : Jvm.Cond.instanceMethod ({ cls := "WellPipes$Reader", name := "readSign", desc := "(C)V" } : Jvm.MethodName) ∈ wq_TB := tb_2 47 rfl rfl
theorem tw_338 : Jvm.Cond.code ({ cls := "WellPipes$Reader", name := "readSign", desc := "(C)V" } : Jvm.MethodName) prog_4_method_8_code (2 : Nat) (Option.none : Option Jvm.ClassFile.FieldType) ∈ wq_TB := tb_2 48 rfl rfl
theorem tw_339 : Jvm.Cond.methodLink "WellPipes$Reader" (73 : Nat) ({ cls := "WellPipes$Reader", name := "fail", desc := "(I)V" } : Jvm.MethodName) ∈ wq_TB := tb_2 49 rfl rfl
theorem tw_341 : Jvm.Cond.instanceMethod ({ cls := "WellPipes$Reader", name := "fail", desc := "(I)V" } : Jvm.MethodName) ∈ wq_TB := tb_2 51 rfl rfl
theorem tw_342 : Jvm.Cond.code ({ cls := "WellPipes$Reader", name := "fail", desc := "(I)V" } : Jvm.MethodName) prog_4_method_11_code (2 : Nat) (Option.none : Option Jvm.ClassFile.FieldType) ∈ wq_TB := tb_2 52 rfl rfl
theorem tw_343 : Jvm.Cond.methodLink "WellPipes$Reader" (55 : Nat) ({ cls := "WellPipes$Reader", name := "readNumber", desc := "(II)I" } : Jvm.MethodName) ∈ wq_TB := tb_2 53 rfl rfl
theorem tw_345 : Jvm.Cond.instanceMethod ({ cls := "WellPipes$Reader", name := "readNumber", desc := "(II)I" } : Jvm.MethodName) ∈ wq_TB := tb_2 55 rfl rfl
theorem tw_346 : Jvm.Cond.code ({ cls := "WellPipes$Reader", name := "readNumber", desc := "(II)I" } : Jvm.MethodName) prog_4_method_10_code (5 : Nat) (Option.some Jvm.ClassFile.FieldType.int) ∈ wq_TB := tb_2 56 rfl rfl
theorem tw_347 : Jvm.Cond.methodLink "WellPipes$Reader" (65 : Nat) ({ cls := "WellPipes$Reader", name := "readRule", desc := "(I)I" } : Jvm.MethodName) ∈ wq_TB := tb_2 57 rfl rfl
theorem tw_349 : Jvm.Cond.instanceMethod ({ cls := "WellPipes$Reader", name := "readRule", desc := "(I)I" } : Jvm.MethodName) ∈ wq_TB := tb_2 59 rfl rfl
theorem tw_350 : Jvm.Cond.code ({ cls := "WellPipes$Reader", name := "readRule", desc := "(I)I" } : Jvm.MethodName) prog_4_method_9_code (2 : Nat) (Option.some Jvm.ClassFile.FieldType.int) ∈ wq_TB := tb_2 60 rfl rfl
theorem tw_355 : Jvm.Cond.methodLink "WellPipes$Reader" (30 : Nat) ({ cls := "WellPipes$Reader", name := "readGas", desc := "(LWellPipes$Well;)V" } : Jvm.MethodName) ∈ wq_TB := tb_2 65 rfl rfl
theorem tw_357 : Jvm.Cond.instanceMethod ({ cls := "WellPipes$Reader", name := "readGas", desc := "(LWellPipes$Well;)V" } : Jvm.MethodName) ∈ wq_TB := tb_2 67 rfl rfl
theorem tw_358 : Jvm.Cond.code ({ cls := "WellPipes$Reader", name := "readGas", desc := "(LWellPipes$Well;)V" } : Jvm.MethodName) prog_4_method_5_code (2 : Nat) (Option.none : Option Jvm.ClassFile.FieldType) ∈ wq_TB := tb_2 68 rfl rfl
theorem tw_359 : Jvm.Cond.methodLink "WellPipes$Reader" (38 : Nat) ({ cls := "WellPipes$Reader", name := "readGrade", desc := "(LWellPipes$Well;I)V" } : Jvm.MethodName) ∈ wq_TB := tb_2 69 rfl rfl
theorem tw_361 : Jvm.Cond.instanceMethod ({ cls := "WellPipes$Reader", name := "readGrade", desc := "(LWellPipes$Well;I)V" } : Jvm.MethodName) ∈ wq_TB := tb_2 71 rfl rfl
theorem tw_362 : Jvm.Cond.code ({ cls := "WellPipes$Reader", name := "readGrade", desc := "(LWellPipes$Well;I)V" } : Jvm.MethodName) prog_4_method_6_code (5 : Nat) (Option.none : Option Jvm.ClassFile.FieldType) ∈ wq_TB := tb_2 72 rfl rfl
theorem tw_363 : Jvm.Cond.methodLink "WellPipes$Reader" (69 : Nat) ({ cls := "WellPipes$Reader", name := "kindAtHand", desc := "()I" } : Jvm.MethodName) ∈ wq_TB := tb_2 73 rfl rfl
theorem tw_365 : Jvm.Cond.instanceMethod ({ cls := "WellPipes$Reader", name := "kindAtHand", desc := "()I" } : Jvm.MethodName) ∈ wq_TB := tb_2 75 rfl rfl
theorem tw_366 : Jvm.Cond.code ({ cls := "WellPipes$Reader", name := "kindAtHand", desc := "()I" } : Jvm.MethodName) prog_4_method_7_code (1 : Nat) (Option.some Jvm.ClassFile.FieldType.int) ∈ wq_TB := tb_2 76 rfl rfl
theorem tw_369 : Jvm.Cond.methodLink "WellPipes$Reader" (83 : Nat) ({ cls := "WellPipes$Well", name := "putFigure", desc := "(III)V" } : Jvm.MethodName) ∈ wq_TB := tb_2 79 rfl rfl
theorem tw_370 : Jvm.Cond.instanceMethod ({ cls := "WellPipes$Well", name := "putFigure", desc := "(III)V" } : Jvm.MethodName) ∈ wq_TB := tb_2 80 rfl rfl
theorem tw_371 : Jvm.Cond.selects "WellPipes$Well" ({ cls := "WellPipes$Well", name := "putFigure", desc := "(III)V" } : Jvm.MethodName) ({ cls := "WellPipes$Well", name := "putFigure", desc := "(III)V" } : Jvm.MethodName) ∈ wq_TB := tb_2 81 rfl rfl
theorem tw_372 : Jvm.Cond.code ({ cls := "WellPipes$Well", name := "putFigure", desc := "(III)V" } : Jvm.MethodName) prog_7_method_4_code (4 : Nat) (Option.none : Option Jvm.ClassFile.FieldType) ∈ wq_TB := tb_2 82 rfl rfl
theorem tw_373 : Jvm.Cond.methodLink "WellPipes$Reader" (45 : Nat) ({ cls := "java/util/Arrays", name := "fill", desc := "([II)V" } : Jvm.MethodName) ∈ wq_TB := tb_2 83 rfl rfl
theorem tw_374 : Jvm.Cond.constant "WellPipes" (114 : Nat) (-1000100 : Int32) ∈ wq_TB := tb_2 84 rfl rfl
theorem tw_375 : Jvm.Cond.methodLink "WellPipes" (118 : Nat) ({ cls := "WellPipes$Well", name := "becomes", desc := "(LWellPipes$Well;)V" } : Jvm.MethodName) ∈ wq_TB := tb_2 85 rfl rfl
theorem tw_376 : Jvm.Cond.instanceMethod ({ cls := "WellPipes$Well", name := "becomes", desc := "(LWellPipes$Well;)V" } : Jvm.MethodName) ∈ wq_TB := tb_2 86 rfl rfl
theorem tw_377 : Jvm.Cond.selects "WellPipes$Well" ({ cls := "WellPipes$Well", name := "becomes", desc := "(LWellPipes$Well;)V" } : Jvm.MethodName) ({ cls := "WellPipes$Well", name := "becomes", desc := "(LWellPipes$Well;)V" } : Jvm.MethodName) ∈ wq_TB := tb_2 87 rfl rfl
theorem tw_378 : Jvm.Cond.code ({ cls := "WellPipes$Well", name := "becomes", desc := "(LWellPipes$Well;)V" } : Jvm.MethodName) prog_7_method_2_code (2 : Nat) (Option.none : Option Jvm.ClassFile.FieldType) ∈ wq_TB := tb_2 88 rfl rfl
theorem tw_379 : Jvm.Cond.methodLink "WellPipes$Well" (31 : Nat) ({ cls := "java/lang/System", name := "arraycopy", desc := "(Ljava/lang/Object;ILjava/lang/Object;II)V" } : Jvm.MethodName) ∈ wq_TB := tb_2 89 rfl rfl
theorem tw_380 : Jvm.Cond.methodLink "WellPipes" (122 : Nat) ({ cls := "WellPipes$Acts", name := "forgetAll", desc := "()V" } : Jvm.MethodName) ∈ wq_TB := tb_2 90 rfl rfl
theorem tw_381 : Jvm.Cond.instanceMethod ({ cls := "WellPipes$Acts", name := "forgetAll", desc := "()V" } : Jvm.MethodName) ∈ wq_TB := tb_2 91 rfl rfl
theorem tw_382 : Jvm.Cond.selects "WellPipes$Acts" ({ cls := "WellPipes$Acts", name := "forgetAll", desc := "()V" } : Jvm.MethodName) ({ cls := "WellPipes$Acts", name := "forgetAll", desc := "()V" } : Jvm.MethodName) ∈ wq_TB := tb_2 92 rfl rfl
theorem tw_383 : Jvm.Cond.code ({ cls := "WellPipes$Acts", name := "forgetAll", desc := "()V" } : Jvm.MethodName) prog_2_method_4_code (1 : Nat) (Option.none : Option Jvm.ClassFile.FieldType) ∈ wq_TB := tb_2 93 rfl rfl
theorem tw_384 : Jvm.Cond.methodLink "WellPipesLaw" (41 : Nat) ({ cls := "WellPipes", name := "fault", desc := "()I" } : Jvm.MethodName) ∈ wq_TB := tb_2 94 rfl rfl
theorem tw_385 : Jvm.Cond.instanceMethod ({ cls := "WellPipes", name := "fault", desc := "()I" } : Jvm.MethodName) ∈ wq_TB := tb_2 95 rfl rfl
theorem tw_386 : Jvm.Cond.selects "WellPipes" ({ cls := "WellPipes", name := "fault", desc := "()I" } : Jvm.MethodName) ({ cls := "WellPipes", name := "fault", desc := "()I" } : Jvm.MethodName) ∈ wq_TB := tb_2 96 rfl rfl
theorem tw_387 : Jvm.Cond.code ({ cls := "WellPipes", name := "fault", desc := "()I" } : Jvm.MethodName) prog_1_method_8_code (1 : Nat) (Option.some Jvm.ClassFile.FieldType.int) ∈ wq_TB := tb_2 97 rfl rfl
theorem tw_388 : Jvm.Cond.methodLink "WellPipesLaw" (45 : Nat) ({ cls := "WellPipes", name := "undo", desc := "()I" } : Jvm.MethodName) ∈ wq_TB := tb_2 98 rfl rfl
theorem tw_389 : Jvm.Cond.instanceMethod ({ cls := "WellPipes", name := "undo", desc := "()I" } : Jvm.MethodName) ∈ wq_TB := tb_2 99 rfl rfl
theorem tw_390 : Jvm.Cond.selects "WellPipes" ({ cls := "WellPipes", name := "undo", desc := "()I" } : Jvm.MethodName) ({ cls := "WellPipes", name := "undo", desc := "()I" } : Jvm.MethodName) ∈ wq_TB := tb_2 100 rfl rfl
theorem tw_391 : Jvm.Cond.code ({ cls := "WellPipes", name := "undo", desc := "()I" } : Jvm.MethodName) prog_1_method_9_code (1 : Nat) (Option.some Jvm.ClassFile.FieldType.int) ∈ wq_TB := tb_2 101 rfl rfl
theorem tw_392 : Jvm.Cond.constant "WellPipes" (134 : Nat) (-1000002 : Int32) ∈ wq_TB := tb_2 102 rfl rfl
theorem tw_393 : Jvm.Cond.methodLink "WellPipes" (135 : Nat) ({ cls := "WellPipes$Acts", name := "takeBack", desc := "(LWellPipes$Well;)V" } : Jvm.MethodName) ∈ wq_TB := tb_2 103 rfl rfl
theorem tw_394 : Jvm.Cond.instanceMethod ({ cls := "WellPipes$Acts", name := "takeBack", desc := "(LWellPipes$Well;)V" } : Jvm.MethodName) ∈ wq_TB := tb_2 104 rfl rfl
theorem tw_395 : Jvm.Cond.selects "WellPipes$Acts" ({ cls := "WellPipes$Acts", name := "takeBack", desc := "(LWellPipes$Well;)V" } : Jvm.MethodName) ({ cls := "WellPipes$Acts", name := "takeBack", desc := "(LWellPipes$Well;)V" } : Jvm.MethodName) ∈ wq_TB := tb_2 105 rfl rfl
theorem tw_396 : Jvm.Cond.code ({ cls := "WellPipes$Acts", name := "takeBack", desc := "(LWellPipes$Well;)V" } : Jvm.MethodName) prog_2_method_3_code (3 : Nat) (Option.none : Option Jvm.ClassFile.FieldType) ∈ wq_TB := tb_2 106 rfl rfl
theorem tw_397 : Jvm.Cond.methodLink "WellPipes$Acts" (28 : Nat) ({ cls := "WellPipes$Well", name := "layString", desc := "(I)V" } : Jvm.MethodName) ∈ wq_TB := tb_2 107 rfl rfl
theorem tw_398 : Jvm.Cond.instanceMethod ({ cls := "WellPipes$Well", name := "layString", desc := "(I)V" } : Jvm.MethodName) ∈ wq_TB := tb_2 108 rfl rfl
theorem tw_399 : Jvm.Cond.selects "WellPipes$Well" ({ cls := "WellPipes$Well", name := "layString", desc := "(I)V" } : Jvm.MethodName) ({ cls := "WellPipes$Well", name := "layString", desc := "(I)V" } : Jvm.MethodName) ∈ wq_TB := tb_2 109 rfl rfl
theorem tw_400 : Jvm.Cond.code ({ cls := "WellPipes$Well", name := "layString", desc := "(I)V" } : Jvm.MethodName) prog_7_method_26_code (4 : Nat) (Option.none : Option Jvm.ClassFile.FieldType) ∈ wq_TB := tb_2 110 rfl rfl
theorem tw_401 : Jvm.Cond.methodLink "WellPipes$Acts" (34 : Nat) ({ cls := "WellPipes$Well", name := "putFigure", desc := "(III)V" } : Jvm.MethodName) ∈ wq_TB := tb_2 111 rfl rfl
theorem tw_402 : Jvm.Cond.methodLink "WellPipesLaw" (49 : Nat) ({ cls := "WellPipes", name := "lay", desc := "(II)I" } : Jvm.MethodName) ∈ wq_TB := tb_2 112 rfl rfl
theorem tw_403 : Jvm.Cond.instanceMethod ({ cls := "WellPipes", name := "lay", desc := "(II)I" } : Jvm.MethodName) ∈ wq_TB := tb_2 113 rfl rfl
theorem tw_404 : Jvm.Cond.selects "WellPipes" ({ cls := "WellPipes", name := "lay", desc := "(II)I" } : Jvm.MethodName) ({ cls := "WellPipes", name := "lay", desc := "(II)I" } : Jvm.MethodName) ∈ wq_TB := tb_2 114 rfl rfl
theorem tw_405 : Jvm.Cond.code ({ cls := "WellPipes", name := "lay", desc := "(II)I" } : Jvm.MethodName) prog_1_method_10_code (4 : Nat) (Option.some Jvm.ClassFile.FieldType.int) ∈ wq_TB := tb_2 115 rfl rfl
theorem tw_406 : Jvm.Cond.methodLink "WellPipes" (138 : Nat) ({ cls := "WellPipes", name := "isStep", desc := "(I)Z" } : Jvm.MethodName) ∈ wq_TB := tb_2 116 rfl rfl
theorem tw_408 : Jvm.Cond.instanceMethod ({ cls := "WellPipes", name := "isStep", desc := "(I)Z" } : Jvm.MethodName) ∈ wq_TB := tb_2 118 rfl rfl
theorem tw_409 : Jvm.Cond.code ({ cls := "WellPipes", name := "isStep", desc := "(I)Z" } : Jvm.MethodName) prog_1_method_39_code (2 : Nat) (Option.some Jvm.ClassFile.FieldType.boolean) ∈ wq_TB := tb_2 119 rfl rfl
theorem tw_410 : Jvm.Cond.methodLink "WellPipes" (141 : Nat) ({ cls := "WellPipes", name := "isGrade", desc := "(I)Z" } : Jvm.MethodName) ∈ wq_TB := tb_2 120 rfl rfl
theorem tw_412 : Jvm.Cond.instanceMethod ({ cls := "WellPipes", name := "isGrade", desc := "(I)Z" } : Jvm.MethodName) ∈ wq_TB := tb_2 122 rfl rfl
theorem tw_413 : Jvm.Cond.code ({ cls := "WellPipes", name := "isGrade", desc := "(I)Z" } : Jvm.MethodName) prog_1_method_40_code (2 : Nat) (Option.some Jvm.ClassFile.FieldType.boolean) ∈ wq_TB := tb_2 123 rfl rfl
theorem tw_414 : Jvm.Cond.methodLink "WellPipes" (147 : Nat) ({ cls := "WellPipes$Well", name := "stringCode", desc := "()I" } : Jvm.MethodName) ∈ wq_TB := tb_2 124 rfl rfl
theorem tw_415 : Jvm.Cond.instanceMethod ({ cls := "WellPipes$Well", name := "stringCode", desc := "()I" } : Jvm.MethodName) ∈ wq_TB := tb_2 125 rfl rfl
theorem tw_416 : Jvm.Cond.selects "WellPipes$Well" ({ cls := "WellPipes$Well", name := "stringCode", desc := "()I" } : Jvm.MethodName) ({ cls := "WellPipes$Well", name := "stringCode", desc := "()I" } : Jvm.MethodName) ∈ wq_TB := tb_2 126 rfl rfl
theorem tw_417 : Jvm.Cond.code ({ cls := "WellPipes$Well", name := "stringCode", desc := "()I" } : Jvm.MethodName) prog_7_method_25_code (3 : Nat) (Option.some Jvm.ClassFile.FieldType.int) ∈ wq_TB := tb_2 127 rfl rfl
theorem tw_418 : Jvm.Cond.methodLink "WellPipes" (151 : Nat) ({ cls := "WellPipes$Acts", name := "keep", desc := "(II)V" } : Jvm.MethodName) ∈ wq_TB := tb_2 128 rfl rfl
theorem tw_419 : Jvm.Cond.instanceMethod ({ cls := "WellPipes$Acts", name := "keep", desc := "(II)V" } : Jvm.MethodName) ∈ wq_TB := tb_2 129 rfl rfl
theorem tw_420 : Jvm.Cond.selects "WellPipes$Acts" ({ cls := "WellPipes$Acts", name := "keep", desc := "(II)V" } : Jvm.MethodName) ({ cls := "WellPipes$Acts", name := "keep", desc := "(II)V" } : Jvm.MethodName) ∈ wq_TB := tb_2 130 rfl rfl
theorem tw_421 : Jvm.Cond.code ({ cls := "WellPipes$Acts", name := "keep", desc := "(II)V" } : Jvm.MethodName) prog_2_method_2_code (3 : Nat) (Option.none : Option Jvm.ClassFile.FieldType) ∈ wq_TB := tb_2 131 rfl rfl
theorem tw_422 : Jvm.Cond.methodLink "WellPipes$Acts" (22 : Nat) ({ cls := "java/lang/System", name := "arraycopy", desc := "(Ljava/lang/Object;ILjava/lang/Object;II)V" } : Jvm.MethodName) ∈ wq_TB := tb_2 132 rfl rfl
theorem tw_423 : Jvm.Cond.methodLink "WellPipesLaw" (54 : Nat) ({ cls := "WellPipes", name := "layBest", desc := "()I" } : Jvm.MethodName) ∈ wq_TB := tb_2 133 rfl rfl
theorem tw_424 : Jvm.Cond.instanceMethod ({ cls := "WellPipes", name := "layBest", desc := "()I" } : Jvm.MethodName) ∈ wq_TB := tb_2 134 rfl rfl
theorem tw_425 : Jvm.Cond.selects "WellPipes" ({ cls := "WellPipes", name := "layBest", desc := "()I" } : Jvm.MethodName) ({ cls := "WellPipes", name := "layBest", desc := "()I" } : Jvm.MethodName) ∈ wq_TB := tb_2 135 rfl rfl
theorem tw_426 : Jvm.Cond.code ({ cls := "WellPipes", name := "layBest", desc := "()I" } : Jvm.MethodName) prog_1_method_11_code (1 : Nat) (Option.some Jvm.ClassFile.FieldType.int) ∈ wq_TB := tb_2 136 rfl rfl
theorem tw_427 : Jvm.Cond.methodLink "WellPipes" (154 : Nat) ({ cls := "WellPipes", name := "hasNoWell", desc := "()Z" } : Jvm.MethodName) ∈ wq_TB := tb_2 137 rfl rfl
theorem tw_429 : Jvm.Cond.instanceMethod ({ cls := "WellPipes", name := "hasNoWell", desc := "()Z" } : Jvm.MethodName) ∈ wq_TB := tb_2 139 rfl rfl
theorem tw_430 : Jvm.Cond.code ({ cls := "WellPipes", name := "hasNoWell", desc := "()Z" } : Jvm.MethodName) prog_1_method_41_code (1 : Nat) (Option.some Jvm.ClassFile.FieldType.boolean) ∈ wq_TB := tb_2 140 rfl rfl
theorem tw_431 : Jvm.Cond.constant "WellPipes" (157 : Nat) (-1000000 : Int32) ∈ wq_TB := tb_2 141 rfl rfl
theorem tw_432 : Jvm.Cond.methodLink "WellPipes" (158 : Nat) ({ cls := "WellPipes$Search", name := "find", desc := "(LWellPipes$Well;I)Z" } : Jvm.MethodName) ∈ wq_TB := tb_2 142 rfl rfl
theorem tw_433 : Jvm.Cond.instanceMethod ({ cls := "WellPipes$Search", name := "find", desc := "(LWellPipes$Well;I)Z" } : Jvm.MethodName) ∈ wq_TB := tb_2 143 rfl rfl
theorem tw_434 : Jvm.Cond.selects "WellPipes$Search" ({ cls := "WellPipes$Search", name := "find", desc := "(LWellPipes$Well;I)Z" } : Jvm.MethodName) ({ cls := "WellPipes$Search", name := "find", desc := "(LWellPipes$Well;I)Z" } : Jvm.MethodName) ∈ wq_TB := tb_2 144 rfl rfl
theorem tw_435 : Jvm.Cond.code ({ cls := "WellPipes$Search", name := "find", desc := "(LWellPipes$Well;I)Z" } : Jvm.MethodName) prog_6_method_2_code (5 : Nat) (Option.some Jvm.ClassFile.FieldType.boolean) ∈ wq_TB := tb_2 145 rfl rfl
theorem tw_436 : Jvm.Cond.methodLink "WellPipes$Search" (36 : Nat) ({ cls := "java/lang/Math", name := "min", desc := "(II)I" } : Jvm.MethodName) ∈ wq_TB := tb_2 146 rfl rfl
theorem tw_437 : Jvm.Cond.static ({ cls := "java/lang/Math", name := "min", desc := "(II)I" } : Jvm.MethodName) ∈ wq_TB := tb_2 147 rfl rfl
theorem tw_438 : Jvm.Cond.code ({ cls := "java/lang/Math", name := "min", desc := "(II)I" } : Jvm.MethodName) prog_10_method_69_code (2 : Nat) (Option.some Jvm.ClassFile.FieldType.int) ∈ wq_TB := tb_2 148 rfl rfl
theorem tw_439 : Jvm.Cond.methodLink "WellPipes$Search" (42 : Nat) ({ cls := "java/lang/Math", name := "max", desc := "(II)I" } : Jvm.MethodName) ∈ wq_TB := tb_2 149 rfl rfl
theorem tw_440 : Jvm.Cond.static ({ cls := "java/lang/Math", name := "max", desc := "(II)I" } : Jvm.MethodName) ∈ wq_TB := tb_2 150 rfl rfl
theorem tw_441 : Jvm.Cond.code ({ cls := "java/lang/Math", name := "max", desc := "(II)I" } : Jvm.MethodName) prog_10_method_65_code (2 : Nat) (Option.some Jvm.ClassFile.FieldType.int) ∈ wq_TB := tb_2 151 rfl rfl
theorem tw_442 : Jvm.Cond.methodLink "WellPipes$Search" (49 : Nat) ({ cls := "java/util/Arrays", name := "fill", desc := "([II)V" } : Jvm.MethodName) ∈ wq_TB := tb_2 152 rfl rfl
theorem tw_443 : Jvm.Cond.methodLink "WellPipes$Search" (58 : Nat) ({ cls := "WellPipes$Search", name := "swap", desc := "()V" } : Jvm.MethodName) ∈ wq_TB := tb_2 153 rfl rfl
theorem tw_445 : Jvm.Cond.instanceMethod ({ cls := "WellPipes$Search", name := "swap", desc := "()V" } : Jvm.MethodName) ∈ wq_TB := tb_2 155 rfl rfl
theorem tw_446 : Jvm.Cond.code ({ cls := "WellPipes$Search", name := "swap", desc := "()V" } : Jvm.MethodName) prog_6_method_3_code (2 : Nat) (Option.none : Option Jvm.ClassFile.FieldType) ∈ wq_TB := tb_2 156 rfl rfl
theorem tw_447 : Jvm.Cond.methodLink "WellPipes$Search" (64 : Nat) ({ cls := "WellPipes$Search", name := "layOnAll", desc := "(II)V" } : Jvm.MethodName) ∈ wq_TB := tb_2 157 rfl rfl
theorem tw_449 : Jvm.Cond.instanceMethod ({ cls := "WellPipes$Search", name := "layOnAll", desc := "(II)V" } : Jvm.MethodName) ∈ wq_TB := tb_2 159 rfl rfl
theorem tw_450 : Jvm.Cond.code ({ cls := "WellPipes$Search", name := "layOnAll", desc := "(II)V" } : Jvm.MethodName) prog_6_method_4_code (7 : Nat) (Option.none : Option Jvm.ClassFile.FieldType) ∈ wq_TB := tb_2 160 rfl rfl
theorem tw_451 : Jvm.Cond.methodLink "WellPipes$Search" (72 : Nat) ({ cls := "WellPipes$Well", name := "figure", desc := "(II)I" } : Jvm.MethodName) ∈ wq_TB := tb_2 161 rfl rfl
theorem tw_452 : Jvm.Cond.instanceMethod ({ cls := "WellPipes$Well", name := "figure", desc := "(II)I" } : Jvm.MethodName) ∈ wq_TB := tb_2 162 rfl rfl
theorem tw_453 : Jvm.Cond.selects "WellPipes$Well" ({ cls := "WellPipes$Well", name := "figure", desc := "(II)I" } : Jvm.MethodName) ({ cls := "WellPipes$Well", name := "figure", desc := "(II)I" } : Jvm.MethodName) ∈ wq_TB := tb_2 163 rfl rfl
theorem tw_454 : Jvm.Cond.code ({ cls := "WellPipes$Well", name := "figure", desc := "(II)I" } : Jvm.MethodName) prog_7_method_3_code (3 : Nat) (Option.some Jvm.ClassFile.FieldType.int) ∈ wq_TB := tb_2 164 rfl rfl
theorem tw_455 : Jvm.Cond.methodLink "WellPipes$Search" (75 : Nat) ({ cls := "WellPipes$Well", name := "wouldHold", desc := "(III)Z" } : Jvm.MethodName) ∈ wq_TB := tb_2 165 rfl rfl
theorem tw_456 : Jvm.Cond.instanceMethod ({ cls := "WellPipes$Well", name := "wouldHold", desc := "(III)Z" } : Jvm.MethodName) ∈ wq_TB := tb_2 166 rfl rfl
theorem tw_457 : Jvm.Cond.selects "WellPipes$Well" ({ cls := "WellPipes$Well", name := "wouldHold", desc := "(III)Z" } : Jvm.MethodName) ({ cls := "WellPipes$Well", name := "wouldHold", desc := "(III)Z" } : Jvm.MethodName) ∈ wq_TB := tb_2 167 rfl rfl
theorem tw_458 : Jvm.Cond.code ({ cls := "WellPipes$Well", name := "wouldHold", desc := "(III)Z" } : Jvm.MethodName) prog_7_method_15_code (4 : Nat) (Option.some Jvm.ClassFile.FieldType.boolean) ∈ wq_TB := tb_2 168 rfl rfl
theorem tw_459 : Jvm.Cond.methodLink "WellPipes$Well" (59 : Nat) ({ cls := "WellPipes$Well", name := "burstBorne", desc := "(I)I" } : Jvm.MethodName) ∈ wq_TB := tb_2 169 rfl rfl
theorem tw_460 : Jvm.Cond.instanceMethod ({ cls := "WellPipes$Well", name := "burstBorne", desc := "(I)I" } : Jvm.MethodName) ∈ wq_TB := tb_2 170 rfl rfl
theorem tw_461 : Jvm.Cond.selects "WellPipes$Well" ({ cls := "WellPipes$Well", name := "burstBorne", desc := "(I)I" } : Jvm.MethodName) ({ cls := "WellPipes$Well", name := "burstBorne", desc := "(I)I" } : Jvm.MethodName) ∈ wq_TB := tb_2 171 rfl rfl
theorem tw_462 : Jvm.Cond.code ({ cls := "WellPipes$Well", name := "burstBorne", desc := "(I)I" } : Jvm.MethodName) prog_7_method_11_code (3 : Nat) (Option.some Jvm.ClassFile.FieldType.int) ∈ wq_TB := tb_2 172 rfl rfl
theorem tw_463 : Jvm.Cond.methodLink "WellPipes$Well" (37 : Nat) ({ cls := "WellPipes$Well", name := "figure", desc := "(II)I" } : Jvm.MethodName) ∈ wq_TB := tb_2 173 rfl rfl
theorem tw_464 : Jvm.Cond.methodLink "WellPipes$Well" (62 : Nat) ({ cls := "WellPipes$Well", name := "burstLoad", desc := "(I)I" } : Jvm.MethodName) ∈ wq_TB := tb_2 174 rfl rfl
theorem tw_465 : Jvm.Cond.instanceMethod ({ cls := "WellPipes$Well", name := "burstLoad", desc := "(I)I" } : Jvm.MethodName) ∈ wq_TB := tb_2 175 rfl rfl
theorem tw_466 : Jvm.Cond.selects "WellPipes$Well" ({ cls := "WellPipes$Well", name := "burstLoad", desc := "(I)I" } : Jvm.MethodName) ({ cls := "WellPipes$Well", name := "burstLoad", desc := "(I)I" } : Jvm.MethodName) ∈ wq_TB := tb_2 176 rfl rfl
theorem tw_467 : Jvm.Cond.code ({ cls := "WellPipes$Well", name := "burstLoad", desc := "(I)I" } : Jvm.MethodName) prog_7_method_8_code (2 : Nat) (Option.some Jvm.ClassFile.FieldType.int) ∈ wq_TB := tb_2 177 rfl rfl
theorem tw_468 : Jvm.Cond.methodLink "WellPipes$Well" (44 : Nat) ({ cls := "java/lang/Math", name := "max", desc := "(II)I" } : Jvm.MethodName) ∈ wq_TB := tb_2 178 rfl rfl
theorem tw_469 : Jvm.Cond.methodLink "WellPipes$Well" (49 : Nat) ({ cls := "WellPipes$Well", name := "pullBorne", desc := "(I)I" } : Jvm.MethodName) ∈ wq_TB := tb_2 179 rfl rfl
theorem tw_470 : Jvm.Cond.instanceMethod ({ cls := "WellPipes$Well", name := "pullBorne", desc := "(I)I" } : Jvm.MethodName) ∈ wq_TB := tb_2 180 rfl rfl
theorem tw_471 : Jvm.Cond.selects "WellPipes$Well" ({ cls := "WellPipes$Well", name := "pullBorne", desc := "(I)I" } : Jvm.MethodName) ({ cls := "WellPipes$Well", name := "pullBorne", desc := "(I)I" } : Jvm.MethodName) ∈ wq_TB := tb_2 181 rfl rfl
theorem tw_472 : Jvm.Cond.code ({ cls := "WellPipes$Well", name := "pullBorne", desc := "(I)I" } : Jvm.MethodName) prog_7_method_12_code (3 : Nat) (Option.some Jvm.ClassFile.FieldType.int) ∈ wq_TB := tb_2 182 rfl rfl
theorem tw_473 : Jvm.Cond.methodLink "WellPipes$Well" (65 : Nat) ({ cls := "WellPipes$Well", name := "crushBorne", desc := "(II)I" } : Jvm.MethodName) ∈ wq_TB := tb_2 183 rfl rfl
theorem tw_474 : Jvm.Cond.instanceMethod ({ cls := "WellPipes$Well", name := "crushBorne", desc := "(II)I" } : Jvm.MethodName) ∈ wq_TB := tb_2 184 rfl rfl
theorem tw_475 : Jvm.Cond.selects "WellPipes$Well" ({ cls := "WellPipes$Well", name := "crushBorne", desc := "(II)I" } : Jvm.MethodName) ({ cls := "WellPipes$Well", name := "crushBorne", desc := "(II)I" } : Jvm.MethodName) ∈ wq_TB := tb_2 185 rfl rfl
theorem tw_476 : Jvm.Cond.code ({ cls := "WellPipes$Well", name := "crushBorne", desc := "(II)I" } : Jvm.MethodName) prog_7_method_13_code (5 : Nat) (Option.some Jvm.ClassFile.FieldType.int) ∈ wq_TB := tb_2 186 rfl rfl
theorem tw_477 : Jvm.Cond.methodLink "WellPipes$Well" (53 : Nat) ({ cls := "WellPipes$Well", name := "dent", desc := "(II)I" } : Jvm.MethodName) ∈ wq_TB := tb_2 187 rfl rfl
theorem tw_478 : Jvm.Cond.static ({ cls := "WellPipes$Well", name := "dent", desc := "(II)I" } : Jvm.MethodName) ∈ wq_TB := tb_2 188 rfl rfl
theorem tw_479 : Jvm.Cond.code ({ cls := "WellPipes$Well", name := "dent", desc := "(II)I" } : Jvm.MethodName) prog_7_method_14_code (2 : Nat) (Option.some Jvm.ClassFile.FieldType.int) ∈ wq_TB := tb_2 189 rfl rfl
theorem tw_480 : Jvm.Cond.methodLink "WellPipes$Well" (56 : Nat) ({ cls := "java/lang/Math", name := "min", desc := "(II)I" } : Jvm.MethodName) ∈ wq_TB := tb_2 190 rfl rfl
theorem tw_481 : Jvm.Cond.methodLink "WellPipes$Well" (68 : Nat) ({ cls := "WellPipes$Well", name := "crushLoad", desc := "(I)I" } : Jvm.MethodName) ∈ wq_TB := tb_2 191 rfl rfl
theorem tw_482 : Jvm.Cond.instanceMethod ({ cls := "WellPipes$Well", name := "crushLoad", desc := "(I)I" } : Jvm.MethodName) ∈ wq_TB := tb_2 192 rfl rfl
theorem tw_483 : Jvm.Cond.selects "WellPipes$Well" ({ cls := "WellPipes$Well", name := "crushLoad", desc := "(I)I" } : Jvm.MethodName) ({ cls := "WellPipes$Well", name := "crushLoad", desc := "(I)I" } : Jvm.MethodName) ∈ wq_TB := tb_2 193 rfl rfl
theorem tw_484 : Jvm.Cond.code ({ cls := "WellPipes$Well", name := "crushLoad", desc := "(I)I" } : Jvm.MethodName) prog_7_method_9_code (2 : Nat) (Option.some Jvm.ClassFile.FieldType.int) ∈ wq_TB := tb_2 194 rfl rfl
theorem tw_485 : Jvm.Cond.methodLink "WellPipes$Search" (79 : Nat) ({ cls := "WellPipes$Search", name := "layOn", desc := "(IIII)V" } : Jvm.MethodName) ∈ wq_TB := tb_2 195 rfl rfl
theorem tw_487 : Jvm.Cond.instanceMethod ({ cls := "WellPipes$Search", name := "layOn", desc := "(IIII)V" } : Jvm.MethodName) ∈ wq_TB := tb_2 197 rfl rfl
theorem tw_488 : Jvm.Cond.code ({ cls := "WellPipes$Search", name := "layOn", desc := "(IIII)V" } : Jvm.MethodName) prog_6_method_5_code (9 : Nat) (Option.none : Option Jvm.ClassFile.FieldType) ∈ wq_TB := tb_2 198 rfl rfl
theorem tw_489 : Jvm.Cond.constant "WellPipes$Search" (87 : Nat) (390625 : Int32) ∈ wq_TB := tb_2 199 rfl rfl
theorem tw_490 : Jvm.Cond.methodLink "WellPipes$Search" (83 : Nat) ({ cls := "WellPipes$Search", name := "state", desc := "(III)I" } : Jvm.MethodName) ∈ wq_TB := tb_2 200 rfl rfl
theorem tw_491 : Jvm.Cond.static ({ cls := "WellPipes$Search", name := "state", desc := "(III)I" } : Jvm.MethodName) ∈ wq_TB := tb_2 201 rfl rfl
theorem tw_492 : Jvm.Cond.code ({ cls := "WellPipes$Search", name := "state", desc := "(III)I" } : Jvm.MethodName) prog_6_method_7_code (3 : Nat) (Option.some Jvm.ClassFile.FieldType.int) ∈ wq_TB := tb_2 202 rfl rfl
theorem tw_493 : Jvm.Cond.methodLink "WellPipes$Search" (88 : Nat) ({ cls := "WellPipes$Search", name := "isAhead", desc := "(II)Z" } : Jvm.MethodName) ∈ wq_TB := tb_2 203 rfl rfl
theorem tw_494 : Jvm.Cond.static ({ cls := "WellPipes$Search", name := "isAhead", desc := "(II)Z" } : Jvm.MethodName) ∈ wq_TB := tb_2 204 rfl rfl
theorem tw_495 : Jvm.Cond.code ({ cls := "WellPipes$Search", name := "isAhead", desc := "(II)Z" } : Jvm.MethodName) prog_6_method_6_code (2 : Nat) (Option.some Jvm.ClassFile.FieldType.boolean) ∈ wq_TB := tb_2 205 rfl rfl
theorem tw_496 : Jvm.Cond.methodLink "WellPipes$Search" (68 : Nat) ({ cls := "WellPipes$Search", name := "choose", desc := "()Z" } : Jvm.MethodName) ∈ wq_TB := tb_2 206 rfl rfl
theorem tw_498 : Jvm.Cond.instanceMethod ({ cls := "WellPipes$Search", name := "choose", desc := "()Z" } : Jvm.MethodName) ∈ wq_TB := tb_2 208 rfl rfl
theorem tw_499 : Jvm.Cond.code ({ cls := "WellPipes$Search", name := "choose", desc := "()Z" } : Jvm.MethodName) prog_6_method_8_code (4 : Nat) (Option.some Jvm.ClassFile.FieldType.boolean) ∈ wq_TB := tb_2 209 rfl rfl
theorem tw_500 : Jvm.Cond.methodLink "WellPipes$Search" (98 : Nat) ({ cls := "WellPipes$Search", name := "tellString", desc := "(I)V" } : Jvm.MethodName) ∈ wq_TB := tb_2 210 rfl rfl
theorem tw_502 : Jvm.Cond.instanceMethod ({ cls := "WellPipes$Search", name := "tellString", desc := "(I)V" } : Jvm.MethodName) ∈ wq_TB := tb_2 212 rfl rfl
theorem tw_503 : Jvm.Cond.code ({ cls := "WellPipes$Search", name := "tellString", desc := "(I)V" } : Jvm.MethodName) prog_6_method_9_code (4 : Nat) (Option.none : Option Jvm.ClassFile.FieldType) ∈ wq_TB := tb_2 213 rfl rfl
theorem tw_504 : Jvm.Cond.methodLink "WellPipesLaw" (58 : Nat) ({ cls := "WellPipes", name := "rule", desc := "(II)I" } : Jvm.MethodName) ∈ wq_TB := tb_2 214 rfl rfl
theorem tw_505 : Jvm.Cond.instanceMethod ({ cls := "WellPipes", name := "rule", desc := "(II)I" } : Jvm.MethodName) ∈ wq_TB := tb_2 215 rfl rfl
theorem tw_506 : Jvm.Cond.selects "WellPipes" ({ cls := "WellPipes", name := "rule", desc := "(II)I" } : Jvm.MethodName) ({ cls := "WellPipes", name := "rule", desc := "(II)I" } : Jvm.MethodName) ∈ wq_TB := tb_2 216 rfl rfl
theorem tw_507 : Jvm.Cond.code ({ cls := "WellPipes", name := "rule", desc := "(II)I" } : Jvm.MethodName) prog_1_method_12_code (4 : Nat) (Option.some Jvm.ClassFile.FieldType.int) ∈ wq_TB := tb_2 217 rfl rfl
theorem tw_508 : Jvm.Cond.fieldLink "WellPipes" (168 : Nat) "WellPipes" "RULE_LOW" "[I" ∈ wq_TB := tb_2 218 rfl rfl
theorem tw_509 : Jvm.Cond.fieldLink "WellPipes" (171 : Nat) "WellPipes" "RULE_HIGH" "[I" ∈ wq_TB := tb_2 219 rfl rfl
theorem tw_510 : Jvm.Cond.methodLink "WellPipesLaw" (62 : Nat) ({ cls := "WellPipes", name := "price", desc := "(II)I" } : Jvm.MethodName) ∈ wq_TB := tb_2 220 rfl rfl
theorem tw_511 : Jvm.Cond.instanceMethod ({ cls := "WellPipes", name := "price", desc := "(II)I" } : Jvm.MethodName) ∈ wq_TB := tb_2 221 rfl rfl
theorem tw_512 : Jvm.Cond.selects "WellPipes" ({ cls := "WellPipes", name := "price", desc := "(II)I" } : Jvm.MethodName) ({ cls := "WellPipes", name := "price", desc := "(II)I" } : Jvm.MethodName) ∈ wq_TB := tb_2 222 rfl rfl
theorem tw_513 : Jvm.Cond.code ({ cls := "WellPipes", name := "price", desc := "(II)I" } : Jvm.MethodName) prog_1_method_13_code (4 : Nat) (Option.some Jvm.ClassFile.FieldType.int) ∈ wq_TB := tb_2 223 rfl rfl
theorem tw_514 : Jvm.Cond.fieldLink "WellPipes" (177 : Nat) "WellPipes" "FIGURE_HIGH" "[I" ∈ wq_TB := tb_2 224 rfl rfl
theorem tw_515 : Jvm.Cond.methodLink "WellPipes" (180 : Nat) ({ cls := "WellPipes$Well", name := "figure", desc := "(II)I" } : Jvm.MethodName) ∈ wq_TB := tb_2 225 rfl rfl
theorem tw_516 : Jvm.Cond.methodLink "WellPipes" (183 : Nat) ({ cls := "WellPipes$Well", name := "putFigure", desc := "(III)V" } : Jvm.MethodName) ∈ wq_TB := tb_2 226 rfl rfl
theorem tw_517 : Jvm.Cond.methodLink "WellPipesLaw" (66 : Nat) ({ cls := "WellPipes", name := "grade", desc := "(II)I" } : Jvm.MethodName) ∈ wq_TB := tb_2 227 rfl rfl
theorem tw_518 : Jvm.Cond.instanceMethod ({ cls := "WellPipes", name := "grade", desc := "(II)I" } : Jvm.MethodName) ∈ wq_TB := tb_2 228 rfl rfl
theorem tw_519 : Jvm.Cond.selects "WellPipes" ({ cls := "WellPipes", name := "grade", desc := "(II)I" } : Jvm.MethodName) ({ cls := "WellPipes", name := "grade", desc := "(II)I" } : Jvm.MethodName) ∈ wq_TB := tb_2 229 rfl rfl
theorem tw_520 : Jvm.Cond.code ({ cls := "WellPipes", name := "grade", desc := "(II)I" } : Jvm.MethodName) prog_1_method_14_code (3 : Nat) (Option.some Jvm.ClassFile.FieldType.int) ∈ wq_TB := tb_2 230 rfl rfl
theorem tw_521 : Jvm.Cond.methodLink "WellPipesLaw" (70 : Nat) ({ cls := "WellPipes", name := "step", desc := "(II)I" } : Jvm.MethodName) ∈ wq_TB := tb_2 231 rfl rfl
theorem tw_522 : Jvm.Cond.instanceMethod ({ cls := "WellPipes", name := "step", desc := "(II)I" } : Jvm.MethodName) ∈ wq_TB := tb_2 232 rfl rfl
theorem tw_523 : Jvm.Cond.selects "WellPipes" ({ cls := "WellPipes", name := "step", desc := "(II)I" } : Jvm.MethodName) ({ cls := "WellPipes", name := "step", desc := "(II)I" } : Jvm.MethodName) ∈ wq_TB := tb_2 233 rfl rfl
theorem tw_524 : Jvm.Cond.code ({ cls := "WellPipes", name := "step", desc := "(II)I" } : Jvm.MethodName) prog_1_method_15_code (3 : Nat) (Option.some Jvm.ClassFile.FieldType.int) ∈ wq_TB := tb_2 234 rfl rfl
theorem tw_525 : Jvm.Cond.methodLink "WellPipes" (187 : Nat) ({ cls := "WellPipes$Well", name := "burstLoad", desc := "(I)I" } : Jvm.MethodName) ∈ wq_TB := tb_2 235 rfl rfl
theorem tw_526 : Jvm.Cond.methodLink "WellPipes" (190 : Nat) ({ cls := "WellPipes$Well", name := "crushLoad", desc := "(I)I" } : Jvm.MethodName) ∈ wq_TB := tb_2 236 rfl rfl
theorem tw_527 : Jvm.Cond.methodLink "WellPipes" (193 : Nat) ({ cls := "WellPipes$Well", name := "pullLoad", desc := "(I)I" } : Jvm.MethodName) ∈ wq_TB := tb_2 237 rfl rfl
theorem tw_528 : Jvm.Cond.instanceMethod ({ cls := "WellPipes$Well", name := "pullLoad", desc := "(I)I" } : Jvm.MethodName) ∈ wq_TB := tb_2 238 rfl rfl
theorem tw_529 : Jvm.Cond.selects "WellPipes$Well" ({ cls := "WellPipes$Well", name := "pullLoad", desc := "(I)I" } : Jvm.MethodName) ({ cls := "WellPipes$Well", name := "pullLoad", desc := "(I)I" } : Jvm.MethodName) ∈ wq_TB := tb_2 239 rfl rfl
theorem tw_530 : Jvm.Cond.code ({ cls := "WellPipes$Well", name := "pullLoad", desc := "(I)I" } : Jvm.MethodName) prog_7_method_10_code (4 : Nat) (Option.some Jvm.ClassFile.FieldType.int) ∈ wq_TB := tb_3 0 rfl rfl
theorem tw_531 : Jvm.Cond.methodLink "WellPipes$Well" (41 : Nat) ({ cls := "WellPipes$Well", name := "laidFigure", desc := "(II)I" } : Jvm.MethodName) ∈ wq_TB := tb_3 1 rfl rfl
theorem tw_532 : Jvm.Cond.instanceMethod ({ cls := "WellPipes$Well", name := "laidFigure", desc := "(II)I" } : Jvm.MethodName) ∈ wq_TB := tb_3 2 rfl rfl
theorem tw_533 : Jvm.Cond.selects "WellPipes$Well" ({ cls := "WellPipes$Well", name := "laidFigure", desc := "(II)I" } : Jvm.MethodName) ({ cls := "WellPipes$Well", name := "laidFigure", desc := "(II)I" } : Jvm.MethodName) ∈ wq_TB := tb_3 3 rfl rfl
theorem tw_534 : Jvm.Cond.code ({ cls := "WellPipes$Well", name := "laidFigure", desc := "(II)I" } : Jvm.MethodName) prog_7_method_5_code (3 : Nat) (Option.some Jvm.ClassFile.FieldType.int) ∈ wq_TB := tb_3 4 rfl rfl
theorem tw_535 : Jvm.Cond.methodLink "WellPipes" (196 : Nat) ({ cls := "WellPipes$Well", name := "holds", desc := "(I)Z" } : Jvm.MethodName) ∈ wq_TB := tb_3 5 rfl rfl
theorem tw_536 : Jvm.Cond.instanceMethod ({ cls := "WellPipes$Well", name := "holds", desc := "(I)Z" } : Jvm.MethodName) ∈ wq_TB := tb_3 6 rfl rfl
theorem tw_537 : Jvm.Cond.selects "WellPipes$Well" ({ cls := "WellPipes$Well", name := "holds", desc := "(I)Z" } : Jvm.MethodName) ({ cls := "WellPipes$Well", name := "holds", desc := "(I)Z" } : Jvm.MethodName) ∈ wq_TB := tb_3 7 rfl rfl
theorem tw_538 : Jvm.Cond.code ({ cls := "WellPipes$Well", name := "holds", desc := "(I)Z" } : Jvm.MethodName) prog_7_method_16_code (2 : Nat) (Option.some Jvm.ClassFile.FieldType.boolean) ∈ wq_TB := tb_3 8 rfl rfl
theorem tw_539 : Jvm.Cond.methodLink "WellPipes$Well" (71 : Nat) ({ cls := "WellPipes$Well", name := "pullLoad", desc := "(I)I" } : Jvm.MethodName) ∈ wq_TB := tb_3 9 rfl rfl
theorem tw_540 : Jvm.Cond.methodLink "WellPipes$Well" (74 : Nat) ({ cls := "WellPipes$Well", name := "wouldHold", desc := "(III)Z" } : Jvm.MethodName) ∈ wq_TB := tb_3 10 rfl rfl
theorem tw_541 : Jvm.Cond.methodLink "WellPipes" (199 : Nat) ({ cls := "WellPipes$Well", name := "sectionLength", desc := "(I)I" } : Jvm.MethodName) ∈ wq_TB := tb_3 11 rfl rfl
theorem tw_542 : Jvm.Cond.instanceMethod ({ cls := "WellPipes$Well", name := "sectionLength", desc := "(I)I" } : Jvm.MethodName) ∈ wq_TB := tb_3 12 rfl rfl
theorem tw_543 : Jvm.Cond.selects "WellPipes$Well" ({ cls := "WellPipes$Well", name := "sectionLength", desc := "(I)I" } : Jvm.MethodName) ({ cls := "WellPipes$Well", name := "sectionLength", desc := "(I)I" } : Jvm.MethodName) ∈ wq_TB := tb_3 13 rfl rfl
theorem tw_544 : Jvm.Cond.code ({ cls := "WellPipes$Well", name := "sectionLength", desc := "(I)I" } : Jvm.MethodName) prog_7_method_21_code (4 : Nat) (Option.some Jvm.ClassFile.FieldType.int) ∈ wq_TB := tb_3 14 rfl rfl
theorem tw_545 : Jvm.Cond.methodLink "WellPipesLaw" (74 : Nat) ({ cls := "WellPipes", name := "bears", desc := "(II)I" } : Jvm.MethodName) ∈ wq_TB := tb_3 15 rfl rfl
theorem tw_546 : Jvm.Cond.instanceMethod ({ cls := "WellPipes", name := "bears", desc := "(II)I" } : Jvm.MethodName) ∈ wq_TB := tb_3 16 rfl rfl
theorem tw_547 : Jvm.Cond.selects "WellPipes" ({ cls := "WellPipes", name := "bears", desc := "(II)I" } : Jvm.MethodName) ({ cls := "WellPipes", name := "bears", desc := "(II)I" } : Jvm.MethodName) ∈ wq_TB := tb_3 17 rfl rfl
theorem tw_548 : Jvm.Cond.code ({ cls := "WellPipes", name := "bears", desc := "(II)I" } : Jvm.MethodName) prog_1_method_16_code (4 : Nat) (Option.some Jvm.ClassFile.FieldType.int) ∈ wq_TB := tb_3 18 rfl rfl
theorem tw_549 : Jvm.Cond.methodLink "WellPipes" (202 : Nat) ({ cls := "WellPipes$Well", name := "burstBorne", desc := "(I)I" } : Jvm.MethodName) ∈ wq_TB := tb_3 19 rfl rfl
theorem tw_550 : Jvm.Cond.methodLink "WellPipes" (205 : Nat) ({ cls := "WellPipes$Well", name := "crushBorne", desc := "(II)I" } : Jvm.MethodName) ∈ wq_TB := tb_3 20 rfl rfl
theorem tw_551 : Jvm.Cond.methodLink "WellPipes" (208 : Nat) ({ cls := "WellPipes$Well", name := "pullBorne", desc := "(I)I" } : Jvm.MethodName) ∈ wq_TB := tb_3 21 rfl rfl
theorem tw_552 : Jvm.Cond.methodLink "WellPipesLaw" (78 : Nat) ({ cls := "WellPipes", name := "stand", desc := "(I)I" } : Jvm.MethodName) ∈ wq_TB := tb_3 22 rfl rfl
theorem tw_553 : Jvm.Cond.instanceMethod ({ cls := "WellPipes", name := "stand", desc := "(I)I" } : Jvm.MethodName) ∈ wq_TB := tb_3 23 rfl rfl
theorem tw_554 : Jvm.Cond.selects "WellPipes" ({ cls := "WellPipes", name := "stand", desc := "(I)I" } : Jvm.MethodName) ({ cls := "WellPipes", name := "stand", desc := "(I)I" } : Jvm.MethodName) ∈ wq_TB := tb_3 24 rfl rfl
theorem tw_555 : Jvm.Cond.code ({ cls := "WellPipes", name := "stand", desc := "(I)I" } : Jvm.MethodName) prog_1_method_17_code (2 : Nat) (Option.some Jvm.ClassFile.FieldType.int) ∈ wq_TB := tb_3 25 rfl rfl
theorem tw_556 : Jvm.Cond.methodLink "WellPipes" (214 : Nat) ({ cls := "WellPipes$Well", name := "sumOfLaid", desc := "(I)I" } : Jvm.MethodName) ∈ wq_TB := tb_3 26 rfl rfl
theorem tw_557 : Jvm.Cond.instanceMethod ({ cls := "WellPipes$Well", name := "sumOfLaid", desc := "(I)I" } : Jvm.MethodName) ∈ wq_TB := tb_3 27 rfl rfl
theorem tw_558 : Jvm.Cond.selects "WellPipes$Well" ({ cls := "WellPipes$Well", name := "sumOfLaid", desc := "(I)I" } : Jvm.MethodName) ({ cls := "WellPipes$Well", name := "sumOfLaid", desc := "(I)I" } : Jvm.MethodName) ∈ wq_TB := tb_3 28 rfl rfl
theorem tw_559 : Jvm.Cond.code ({ cls := "WellPipes$Well", name := "sumOfLaid", desc := "(I)I" } : Jvm.MethodName) prog_7_method_6_code (4 : Nat) (Option.some Jvm.ClassFile.FieldType.int) ∈ wq_TB := tb_3 29 rfl rfl
theorem tw_560 : Jvm.Cond.methodLink "WellPipes" (217 : Nat) ({ cls := "WellPipes$Well", name := "firstThatFails", desc := "()I" } : Jvm.MethodName) ∈ wq_TB := tb_3 30 rfl rfl
theorem tw_561 : Jvm.Cond.instanceMethod ({ cls := "WellPipes$Well", name := "firstThatFails", desc := "()I" } : Jvm.MethodName) ∈ wq_TB := tb_3 31 rfl rfl
theorem tw_562 : Jvm.Cond.selects "WellPipes$Well" ({ cls := "WellPipes$Well", name := "firstThatFails", desc := "()I" } : Jvm.MethodName) ({ cls := "WellPipes$Well", name := "firstThatFails", desc := "()I" } : Jvm.MethodName) ∈ wq_TB := tb_3 32 rfl rfl
theorem tw_563 : Jvm.Cond.code ({ cls := "WellPipes$Well", name := "firstThatFails", desc := "()I" } : Jvm.MethodName) prog_7_method_19_code (2 : Nat) (Option.some Jvm.ClassFile.FieldType.int) ∈ wq_TB := tb_3 33 rfl rfl
theorem tw_564 : Jvm.Cond.methodLink "WellPipes$Well" (78 : Nat) ({ cls := "WellPipes$Well", name := "holds", desc := "(I)Z" } : Jvm.MethodName) ∈ wq_TB := tb_3 34 rfl rfl
theorem tw_565 : Jvm.Cond.constant "WellPipes$Well" (82 : Nat) (-1000000 : Int32) ∈ wq_TB := tb_3 35 rfl rfl
theorem tw_566 : Jvm.Cond.methodLink "WellPipes" (220 : Nat) ({ cls := "WellPipes$Well", name := "isSound", desc := "()Z" } : Jvm.MethodName) ∈ wq_TB := tb_3 36 rfl rfl
theorem tw_567 : Jvm.Cond.instanceMethod ({ cls := "WellPipes$Well", name := "isSound", desc := "()Z" } : Jvm.MethodName) ∈ wq_TB := tb_3 37 rfl rfl
theorem tw_568 : Jvm.Cond.selects "WellPipes$Well" ({ cls := "WellPipes$Well", name := "isSound", desc := "()Z" } : Jvm.MethodName) ({ cls := "WellPipes$Well", name := "isSound", desc := "()Z" } : Jvm.MethodName) ∈ wq_TB := tb_3 38 rfl rfl
theorem tw_569 : Jvm.Cond.code ({ cls := "WellPipes$Well", name := "isSound", desc := "()Z" } : Jvm.MethodName) prog_7_method_20_code (2 : Nat) (Option.some Jvm.ClassFile.FieldType.boolean) ∈ wq_TB := tb_3 39 rfl rfl
theorem tw_570 : Jvm.Cond.methodLink "WellPipes$Well" (83 : Nat) ({ cls := "WellPipes$Well", name := "firstThatFails", desc := "()I" } : Jvm.MethodName) ∈ wq_TB := tb_3 40 rfl rfl
theorem tw_571 : Jvm.Cond.methodLink "WellPipes$Well" (87 : Nat) ({ cls := "WellPipes$Well", name := "sectionLength", desc := "(I)I" } : Jvm.MethodName) ∈ wq_TB := tb_3 41 rfl rfl
theorem tw_572 : Jvm.Cond.methodLink "WellPipesLaw" (82 : Nat) ({ cls := "WellPipes", name := "best", desc := "(I)I" } : Jvm.MethodName) ∈ wq_TB := tb_3 42 rfl rfl
theorem tw_573 : Jvm.Cond.instanceMethod ({ cls := "WellPipes", name := "best", desc := "(I)I" } : Jvm.MethodName) ∈ wq_TB := tb_3 43 rfl rfl
theorem tw_574 : Jvm.Cond.selects "WellPipes" ({ cls := "WellPipes", name := "best", desc := "(I)I" } : Jvm.MethodName) ({ cls := "WellPipes", name := "best", desc := "(I)I" } : Jvm.MethodName) ∈ wq_TB := tb_3 44 rfl rfl
theorem tw_575 : Jvm.Cond.code ({ cls := "WellPipes", name := "best", desc := "(I)I" } : Jvm.MethodName) prog_1_method_18_code (2 : Nat) (Option.some Jvm.ClassFile.FieldType.int) ∈ wq_TB := tb_3 45 rfl rfl
theorem tw_576 : Jvm.Cond.methodLink "WellPipesLaw" (86 : Nat) ({ cls := "WellPipes", name := "without", desc := "(I)I" } : Jvm.MethodName) ∈ wq_TB := tb_3 46 rfl rfl
theorem tw_577 : Jvm.Cond.instanceMethod ({ cls := "WellPipes", name := "without", desc := "(I)I" } : Jvm.MethodName) ∈ wq_TB := tb_3 47 rfl rfl
theorem tw_578 : Jvm.Cond.selects "WellPipes" ({ cls := "WellPipes", name := "without", desc := "(I)I" } : Jvm.MethodName) ({ cls := "WellPipes", name := "without", desc := "(I)I" } : Jvm.MethodName) ∈ wq_TB := tb_3 48 rfl rfl
theorem tw_579 : Jvm.Cond.code ({ cls := "WellPipes", name := "without", desc := "(I)I" } : Jvm.MethodName) prog_1_method_19_code (2 : Nat) (Option.some Jvm.ClassFile.FieldType.int) ∈ wq_TB := tb_3 49 rfl rfl
theorem tw_580 : Jvm.Cond.methodLink "WellPipesLaw" (90 : Nat) ({ cls := "WellPipes", name := "most", desc := "(I)I" } : Jvm.MethodName) ∈ wq_TB := tb_3 50 rfl rfl
theorem tw_581 : Jvm.Cond.instanceMethod ({ cls := "WellPipes", name := "most", desc := "(I)I" } : Jvm.MethodName) ∈ wq_TB := tb_3 51 rfl rfl
theorem tw_582 : Jvm.Cond.selects "WellPipes" ({ cls := "WellPipes", name := "most", desc := "(I)I" } : Jvm.MethodName) ({ cls := "WellPipes", name := "most", desc := "(I)I" } : Jvm.MethodName) ∈ wq_TB := tb_3 52 rfl rfl
theorem tw_583 : Jvm.Cond.code ({ cls := "WellPipes", name := "most", desc := "(I)I" } : Jvm.MethodName) prog_1_method_20_code (3 : Nat) (Option.some Jvm.ClassFile.FieldType.int) ∈ wq_TB := tb_3 53 rfl rfl
theorem tw_584 : Jvm.Cond.methodLink "WellPipesLaw" (94 : Nat) ({ cls := "WellPipes", name := "need", desc := "(I)I" } : Jvm.MethodName) ∈ wq_TB := tb_3 54 rfl rfl
theorem tw_585 : Jvm.Cond.instanceMethod ({ cls := "WellPipes", name := "need", desc := "(I)I" } : Jvm.MethodName) ∈ wq_TB := tb_3 55 rfl rfl
theorem tw_586 : Jvm.Cond.selects "WellPipes" ({ cls := "WellPipes", name := "need", desc := "(I)I" } : Jvm.MethodName) ({ cls := "WellPipes", name := "need", desc := "(I)I" } : Jvm.MethodName) ∈ wq_TB := tb_3 56 rfl rfl
theorem tw_587 : Jvm.Cond.code ({ cls := "WellPipes", name := "need", desc := "(I)I" } : Jvm.MethodName) prog_1_method_21_code (4 : Nat) (Option.some Jvm.ClassFile.FieldType.int) ∈ wq_TB := tb_3 57 rfl rfl
theorem tw_588 : Jvm.Cond.methodLink "WellPipesLaw" (98 : Nat) ({ cls := "WellPipes", name := "sets", desc := "(II)I" } : Jvm.MethodName) ∈ wq_TB := tb_3 58 rfl rfl
theorem tw_589 : Jvm.Cond.instanceMethod ({ cls := "WellPipes", name := "sets", desc := "(II)I" } : Jvm.MethodName) ∈ wq_TB := tb_3 59 rfl rfl
theorem tw_590 : Jvm.Cond.selects "WellPipes" ({ cls := "WellPipes", name := "sets", desc := "(II)I" } : Jvm.MethodName) ({ cls := "WellPipes", name := "sets", desc := "(II)I" } : Jvm.MethodName) ∈ wq_TB := tb_3 60 rfl rfl
theorem tw_591 : Jvm.Cond.code ({ cls := "WellPipes", name := "sets", desc := "(II)I" } : Jvm.MethodName) prog_1_method_22_code (7 : Nat) (Option.some Jvm.ClassFile.FieldType.int) ∈ wq_TB := tb_3 61 rfl rfl
theorem tw_592 : Jvm.Cond.methodLink "WellPipes" (226 : Nat) ({ cls := "WellPipes$Well", name := "priceOf", desc := "(I)I" } : Jvm.MethodName) ∈ wq_TB := tb_3 62 rfl rfl
theorem tw_593 : Jvm.Cond.instanceMethod ({ cls := "WellPipes$Well", name := "priceOf", desc := "(I)I" } : Jvm.MethodName) ∈ wq_TB := tb_3 63 rfl rfl
theorem tw_594 : Jvm.Cond.selects "WellPipes$Well" ({ cls := "WellPipes$Well", name := "priceOf", desc := "(I)I" } : Jvm.MethodName) ({ cls := "WellPipes$Well", name := "priceOf", desc := "(I)I" } : Jvm.MethodName) ∈ wq_TB := tb_3 64 rfl rfl
theorem tw_595 : Jvm.Cond.code ({ cls := "WellPipes$Well", name := "priceOf", desc := "(I)I" } : Jvm.MethodName) prog_7_method_23_code (4 : Nat) (Option.some Jvm.ClassFile.FieldType.int) ∈ wq_TB := tb_3 65 rfl rfl
theorem tw_596 : Jvm.Cond.methodLink "WellPipesLaw" (102 : Nat) ({ cls := "WellPipes", name := "share", desc := "(II)I" } : Jvm.MethodName) ∈ wq_TB := tb_3 66 rfl rfl
theorem tw_597 : Jvm.Cond.instanceMethod ({ cls := "WellPipes", name := "share", desc := "(II)I" } : Jvm.MethodName) ∈ wq_TB := tb_3 67 rfl rfl
theorem tw_598 : Jvm.Cond.selects "WellPipes" ({ cls := "WellPipes", name := "share", desc := "(II)I" } : Jvm.MethodName) ({ cls := "WellPipes", name := "share", desc := "(II)I" } : Jvm.MethodName) ∈ wq_TB := tb_3 68 rfl rfl
theorem tw_599 : Jvm.Cond.code ({ cls := "WellPipes", name := "share", desc := "(II)I" } : Jvm.MethodName) prog_1_method_23_code (7 : Nat) (Option.some Jvm.ClassFile.FieldType.int) ∈ wq_TB := tb_3 69 rfl rfl
theorem tw_600 : Jvm.Cond.methodLink "WellPipes" (229 : Nat) ({ cls := "WellPipes$Well", name := "laidFigure", desc := "(II)I" } : Jvm.MethodName) ∈ wq_TB := tb_3 70 rfl rfl
theorem tw_601 : Jvm.Cond.methodLink "WellPipesLaw" (106 : Nat) ({ cls := "WellPipes", name := "byTurns", desc := "(I)I" } : Jvm.MethodName) ∈ wq_TB := tb_3 71 rfl rfl
theorem tw_602 : Jvm.Cond.instanceMethod ({ cls := "WellPipes", name := "byTurns", desc := "(I)I" } : Jvm.MethodName) ∈ wq_TB := tb_3 72 rfl rfl
theorem tw_603 : Jvm.Cond.selects "WellPipes" ({ cls := "WellPipes", name := "byTurns", desc := "(I)I" } : Jvm.MethodName) ({ cls := "WellPipes", name := "byTurns", desc := "(I)I" } : Jvm.MethodName) ∈ wq_TB := tb_3 73 rfl rfl
theorem tw_604 : Jvm.Cond.code ({ cls := "WellPipes", name := "byTurns", desc := "(I)I" } : Jvm.MethodName) prog_1_method_24_code (2 : Nat) (Option.some Jvm.ClassFile.FieldType.int) ∈ wq_TB := tb_3 74 rfl rfl
theorem tw_605 : Jvm.Cond.methodLink "WellPipes" (232 : Nat) ({ cls := "WellPipes", name := "costByTurns", desc := "(LWellPipes$Well;IIIZ)I" } : Jvm.MethodName) ∈ wq_TB := tb_3 75 rfl rfl
theorem tw_606 : Jvm.Cond.static ({ cls := "WellPipes", name := "costByTurns", desc := "(LWellPipes$Well;IIIZ)I" } : Jvm.MethodName) ∈ wq_TB := tb_3 76 rfl rfl
theorem tw_607 : Jvm.Cond.code ({ cls := "WellPipes", name := "costByTurns", desc := "(LWellPipes$Well;IIIZ)I" } : Jvm.MethodName) prog_1_method_44_code (9 : Nat) (Option.some Jvm.ClassFile.FieldType.int) ∈ wq_TB := tb_3 77 rfl rfl
theorem tw_608 : Jvm.Cond.methodLink "WellPipes" (299 : Nat) ({ cls := "WellPipes$Well", name := "wouldHold", desc := "(III)Z" } : Jvm.MethodName) ∈ wq_TB := tb_3 78 rfl rfl
theorem tw_609 : Jvm.Cond.methodLink "WellPipesLaw" (110 : Nat) ({ cls := "WellPipes", name := "who", desc := "(IIII)I" } : Jvm.MethodName) ∈ wq_TB := tb_3 79 rfl rfl
theorem tw_610 : Jvm.Cond.instanceMethod ({ cls := "WellPipes", name := "who", desc := "(IIII)I" } : Jvm.MethodName) ∈ wq_TB := tb_3 80 rfl rfl
theorem tw_611 : Jvm.Cond.selects "WellPipes" ({ cls := "WellPipes", name := "who", desc := "(IIII)I" } : Jvm.MethodName) ({ cls := "WellPipes", name := "who", desc := "(IIII)I" } : Jvm.MethodName) ∈ wq_TB := tb_3 81 rfl rfl
theorem tw_612 : Jvm.Cond.code ({ cls := "WellPipes", name := "who", desc := "(IIII)I" } : Jvm.MethodName) prog_1_method_25_code (8 : Nat) (Option.some Jvm.ClassFile.FieldType.int) ∈ wq_TB := tb_3 82 rfl rfl
theorem tw_613 : Jvm.Cond.methodLink "WellPipes" (239 : Nat) ({ cls := "WellPipes", name := "isBest", desc := "(LWellPipes$Well;LWellPipes$Row;I)Z" } : Jvm.MethodName) ∈ wq_TB := tb_3 83 rfl rfl
theorem tw_615 : Jvm.Cond.instanceMethod ({ cls := "WellPipes", name := "isBest", desc := "(LWellPipes$Well;LWellPipes$Row;I)Z" } : Jvm.MethodName) ∈ wq_TB := tb_3 85 rfl rfl
theorem tw_616 : Jvm.Cond.code ({ cls := "WellPipes", name := "isBest", desc := "(LWellPipes$Well;LWellPipes$Row;I)Z" } : Jvm.MethodName) prog_1_method_43_code (5 : Nat) (Option.some Jvm.ClassFile.FieldType.boolean) ∈ wq_TB := tb_3 86 rfl rfl
theorem tw_617 : Jvm.Cond.methodLink "WellPipesLaw" (115 : Nat) ({ cls := "WellPipes", name := "flaws", desc := "(II)J" } : Jvm.MethodName) ∈ wq_TB := tb_3 87 rfl rfl
theorem tw_618 : Jvm.Cond.instanceMethod ({ cls := "WellPipes", name := "flaws", desc := "(II)J" } : Jvm.MethodName) ∈ wq_TB := tb_3 88 rfl rfl
theorem tw_619 : Jvm.Cond.selects "WellPipes" ({ cls := "WellPipes", name := "flaws", desc := "(II)J" } : Jvm.MethodName) ({ cls := "WellPipes", name := "flaws", desc := "(II)J" } : Jvm.MethodName) ∈ wq_TB := tb_3 89 rfl rfl
theorem tw_620 : Jvm.Cond.code ({ cls := "WellPipes", name := "flaws", desc := "(II)J" } : Jvm.MethodName) prog_1_method_26_code (9 : Nat) (Option.some Jvm.ClassFile.FieldType.long) ∈ wq_TB := tb_3 90 rfl rfl
theorem tw_621 : Jvm.Cond.constantLong "WellPipes" (243 : Nat) (-1000002 : Int64) ∈ wq_TB := tb_3 91 rfl rfl
theorem tw_622 : Jvm.Cond.constantLong "WellPipes" (245 : Nat) (-1000001 : Int64) ∈ wq_TB := tb_3 92 rfl rfl
theorem tw_623 : Jvm.Cond.methodLink "WellPipes" (247 : Nat) ({ cls := "WellPipes$Well", name := "holdsFlawed", desc := "(I)Z" } : Jvm.MethodName) ∈ wq_TB := tb_3 93 rfl rfl
theorem tw_624 : Jvm.Cond.instanceMethod ({ cls := "WellPipes$Well", name := "holdsFlawed", desc := "(I)Z" } : Jvm.MethodName) ∈ wq_TB := tb_3 94 rfl rfl
theorem tw_625 : Jvm.Cond.selects "WellPipes$Well" ({ cls := "WellPipes$Well", name := "holdsFlawed", desc := "(I)Z" } : Jvm.MethodName) ({ cls := "WellPipes$Well", name := "holdsFlawed", desc := "(I)Z" } : Jvm.MethodName) ∈ wq_TB := tb_3 95 rfl rfl
theorem tw_626 : Jvm.Cond.code ({ cls := "WellPipes$Well", name := "holdsFlawed", desc := "(I)Z" } : Jvm.MethodName) prog_7_method_17_code (2 : Nat) (Option.some Jvm.ClassFile.FieldType.boolean) ∈ wq_TB := tb_3 96 rfl rfl
theorem tw_627 : Jvm.Cond.constantLong "WellPipes" (250 : Nat) (10 : Int64) ∈ wq_TB := tb_3 97 rfl rfl
theorem tw_628 : Jvm.Cond.methodLink "WellPipes" (252 : Nat) ({ cls := "WellPipes", name := "greatestDivisor", desc := "(JJ)J" } : Jvm.MethodName) ∈ wq_TB := tb_3 98 rfl rfl
theorem tw_629 : Jvm.Cond.static ({ cls := "WellPipes", name := "greatestDivisor", desc := "(JJ)J" } : Jvm.MethodName) ∈ wq_TB := tb_3 99 rfl rfl
theorem tw_630 : Jvm.Cond.code ({ cls := "WellPipes", name := "greatestDivisor", desc := "(JJ)J" } : Jvm.MethodName) prog_1_method_45_code (11 : Nat) (Option.some Jvm.ClassFile.FieldType.long) ∈ wq_TB := tb_3 100 rfl rfl
theorem tw_631 : Jvm.Cond.methodLink "WellPipes" (256 : Nat) ({ cls := "java/lang/Math", name := "max", desc := "(JJ)J" } : Jvm.MethodName) ∈ wq_TB := tb_3 101 rfl rfl
theorem tw_632 : Jvm.Cond.static ({ cls := "java/lang/Math", name := "max", desc := "(JJ)J" } : Jvm.MethodName) ∈ wq_TB := tb_3 102 rfl rfl
theorem tw_633 : Jvm.Cond.code ({ cls := "java/lang/Math", name := "max", desc := "(JJ)J" } : Jvm.MethodName) prog_10_method_66_code (4 : Nat) (Option.some Jvm.ClassFile.FieldType.long) ∈ wq_TB := tb_3 103 rfl rfl
theorem tw_634 : Jvm.Cond.methodLink "WellPipesLaw" (120 : Nat) ({ cls := "WellPipes", name := "drawn", desc := "(III)I" } : Jvm.MethodName) ∈ wq_TB := tb_3 104 rfl rfl
theorem tw_635 : Jvm.Cond.instanceMethod ({ cls := "WellPipes", name := "drawn", desc := "(III)I" } : Jvm.MethodName) ∈ wq_TB := tb_3 105 rfl rfl
theorem tw_636 : Jvm.Cond.selects "WellPipes" ({ cls := "WellPipes", name := "drawn", desc := "(III)I" } : Jvm.MethodName) ({ cls := "WellPipes", name := "drawn", desc := "(III)I" } : Jvm.MethodName) ∈ wq_TB := tb_3 106 rfl rfl
theorem tw_637 : Jvm.Cond.code ({ cls := "WellPipes", name := "drawn", desc := "(III)I" } : Jvm.MethodName) prog_1_method_27_code (7 : Nat) (Option.some Jvm.ClassFile.FieldType.int) ∈ wq_TB := tb_3 107 rfl rfl
theorem tw_638 : Jvm.Cond.constant "WellPipes" (261 : Nat) (999999 : Int32) ∈ wq_TB := tb_3 108 rfl rfl
theorem tw_639 : Jvm.Cond.constantLong "WellPipes" (262 : Nat) (16807 : Int64) ∈ wq_TB := tb_3 109 rfl rfl
theorem tw_640 : Jvm.Cond.constantLong "WellPipes" (264 : Nat) (2147483647 : Int64) ∈ wq_TB := tb_3 110 rfl rfl
theorem tw_641 : Jvm.Cond.methodLink "WellPipes" (266 : Nat) ({ cls := "WellPipes$Well", name := "changeByDraw", desc := "(I)V" } : Jvm.MethodName) ∈ wq_TB := tb_3 111 rfl rfl
theorem tw_642 : Jvm.Cond.instanceMethod ({ cls := "WellPipes$Well", name := "changeByDraw", desc := "(I)V" } : Jvm.MethodName) ∈ wq_TB := tb_3 112 rfl rfl
theorem tw_643 : Jvm.Cond.selects "WellPipes$Well" ({ cls := "WellPipes$Well", name := "changeByDraw", desc := "(I)V" } : Jvm.MethodName) ({ cls := "WellPipes$Well", name := "changeByDraw", desc := "(I)V" } : Jvm.MethodName) ∈ wq_TB := tb_3 113 rfl rfl
theorem tw_644 : Jvm.Cond.code ({ cls := "WellPipes$Well", name := "changeByDraw", desc := "(I)V" } : Jvm.MethodName) prog_7_method_24_code (2 : Nat) (Option.none : Option Jvm.ClassFile.FieldType) ∈ wq_TB := tb_3 114 rfl rfl
theorem tw_645 : Jvm.Cond.methodLink "WellPipes" (270 : Nat) ({ cls := "WellPipes$Well", name := "howManyHold", desc := "()I" } : Jvm.MethodName) ∈ wq_TB := tb_3 115 rfl rfl
theorem tw_646 : Jvm.Cond.instanceMethod ({ cls := "WellPipes$Well", name := "howManyHold", desc := "()I" } : Jvm.MethodName) ∈ wq_TB := tb_3 116 rfl rfl
theorem tw_647 : Jvm.Cond.selects "WellPipes$Well" ({ cls := "WellPipes$Well", name := "howManyHold", desc := "()I" } : Jvm.MethodName) ({ cls := "WellPipes$Well", name := "howManyHold", desc := "()I" } : Jvm.MethodName) ∈ wq_TB := tb_3 117 rfl rfl
theorem tw_648 : Jvm.Cond.code ({ cls := "WellPipes$Well", name := "howManyHold", desc := "()I" } : Jvm.MethodName) prog_7_method_18_code (3 : Nat) (Option.some Jvm.ClassFile.FieldType.int) ∈ wq_TB := tb_3 118 rfl rfl
theorem tw_649 : Jvm.Cond.methodLink "WellPipesLaw" (124 : Nat) ({ cls := "WellPipes", name := "image", desc := "(I)I" } : Jvm.MethodName) ∈ wq_TB := tb_3 119 rfl rfl
theorem tw_650 : Jvm.Cond.instanceMethod ({ cls := "WellPipes", name := "image", desc := "(I)I" } : Jvm.MethodName) ∈ wq_TB := tb_3 120 rfl rfl
theorem tw_651 : Jvm.Cond.selects "WellPipes" ({ cls := "WellPipes", name := "image", desc := "(I)I" } : Jvm.MethodName) ({ cls := "WellPipes", name := "image", desc := "(I)I" } : Jvm.MethodName) ∈ wq_TB := tb_3 121 rfl rfl
theorem tw_652 : Jvm.Cond.code ({ cls := "WellPipes", name := "image", desc := "(I)I" } : Jvm.MethodName) prog_1_method_28_code (2 : Nat) (Option.some Jvm.ClassFile.FieldType.int) ∈ wq_TB := tb_3 122 rfl rfl
theorem tw_653 : Jvm.Cond.methodLink "WellPipesLaw" (128 : Nat) ({ cls := "WellPipes", name := "restore", desc := "(I)I" } : Jvm.MethodName) ∈ wq_TB := tb_3 123 rfl rfl
theorem tw_654 : Jvm.Cond.instanceMethod ({ cls := "WellPipes", name := "restore", desc := "(I)I" } : Jvm.MethodName) ∈ wq_TB := tb_3 124 rfl rfl
theorem tw_655 : Jvm.Cond.selects "WellPipes" ({ cls := "WellPipes", name := "restore", desc := "(I)I" } : Jvm.MethodName) ({ cls := "WellPipes", name := "restore", desc := "(I)I" } : Jvm.MethodName) ∈ wq_TB := tb_3 125 rfl rfl
theorem tw_656 : Jvm.Cond.code ({ cls := "WellPipes", name := "restore", desc := "(I)I" } : Jvm.MethodName) prog_1_method_29_code (2 : Nat) (Option.some Jvm.ClassFile.FieldType.int) ∈ wq_TB := tb_3 126 rfl rfl
theorem tw_657 : Jvm.Cond.methodLink "WellPipesLaw" (132 : Nat) ({ cls := "WellPipes", name := "kind", desc := "(I)I" } : Jvm.MethodName) ∈ wq_TB := tb_3 127 rfl rfl
theorem tw_658 : Jvm.Cond.instanceMethod ({ cls := "WellPipes", name := "kind", desc := "(I)I" } : Jvm.MethodName) ∈ wq_TB := tb_3 128 rfl rfl
theorem tw_659 : Jvm.Cond.selects "WellPipes" ({ cls := "WellPipes", name := "kind", desc := "(I)I" } : Jvm.MethodName) ({ cls := "WellPipes", name := "kind", desc := "(I)I" } : Jvm.MethodName) ∈ wq_TB := tb_3 129 rfl rfl
theorem tw_660 : Jvm.Cond.code ({ cls := "WellPipes", name := "kind", desc := "(I)I" } : Jvm.MethodName) prog_1_method_30_code (2 : Nat) (Option.some Jvm.ClassFile.FieldType.int) ∈ wq_TB := tb_3 130 rfl rfl
theorem tw_661 : Jvm.Cond.methodLink "WellPipesLaw" (136 : Nat) ({ cls := "WellPipes", name := "as", desc := "(II)I" } : Jvm.MethodName) ∈ wq_TB := tb_3 131 rfl rfl
theorem tw_662 : Jvm.Cond.instanceMethod ({ cls := "WellPipes", name := "as", desc := "(II)I" } : Jvm.MethodName) ∈ wq_TB := tb_3 132 rfl rfl
theorem tw_663 : Jvm.Cond.selects "WellPipes" ({ cls := "WellPipes", name := "as", desc := "(II)I" } : Jvm.MethodName) ({ cls := "WellPipes", name := "as", desc := "(II)I" } : Jvm.MethodName) ∈ wq_TB := tb_3 133 rfl rfl
theorem tw_664 : Jvm.Cond.code ({ cls := "WellPipes", name := "as", desc := "(II)I" } : Jvm.MethodName) prog_1_method_31_code (4 : Nat) (Option.some Jvm.ClassFile.FieldType.int) ∈ wq_TB := tb_3 134 rfl rfl
theorem tw_665 : Jvm.Cond.fieldLink "WellPipes" (273 : Nat) "WellPipes" "WIDER_KIND" "[I" ∈ wq_TB := tb_3 135 rfl rfl
theorem tw_667 : Jvm.Cond.methodLink "WellPipesLaw" (140 : Nat) ({ cls := "WellPipes", name := "ask", desc := "(II)I" } : Jvm.MethodName) ∈ wq_TB := tb_3 137 rfl rfl
theorem tw_668 : Jvm.Cond.instanceMethod ({ cls := "WellPipes", name := "ask", desc := "(II)I" } : Jvm.MethodName) ∈ wq_TB := tb_3 138 rfl rfl
theorem tw_669 : Jvm.Cond.selects "WellPipes" ({ cls := "WellPipes", name := "ask", desc := "(II)I" } : Jvm.MethodName) ({ cls := "WellPipes", name := "ask", desc := "(II)I" } : Jvm.MethodName) ∈ wq_TB := tb_3 139 rfl rfl
theorem tw_670 : Jvm.Cond.code ({ cls := "WellPipes", name := "ask", desc := "(II)I" } : Jvm.MethodName) prog_1_method_32_code (3 : Nat) (Option.some Jvm.ClassFile.FieldType.int) ∈ wq_TB := tb_3 140 rfl rfl
theorem tw_671 : Jvm.Cond.methodLink "WellPipes" (276 : Nat) ({ cls := "WellPipes$Asks", name := "answer", desc := "(LWellPipes$Well;II)I" } : Jvm.MethodName) ∈ wq_TB := tb_3 141 rfl rfl
theorem tw_672 : Jvm.Cond.instanceMethod ({ cls := "WellPipes$Asks", name := "answer", desc := "(LWellPipes$Well;II)I" } : Jvm.MethodName) ∈ wq_TB := tb_3 142 rfl rfl
theorem tw_673 : Jvm.Cond.selects "WellPipes$Asks" ({ cls := "WellPipes$Asks", name := "answer", desc := "(LWellPipes$Well;II)I" } : Jvm.MethodName) ({ cls := "WellPipes$Asks", name := "answer", desc := "(LWellPipes$Well;II)I" } : Jvm.MethodName) ∈ wq_TB := tb_3 143 rfl rfl
theorem tw_674 : Jvm.Cond.code ({ cls := "WellPipes$Asks", name := "answer", desc := "(LWellPipes$Well;II)I" } : Jvm.MethodName) prog_3_method_2_code (4 : Nat) (Option.some Jvm.ClassFile.FieldType.int) ∈ wq_TB := tb_3 144 rfl rfl
theorem tw_675 : Jvm.Cond.methodLink "WellPipes$Asks" (26 : Nat) ({ cls := "WellPipes$Asks", name := "bodyFor", desc := "(I)I" } : Jvm.MethodName) ∈ wq_TB := tb_3 145 rfl rfl
theorem tw_677 : Jvm.Cond.instanceMethod ({ cls := "WellPipes$Asks", name := "bodyFor", desc := "(I)I" } : Jvm.MethodName) ∈ wq_TB := tb_3 147 rfl rfl
theorem tw_678 : Jvm.Cond.code ({ cls := "WellPipes$Asks", name := "bodyFor", desc := "(I)I" } : Jvm.MethodName) prog_3_method_3_code (3 : Nat) (Option.some Jvm.ClassFile.FieldType.int) ∈ wq_TB := tb_3 148 rfl rfl
theorem tw_679 : Jvm.Cond.fieldLink "WellPipes$Asks" (39 : Nat) "WellPipes$Asks" "SIZE_BODIES" "[I" ∈ wq_TB := tb_3 149 rfl rfl
theorem tw_681 : Jvm.Cond.fieldLink "WellPipes$Asks" (42 : Nat) "WellPipes$Asks" "MARK_BODIES" "[I" ∈ wq_TB := tb_3 151 rfl rfl
theorem tw_683 : Jvm.Cond.methodLink "WellPipes$Asks" (30 : Nat) ({ cls := "WellPipes$Asks", name := "begin", desc := "(II)I" } : Jvm.MethodName) ∈ wq_TB := tb_3 153 rfl rfl
theorem tw_685 : Jvm.Cond.instanceMethod ({ cls := "WellPipes$Asks", name := "begin", desc := "(II)I" } : Jvm.MethodName) ∈ wq_TB := tb_3 155 rfl rfl
theorem tw_686 : Jvm.Cond.code ({ cls := "WellPipes$Asks", name := "begin", desc := "(II)I" } : Jvm.MethodName) prog_3_method_4_code (4 : Nat) (Option.some Jvm.ClassFile.FieldType.int) ∈ wq_TB := tb_3 156 rfl rfl
theorem tw_687 : Jvm.Cond.methodLink "WellPipes$Asks" (45 : Nat) ({ cls := "WellPipes$Well", name := "figure", desc := "(II)I" } : Jvm.MethodName) ∈ wq_TB := tb_3 157 rfl rfl
theorem tw_688 : Jvm.Cond.methodLink "WellPipesLaw" (144 : Nat) ({ cls := "WellPipes", name := "trace", desc := "(I)I" } : Jvm.MethodName) ∈ wq_TB := tb_3 158 rfl rfl
theorem tw_689 : Jvm.Cond.instanceMethod ({ cls := "WellPipes", name := "trace", desc := "(I)I" } : Jvm.MethodName) ∈ wq_TB := tb_3 159 rfl rfl
theorem tw_690 : Jvm.Cond.selects "WellPipes" ({ cls := "WellPipes", name := "trace", desc := "(I)I" } : Jvm.MethodName) ({ cls := "WellPipes", name := "trace", desc := "(I)I" } : Jvm.MethodName) ∈ wq_TB := tb_3 160 rfl rfl
theorem tw_691 : Jvm.Cond.code ({ cls := "WellPipes", name := "trace", desc := "(I)I" } : Jvm.MethodName) prog_1_method_33_code (2 : Nat) (Option.some Jvm.ClassFile.FieldType.int) ∈ wq_TB := tb_3 161 rfl rfl
theorem tw_692 : Jvm.Cond.methodLink "WellPipesLaw" (148 : Nat) ({ cls := "WellPipes", name := "count", desc := "(I)I" } : Jvm.MethodName) ∈ wq_TB := tb_3 162 rfl rfl
theorem tw_693 : Jvm.Cond.instanceMethod ({ cls := "WellPipes", name := "count", desc := "(I)I" } : Jvm.MethodName) ∈ wq_TB := tb_3 163 rfl rfl
theorem tw_694 : Jvm.Cond.selects "WellPipes" ({ cls := "WellPipes", name := "count", desc := "(I)I" } : Jvm.MethodName) ({ cls := "WellPipes", name := "count", desc := "(I)I" } : Jvm.MethodName) ∈ wq_TB := tb_3 164 rfl rfl
theorem tw_695 : Jvm.Cond.code ({ cls := "WellPipes", name := "count", desc := "(I)I" } : Jvm.MethodName) prog_1_method_34_code (2 : Nat) (Option.some Jvm.ClassFile.FieldType.int) ∈ wq_TB := tb_3 165 rfl rfl
theorem tw_696 : Jvm.Cond.methodLink "WellPipes" (286 : Nat) ({ cls := "WellPipes", name := "howManyRows", desc := "()I" } : Jvm.MethodName) ∈ wq_TB := tb_3 166 rfl rfl
theorem tw_698 : Jvm.Cond.instanceMethod ({ cls := "WellPipes", name := "howManyRows", desc := "()I" } : Jvm.MethodName) ∈ wq_TB := tb_3 168 rfl rfl
theorem tw_699 : Jvm.Cond.code ({ cls := "WellPipes", name := "howManyRows", desc := "()I" } : Jvm.MethodName) prog_1_method_42_code (3 : Nat) (Option.some Jvm.ClassFile.FieldType.int) ∈ wq_TB := tb_3 169 rfl rfl
theorem tw_700 : Jvm.Cond.methodLink "WellPipes" (289 : Nat) ({ cls := "WellPipes$Well", name := "howManyLaid", desc := "()I" } : Jvm.MethodName) ∈ wq_TB := tb_3 170 rfl rfl
theorem tw_701 : Jvm.Cond.instanceMethod ({ cls := "WellPipes$Well", name := "howManyLaid", desc := "()I" } : Jvm.MethodName) ∈ wq_TB := tb_3 171 rfl rfl
theorem tw_702 : Jvm.Cond.selects "WellPipes$Well" ({ cls := "WellPipes$Well", name := "howManyLaid", desc := "()I" } : Jvm.MethodName) ({ cls := "WellPipes$Well", name := "howManyLaid", desc := "()I" } : Jvm.MethodName) ∈ wq_TB := tb_3 172 rfl rfl
theorem tw_703 : Jvm.Cond.code ({ cls := "WellPipes$Well", name := "howManyLaid", desc := "()I" } : Jvm.MethodName) prog_7_method_7_code (3 : Nat) (Option.some Jvm.ClassFile.FieldType.int) ∈ wq_TB := tb_3 173 rfl rfl
theorem tw_704 : Jvm.Cond.methodLink "WellPipes" (292 : Nat) ({ cls := "WellPipes$Well", name := "howManySections", desc := "()I" } : Jvm.MethodName) ∈ wq_TB := tb_3 174 rfl rfl
theorem tw_705 : Jvm.Cond.instanceMethod ({ cls := "WellPipes$Well", name := "howManySections", desc := "()I" } : Jvm.MethodName) ∈ wq_TB := tb_3 175 rfl rfl
theorem tw_706 : Jvm.Cond.selects "WellPipes$Well" ({ cls := "WellPipes$Well", name := "howManySections", desc := "()I" } : Jvm.MethodName) ({ cls := "WellPipes$Well", name := "howManySections", desc := "()I" } : Jvm.MethodName) ∈ wq_TB := tb_3 176 rfl rfl
theorem tw_707 : Jvm.Cond.code ({ cls := "WellPipes$Well", name := "howManySections", desc := "()I" } : Jvm.MethodName) prog_7_method_22_code (3 : Nat) (Option.some Jvm.ClassFile.FieldType.int) ∈ wq_TB := tb_3 177 rfl rfl
theorem tw_708 : Jvm.Cond.methodLink "WellPipesLaw" (152 : Nat) ({ cls := "WellPipes", name := "status", desc := "()I" } : Jvm.MethodName) ∈ wq_TB := tb_3 178 rfl rfl
theorem tw_709 : Jvm.Cond.instanceMethod ({ cls := "WellPipes", name := "status", desc := "()I" } : Jvm.MethodName) ∈ wq_TB := tb_3 179 rfl rfl
theorem tw_710 : Jvm.Cond.selects "WellPipes" ({ cls := "WellPipes", name := "status", desc := "()I" } : Jvm.MethodName) ({ cls := "WellPipes", name := "status", desc := "()I" } : Jvm.MethodName) ∈ wq_TB := tb_3 180 rfl rfl
theorem tw_711 : Jvm.Cond.code ({ cls := "WellPipes", name := "status", desc := "()I" } : Jvm.MethodName) prog_1_method_35_code (1 : Nat) (Option.some Jvm.ClassFile.FieldType.int) ∈ wq_TB := tb_3 181 rfl rfl
theorem tw_714 : Jvm.Cond.methodLink "WellPipesLaw" (12 : Nat) ({ cls := "WellPipesModel", name := "<init>", desc := "()V" } : Jvm.MethodName) ∈ wq_TB := tb_3 184 rfl rfl
theorem tw_715 : Jvm.Cond.instanceMethod ({ cls := "WellPipesModel", name := "<init>", desc := "()V" } : Jvm.MethodName) ∈ wq_TB := tb_3 185 rfl rfl
theorem tw_716 : Jvm.Cond.code ({ cls := "WellPipesModel", name := "<init>", desc := "()V" } : Jvm.MethodName) prog_9_method_1_code (1 : Nat) (Option.none : Option Jvm.ClassFile.FieldType) ∈ wq_TB := tb_3 186 rfl rfl
theorem tw_717 : Jvm.Cond.methodLink "WellPipesModel" (1 : Nat) ({ cls := "java/lang/Object", name := "<init>", desc := "()V" } : Jvm.MethodName) ∈ wq_TB := tb_3 187 rfl rfl
theorem tw_718 : Jvm.Cond.fieldLink "WellPipesModel" (53 : Nat) "WellPipesModel" "thrown" "I" ∈ wq_TB := tb_3 188 rfl rfl
theorem tw_719 : Jvm.Cond.fieldLink "WellPipesModel" (57 : Nat) "WellPipesModel" "status" "I" ∈ wq_TB := tb_3 189 rfl rfl
theorem tw_720 : Jvm.Cond.fieldLink "WellPipesModel" (7 : Nat) "WellPipesModel" "lane" "[I" ∈ wq_TB := tb_3 190 rfl rfl
theorem tw_721 : Jvm.Cond.fieldLink "WellPipesModel" (13 : Nat) "WellPipesModel" "many" "[I" ∈ wq_TB := tb_3 191 rfl rfl
theorem tw_722 : Jvm.Cond.fieldLink "WellPipesModel" (16 : Nat) "WellPipesModel" "item" "[I" ∈ wq_TB := tb_3 192 rfl rfl
theorem tw_723 : Jvm.Cond.fieldLink "WellPipesModel" (19 : Nat) "WellPipesModel" "well" "[I" ∈ wq_TB := tb_3 193 rfl rfl
theorem tw_724 : Jvm.Cond.fieldLink "WellPipesModel" (22 : Nat) "WellPipesModel" "fresh" "[I" ∈ wq_TB := tb_3 194 rfl rfl
theorem tw_725 : Jvm.Cond.fieldLink "WellPipesModel" (25 : Nat) "WellPipesModel" "then" "[I" ∈ wq_TB := tb_3 195 rfl rfl
theorem tw_726 : Jvm.Cond.fieldLink "WellPipesModel" (28 : Nat) "WellPipesModel" "was" "[I" ∈ wq_TB := tb_3 196 rfl rfl
theorem tw_727 : Jvm.Cond.fieldLink "WellPipesModel" (152 : Nat) "WellPipesModel" "acts" "I" ∈ wq_TB := tb_3 197 rfl rfl
theorem tw_728 : Jvm.Cond.fieldLink "WellPipesModel" (31 : Nat) "WellPipesModel" "tape" "[I" ∈ wq_TB := tb_3 198 rfl rfl
theorem tw_729 : Jvm.Cond.fieldLink "WellPipesModel" (80 : Nat) "WellPipesModel" "taped" "I" ∈ wq_TB := tb_3 199 rfl rfl
theorem tw_730 : Jvm.Cond.fieldLink "WellPipesModel" (93 : Nat) "WellPipesModel" "cursor" "I" ∈ wq_TB := tb_3 200 rfl rfl
theorem tw_731 : Jvm.Cond.fieldLink "WellPipesModel" (87 : Nat) "WellPipesModel" "start" "I" ∈ wq_TB := tb_3 201 rfl rfl
theorem tw_732 : Jvm.Cond.fieldLink "WellPipesModel" (108 : Nat) "WellPipesModel" "token" "I" ∈ wq_TB := tb_3 202 rfl rfl
theorem tw_733 : Jvm.Cond.fieldLink "WellPipesModel" (97 : Nat) "WellPipesModel" "value" "I" ∈ wq_TB := tb_3 203 rfl rfl
theorem tw_734 : Jvm.Cond.fieldLink "WellPipesModel" (84 : Nat) "WellPipesModel" "fault" "I" ∈ wq_TB := tb_3 204 rfl rfl
theorem tw_735 : Jvm.Cond.fieldLink "WellPipesModel" (90 : Nat) "WellPipesModel" "faultAt" "I" ∈ wq_TB := tb_3 205 rfl rfl
theorem tw_736 : Jvm.Cond.fieldLink "WellPipesModel" (122 : Nat) "WellPipesModel" "latest" "I" ∈ wq_TB := tb_3 206 rfl rfl
theorem tw_737 : Jvm.Cond.fieldLink "WellPipesModel" (34 : Nat) "WellPipesModel" "table" "[I" ∈ wq_TB := tb_3 207 rfl rfl
theorem tw_738 : Jvm.Cond.fieldLink "WellPipesModel" (37 : Nat) "WellPipesModel" "string" "[I" ∈ wq_TB := tb_3 208 rfl rfl
theorem tw_739 : Jvm.Cond.fieldLink "WellPipesModel" (40 : Nat) "WellPipesModel" "worth" "[I" ∈ wq_TB := tb_3 209 rfl rfl
theorem tw_740 : Jvm.Cond.fieldLink "WellPipesModel" (43 : Nat) "WellPipesModel" "isKept" "[Z" ∈ wq_TB := tb_3 210 rfl rfl
theorem tw_741 : Jvm.Cond.fieldLink "WellPipesModel" (47 : Nat) "WellPipesModel" "kept" "[I" ∈ wq_TB := tb_3 211 rfl rfl
theorem tw_742 : Jvm.Cond.fieldLink "WellPipesModel" (50 : Nat) "WellPipesModel" "trace" "[I" ∈ wq_TB := tb_3 212 rfl rfl
theorem tw_743 : Jvm.Cond.fieldLink "WellPipesModel" (286 : Nat) "WellPipesModel" "traced" "I" ∈ wq_TB := tb_3 213 rfl rfl
theorem tw_798 : Jvm.Cond.methodLink "WellPipesLaw" (17 : Nat) ({ cls := "WellPipesModel", name := "row", desc := "(III)I" } : Jvm.MethodName) ∈ wq_TB := tb_4 28 rfl rfl
theorem tw_799 : Jvm.Cond.instanceMethod ({ cls := "WellPipesModel", name := "row", desc := "(III)I" } : Jvm.MethodName) ∈ wq_TB := tb_4 29 rfl rfl
theorem tw_800 : Jvm.Cond.selects "WellPipesModel" ({ cls := "WellPipesModel", name := "row", desc := "(III)I" } : Jvm.MethodName) ({ cls := "WellPipesModel", name := "row", desc := "(III)I" } : Jvm.MethodName) ∈ wq_TB := tb_4 30 rfl rfl
theorem tw_801 : Jvm.Cond.code ({ cls := "WellPipesModel", name := "row", desc := "(III)I" } : Jvm.MethodName) prog_9_method_6_code (5 : Nat) (Option.some Jvm.ClassFile.FieldType.int) ∈ wq_TB := tb_4 31 rfl rfl
theorem tw_802 : Jvm.Cond.methodLink "WellPipesModel" (67 : Nat) ({ cls := "WellPipesModel", name := "isRow", desc := "(I)Z" } : Jvm.MethodName) ∈ wq_TB := tb_4 32 rfl rfl
theorem tw_803 : Jvm.Cond.static ({ cls := "WellPipesModel", name := "isRow", desc := "(I)Z" } : Jvm.MethodName) ∈ wq_TB := tb_4 33 rfl rfl
theorem tw_804 : Jvm.Cond.code ({ cls := "WellPipesModel", name := "isRow", desc := "(I)Z" } : Jvm.MethodName) prog_9_method_5_code (1 : Nat) (Option.some Jvm.ClassFile.FieldType.boolean) ∈ wq_TB := tb_4 34 rfl rfl
theorem tw_805 : Jvm.Cond.constantLong "WellPipesModel" (61 : Nat) (7 : Int64) ∈ wq_TB := tb_4 35 rfl rfl
theorem tw_806 : Jvm.Cond.methodLink "WellPipesModel" (63 : Nat) ({ cls := "WellPipesModel", name := "in", desc := "(JJJ)Z" } : Jvm.MethodName) ∈ wq_TB := tb_4 36 rfl rfl
theorem tw_807 : Jvm.Cond.static ({ cls := "WellPipesModel", name := "in", desc := "(JJJ)Z" } : Jvm.MethodName) ∈ wq_TB := tb_4 37 rfl rfl
theorem tw_808 : Jvm.Cond.code ({ cls := "WellPipesModel", name := "in", desc := "(JJJ)Z" } : Jvm.MethodName) prog_9_method_3_code (6 : Nat) (Option.some Jvm.ClassFile.FieldType.boolean) ∈ wq_TB := tb_4 38 rfl rfl
theorem tw_809 : Jvm.Cond.constantLong "WellPipesModel" (71 : Nat) (2 : Int64) ∈ wq_TB := tb_4 39 rfl rfl
theorem tw_810 : Jvm.Cond.constant "WellPipesModel" (73 : Nat) (-1000001 : Int32) ∈ wq_TB := tb_4 40 rfl rfl
theorem tw_811 : Jvm.Cond.methodLink "WellPipesModel" (74 : Nat) ({ cls := "WellPipesModel", name := "finding", desc := "(I)I" } : Jvm.MethodName) ∈ wq_TB := tb_4 41 rfl rfl
theorem tw_813 : Jvm.Cond.instanceMethod ({ cls := "WellPipesModel", name := "finding", desc := "(I)I" } : Jvm.MethodName) ∈ wq_TB := tb_4 43 rfl rfl
theorem tw_814 : Jvm.Cond.code ({ cls := "WellPipesModel", name := "finding", desc := "(I)I" } : Jvm.MethodName) prog_9_method_4_code (2 : Nat) (Option.some Jvm.ClassFile.FieldType.int) ∈ wq_TB := tb_4 44 rfl rfl
theorem tw_815 : Jvm.Cond.constant "WellPipesModel" (60 : Nat) (-1000010 : Int32) ∈ wq_TB := tb_4 45 rfl rfl
theorem tw_816 : Jvm.Cond.methodLink "WellPipesLaw" (21 : Nat) ({ cls := "WellPipesModel", name := "set", desc := "(III)I" } : Jvm.MethodName) ∈ wq_TB := tb_4 46 rfl rfl
theorem tw_817 : Jvm.Cond.instanceMethod ({ cls := "WellPipesModel", name := "set", desc := "(III)I" } : Jvm.MethodName) ∈ wq_TB := tb_4 47 rfl rfl
theorem tw_818 : Jvm.Cond.selects "WellPipesModel" ({ cls := "WellPipesModel", name := "set", desc := "(III)I" } : Jvm.MethodName) ({ cls := "WellPipesModel", name := "set", desc := "(III)I" } : Jvm.MethodName) ∈ wq_TB := tb_4 48 rfl rfl
theorem tw_819 : Jvm.Cond.code ({ cls := "WellPipesModel", name := "set", desc := "(III)I" } : Jvm.MethodName) prog_9_method_7_code (4 : Nat) (Option.some Jvm.ClassFile.FieldType.int) ∈ wq_TB := tb_4 49 rfl rfl
theorem tw_820 : Jvm.Cond.methodLink "WellPipesLaw" (26 : Nat) ({ cls := "WellPipesModel", name := "copy", desc := "(IIIII)I" } : Jvm.MethodName) ∈ wq_TB := tb_4 50 rfl rfl
theorem tw_821 : Jvm.Cond.instanceMethod ({ cls := "WellPipesModel", name := "copy", desc := "(IIIII)I" } : Jvm.MethodName) ∈ wq_TB := tb_4 51 rfl rfl
theorem tw_822 : Jvm.Cond.selects "WellPipesModel" ({ cls := "WellPipesModel", name := "copy", desc := "(IIIII)I" } : Jvm.MethodName) ({ cls := "WellPipesModel", name := "copy", desc := "(IIIII)I" } : Jvm.MethodName) ∈ wq_TB := tb_4 52 rfl rfl
theorem tw_823 : Jvm.Cond.code ({ cls := "WellPipesModel", name := "copy", desc := "(IIIII)I" } : Jvm.MethodName) prog_9_method_8_code (9 : Nat) (Option.some Jvm.ClassFile.FieldType.int) ∈ wq_TB := tb_4 53 rfl rfl
theorem tw_824 : Jvm.Cond.methodLink "WellPipesLaw" (31 : Nat) ({ cls := "WellPipesModel", name := "drop", desc := "(I)I" } : Jvm.MethodName) ∈ wq_TB := tb_4 54 rfl rfl
theorem tw_825 : Jvm.Cond.instanceMethod ({ cls := "WellPipesModel", name := "drop", desc := "(I)I" } : Jvm.MethodName) ∈ wq_TB := tb_4 55 rfl rfl
theorem tw_826 : Jvm.Cond.selects "WellPipesModel" ({ cls := "WellPipesModel", name := "drop", desc := "(I)I" } : Jvm.MethodName) ({ cls := "WellPipesModel", name := "drop", desc := "(I)I" } : Jvm.MethodName) ∈ wq_TB := tb_4 56 rfl rfl
theorem tw_827 : Jvm.Cond.code ({ cls := "WellPipesModel", name := "drop", desc := "(I)I" } : Jvm.MethodName) prog_9_method_9_code (2 : Nat) (Option.some Jvm.ClassFile.FieldType.int) ∈ wq_TB := tb_4 57 rfl rfl
theorem tw_828 : Jvm.Cond.methodLink "WellPipesLaw" (35 : Nat) ({ cls := "WellPipesModel", name := "feed", desc := "(I)I" } : Jvm.MethodName) ∈ wq_TB := tb_4 58 rfl rfl
theorem tw_829 : Jvm.Cond.instanceMethod ({ cls := "WellPipesModel", name := "feed", desc := "(I)I" } : Jvm.MethodName) ∈ wq_TB := tb_4 59 rfl rfl
theorem tw_830 : Jvm.Cond.selects "WellPipesModel" ({ cls := "WellPipesModel", name := "feed", desc := "(I)I" } : Jvm.MethodName) ({ cls := "WellPipesModel", name := "feed", desc := "(I)I" } : Jvm.MethodName) ∈ wq_TB := tb_4 60 rfl rfl
theorem tw_831 : Jvm.Cond.code ({ cls := "WellPipesModel", name := "feed", desc := "(I)I" } : Jvm.MethodName) prog_9_method_10_code (2 : Nat) (Option.some Jvm.ClassFile.FieldType.int) ∈ wq_TB := tb_4 61 rfl rfl
theorem tw_832 : Jvm.Cond.constantLong "WellPipesModel" (78 : Nat) (255 : Int64) ∈ wq_TB := tb_4 62 rfl rfl
theorem tw_833 : Jvm.Cond.constant "WellPipesModel" (83 : Nat) (-1000003 : Int32) ∈ wq_TB := tb_4 63 rfl rfl
theorem tw_834 : Jvm.Cond.methodLink "WellPipesLaw" (44 : Nat) ({ cls := "WellPipesModel", name := "fault", desc := "()I" } : Jvm.MethodName) ∈ wq_TB := tb_4 64 rfl rfl
theorem tw_835 : Jvm.Cond.instanceMethod ({ cls := "WellPipesModel", name := "fault", desc := "()I" } : Jvm.MethodName) ∈ wq_TB := tb_4 65 rfl rfl
theorem tw_836 : Jvm.Cond.selects "WellPipesModel" ({ cls := "WellPipesModel", name := "fault", desc := "()I" } : Jvm.MethodName) ({ cls := "WellPipesModel", name := "fault", desc := "()I" } : Jvm.MethodName) ∈ wq_TB := tb_4 66 rfl rfl
theorem tw_837 : Jvm.Cond.code ({ cls := "WellPipesModel", name := "fault", desc := "()I" } : Jvm.MethodName) prog_9_method_19_code (1 : Nat) (Option.some Jvm.ClassFile.FieldType.int) ∈ wq_TB := tb_4 67 rfl rfl
theorem tw_838 : Jvm.Cond.methodLink "WellPipesLaw" (40 : Nat) ({ cls := "WellPipesModel", name := "well", desc := "()I" } : Jvm.MethodName) ∈ wq_TB := tb_4 68 rfl rfl
theorem tw_839 : Jvm.Cond.instanceMethod ({ cls := "WellPipesModel", name := "well", desc := "()I" } : Jvm.MethodName) ∈ wq_TB := tb_4 69 rfl rfl
theorem tw_840 : Jvm.Cond.selects "WellPipesModel" ({ cls := "WellPipesModel", name := "well", desc := "()I" } : Jvm.MethodName) ({ cls := "WellPipesModel", name := "well", desc := "()I" } : Jvm.MethodName) ∈ wq_TB := tb_4 70 rfl rfl
theorem tw_841 : Jvm.Cond.code ({ cls := "WellPipesModel", name := "well", desc := "()I" } : Jvm.MethodName) prog_9_method_23_code (2 : Nat) (Option.some Jvm.ClassFile.FieldType.int) ∈ wq_TB := tb_4 71 rfl rfl
theorem tw_842 : Jvm.Cond.methodLink "WellPipesModel" (135 : Nat) ({ cls := "WellPipesModel", name := "begin", desc := "()V" } : Jvm.MethodName) ∈ wq_TB := tb_4 72 rfl rfl
theorem tw_844 : Jvm.Cond.instanceMethod ({ cls := "WellPipesModel", name := "begin", desc := "()V" } : Jvm.MethodName) ∈ wq_TB := tb_4 74 rfl rfl
theorem tw_845 : Jvm.Cond.code ({ cls := "WellPipesModel", name := "begin", desc := "()V" } : Jvm.MethodName) prog_9_method_17_code (1 : Nat) (Option.none : Option Jvm.ClassFile.FieldType) ∈ wq_TB := tb_4 75 rfl rfl
theorem tw_846 : Jvm.Cond.methodLink "WellPipesModel" (115 : Nat) ({ cls := "WellPipesModel", name := "nextToken", desc := "()V" } : Jvm.MethodName) ∈ wq_TB := tb_4 76 rfl rfl
theorem tw_848 : Jvm.Cond.instanceMethod ({ cls := "WellPipesModel", name := "nextToken", desc := "()V" } : Jvm.MethodName) ∈ wq_TB := tb_4 78 rfl rfl
theorem tw_849 : Jvm.Cond.code ({ cls := "WellPipesModel", name := "nextToken", desc := "()V" } : Jvm.MethodName) prog_9_method_12_code (1 : Nat) (Option.none : Option Jvm.ClassFile.FieldType) ∈ wq_TB := tb_4 79 rfl rfl
theorem tw_850 : Jvm.Cond.constant "WellPipesModel" (96 : Nat) (-1000000 : Int32) ∈ wq_TB := tb_4 80 rfl rfl
theorem tw_851 : Jvm.Cond.constantLong "WellPipesModel" (100 : Nat) (97 : Int64) ∈ wq_TB := tb_4 81 rfl rfl
theorem tw_852 : Jvm.Cond.constantLong "WellPipesModel" (102 : Nat) (122 : Int64) ∈ wq_TB := tb_4 82 rfl rfl
theorem tw_853 : Jvm.Cond.constantLong "WellPipesModel" (104 : Nat) (48 : Int64) ∈ wq_TB := tb_4 83 rfl rfl
theorem tw_854 : Jvm.Cond.constantLong "WellPipesModel" (106 : Nat) (57 : Int64) ∈ wq_TB := tb_4 84 rfl rfl
theorem tw_855 : Jvm.Cond.methodLink "WellPipesModel" (138 : Nat) ({ cls := "WellPipesModel", name := "isLetter", desc := "(I)Z" } : Jvm.MethodName) ∈ wq_TB := tb_4 85 rfl rfl
theorem tw_857 : Jvm.Cond.instanceMethod ({ cls := "WellPipesModel", name := "isLetter", desc := "(I)Z" } : Jvm.MethodName) ∈ wq_TB := tb_4 87 rfl rfl
theorem tw_858 : Jvm.Cond.code ({ cls := "WellPipesModel", name := "isLetter", desc := "(I)Z" } : Jvm.MethodName) prog_9_method_14_code (2 : Nat) (Option.some Jvm.ClassFile.FieldType.boolean) ∈ wq_TB := tb_4 88 rfl rfl
theorem tw_859 : Jvm.Cond.methodLink "WellPipesModel" (118 : Nat) ({ cls := "WellPipesModel", name := "must", desc := "(Z)V" } : Jvm.MethodName) ∈ wq_TB := tb_4 89 rfl rfl
theorem tw_861 : Jvm.Cond.instanceMethod ({ cls := "WellPipesModel", name := "must", desc := "(Z)V" } : Jvm.MethodName) ∈ wq_TB := tb_4 91 rfl rfl
theorem tw_862 : Jvm.Cond.code ({ cls := "WellPipesModel", name := "must", desc := "(Z)V" } : Jvm.MethodName) prog_9_method_13_code (2 : Nat) (Option.none : Option Jvm.ClassFile.FieldType) ∈ wq_TB := tb_4 92 rfl rfl
theorem tw_863 : Jvm.Cond.methodLink "WellPipesModel" (111 : Nat) ({ cls := "WellPipesModel", name := "bad", desc := "(I)V" } : Jvm.MethodName) ∈ wq_TB := tb_4 93 rfl rfl
theorem tw_865 : Jvm.Cond.instanceMethod ({ cls := "WellPipesModel", name := "bad", desc := "(I)V" } : Jvm.MethodName) ∈ wq_TB := tb_4 95 rfl rfl
theorem tw_866 : Jvm.Cond.code ({ cls := "WellPipesModel", name := "bad", desc := "(I)V" } : Jvm.MethodName) prog_9_method_11_code (2 : Nat) (Option.none : Option Jvm.ClassFile.FieldType) ∈ wq_TB := tb_4 96 rfl rfl
theorem tw_867 : Jvm.Cond.methodLink "WellPipesModel" (128 : Nat) ({ cls := "WellPipesModel", name := "number", desc := "(II)I" } : Jvm.MethodName) ∈ wq_TB := tb_4 97 rfl rfl
theorem tw_869 : Jvm.Cond.instanceMethod ({ cls := "WellPipesModel", name := "number", desc := "(II)I" } : Jvm.MethodName) ∈ wq_TB := tb_4 99 rfl rfl
theorem tw_870 : Jvm.Cond.code ({ cls := "WellPipesModel", name := "number", desc := "(II)I" } : Jvm.MethodName) prog_9_method_15_code (4 : Nat) (Option.some Jvm.ClassFile.FieldType.int) ∈ wq_TB := tb_4 100 rfl rfl
theorem tw_871 : Jvm.Cond.methodLink "WellPipesModel" (132 : Nat) ({ cls := "WellPipesModel", name := "mustSign", desc := "(I)V" } : Jvm.MethodName) ∈ wq_TB := tb_4 101 rfl rfl
theorem tw_873 : Jvm.Cond.instanceMethod ({ cls := "WellPipesModel", name := "mustSign", desc := "(I)V" } : Jvm.MethodName) ∈ wq_TB := tb_4 103 rfl rfl
theorem tw_874 : Jvm.Cond.code ({ cls := "WellPipesModel", name := "mustSign", desc := "(I)V" } : Jvm.MethodName) prog_9_method_16_code (2 : Nat) (Option.none : Option Jvm.ClassFile.FieldType) ∈ wq_TB := tb_4 104 rfl rfl
theorem tw_875 : Jvm.Cond.methodLink "WellPipesModel" (141 : Nat) ({ cls := "WellPipesModel", name := "isSort", desc := "()Z" } : Jvm.MethodName) ∈ wq_TB := tb_4 105 rfl rfl
theorem tw_877 : Jvm.Cond.instanceMethod ({ cls := "WellPipesModel", name := "isSort", desc := "()Z" } : Jvm.MethodName) ∈ wq_TB := tb_4 107 rfl rfl
theorem tw_878 : Jvm.Cond.code ({ cls := "WellPipesModel", name := "isSort", desc := "()Z" } : Jvm.MethodName) prog_9_method_21_code (1 : Nat) (Option.some Jvm.ClassFile.FieldType.boolean) ∈ wq_TB := tb_4 108 rfl rfl
theorem tw_879 : Jvm.Cond.methodLink "WellPipesModel" (125 : Nat) ({ cls := "WellPipesModel", name := "kindBy", desc := "(I)I" } : Jvm.MethodName) ∈ wq_TB := tb_4 109 rfl rfl
theorem tw_880 : Jvm.Cond.static ({ cls := "WellPipesModel", name := "kindBy", desc := "(I)I" } : Jvm.MethodName) ∈ wq_TB := tb_4 110 rfl rfl
theorem tw_881 : Jvm.Cond.code ({ cls := "WellPipesModel", name := "kindBy", desc := "(I)I" } : Jvm.MethodName) prog_9_method_20_code (1 : Nat) (Option.some Jvm.ClassFile.FieldType.int) ∈ wq_TB := tb_4 111 rfl rfl
theorem tw_882 : Jvm.Cond.methodLink "WellPipesModel" (145 : Nat) ({ cls := "WellPipesModel", name := "readGrade", desc := "()V" } : Jvm.MethodName) ∈ wq_TB := tb_4 112 rfl rfl
theorem tw_884 : Jvm.Cond.instanceMethod ({ cls := "WellPipesModel", name := "readGrade", desc := "()V" } : Jvm.MethodName) ∈ wq_TB := tb_4 114 rfl rfl
theorem tw_885 : Jvm.Cond.code ({ cls := "WellPipesModel", name := "readGrade", desc := "()V" } : Jvm.MethodName) prog_9_method_22_code (8 : Nat) (Option.none : Option Jvm.ClassFile.FieldType) ∈ wq_TB := tb_4 115 rfl rfl
theorem tw_886 : Jvm.Cond.methodLink "WellPipesModel" (148 : Nat) ({ cls := "WellPipesModel", name := "failed", desc := "()Z" } : Jvm.MethodName) ∈ wq_TB := tb_4 116 rfl rfl
theorem tw_888 : Jvm.Cond.instanceMethod ({ cls := "WellPipesModel", name := "failed", desc := "()Z" } : Jvm.MethodName) ∈ wq_TB := tb_4 118 rfl rfl
theorem tw_889 : Jvm.Cond.code ({ cls := "WellPipesModel", name := "failed", desc := "()Z" } : Jvm.MethodName) prog_9_method_18_code (1 : Nat) (Option.some Jvm.ClassFile.FieldType.boolean) ∈ wq_TB := tb_4 119 rfl rfl
theorem tw_890 : Jvm.Cond.constant "WellPipesModel" (151 : Nat) (-1000100 : Int32) ∈ wq_TB := tb_4 120 rfl rfl
theorem tw_891 : Jvm.Cond.methodLink "WellPipesLaw" (53 : Nat) ({ cls := "WellPipesModel", name := "lay", desc := "(II)I" } : Jvm.MethodName) ∈ wq_TB := tb_4 121 rfl rfl
theorem tw_892 : Jvm.Cond.instanceMethod ({ cls := "WellPipesModel", name := "lay", desc := "(II)I" } : Jvm.MethodName) ∈ wq_TB := tb_4 122 rfl rfl
theorem tw_893 : Jvm.Cond.selects "WellPipesModel" ({ cls := "WellPipesModel", name := "lay", desc := "(II)I" } : Jvm.MethodName) ({ cls := "WellPipesModel", name := "lay", desc := "(II)I" } : Jvm.MethodName) ∈ wq_TB := tb_4 123 rfl rfl
theorem tw_894 : Jvm.Cond.code ({ cls := "WellPipesModel", name := "lay", desc := "(II)I" } : Jvm.MethodName) prog_9_method_48_code (4 : Nat) (Option.some Jvm.ClassFile.FieldType.int) ∈ wq_TB := tb_4 124 rfl rfl
theorem tw_895 : Jvm.Cond.methodLink "WellPipesModel" (201 : Nat) ({ cls := "WellPipesModel", name := "isStep", desc := "(I)Z" } : Jvm.MethodName) ∈ wq_TB := tb_4 125 rfl rfl
theorem tw_897 : Jvm.Cond.instanceMethod ({ cls := "WellPipesModel", name := "isStep", desc := "(I)Z" } : Jvm.MethodName) ∈ wq_TB := tb_4 127 rfl rfl
theorem tw_898 : Jvm.Cond.code ({ cls := "WellPipesModel", name := "isStep", desc := "(I)Z" } : Jvm.MethodName) prog_9_method_25_code (2 : Nat) (Option.some Jvm.ClassFile.FieldType.boolean) ∈ wq_TB := tb_4 128 rfl rfl
theorem tw_899 : Jvm.Cond.methodLink "WellPipesModel" (204 : Nat) ({ cls := "WellPipesModel", name := "isGrade", desc := "(I)Z" } : Jvm.MethodName) ∈ wq_TB := tb_4 129 rfl rfl
theorem tw_901 : Jvm.Cond.instanceMethod ({ cls := "WellPipesModel", name := "isGrade", desc := "(I)Z" } : Jvm.MethodName) ∈ wq_TB := tb_4 131 rfl rfl
theorem tw_902 : Jvm.Cond.code ({ cls := "WellPipesModel", name := "isGrade", desc := "(I)Z" } : Jvm.MethodName) prog_9_method_26_code (2 : Nat) (Option.some Jvm.ClassFile.FieldType.boolean) ∈ wq_TB := tb_4 132 rfl rfl
theorem tw_903 : Jvm.Cond.constant "WellPipesModel" (207 : Nat) (-1000002 : Int32) ∈ wq_TB := tb_4 133 rfl rfl
theorem tw_904 : Jvm.Cond.methodLink "WellPipesModel" (208 : Nat) ({ cls := "WellPipesModel", name := "keep", desc := "()V" } : Jvm.MethodName) ∈ wq_TB := tb_4 134 rfl rfl
theorem tw_906 : Jvm.Cond.instanceMethod ({ cls := "WellPipesModel", name := "keep", desc := "()V" } : Jvm.MethodName) ∈ wq_TB := tb_4 136 rfl rfl
theorem tw_907 : Jvm.Cond.code ({ cls := "WellPipesModel", name := "keep", desc := "()V" } : Jvm.MethodName) prog_9_method_47_code (2 : Nat) (Option.none : Option Jvm.ClassFile.FieldType) ∈ wq_TB := tb_4 137 rfl rfl
theorem tw_908 : Jvm.Cond.methodLink "WellPipesLaw" (57 : Nat) ({ cls := "WellPipesModel", name := "layBest", desc := "()I" } : Jvm.MethodName) ∈ wq_TB := tb_4 138 rfl rfl
theorem tw_909 : Jvm.Cond.instanceMethod ({ cls := "WellPipesModel", name := "layBest", desc := "()I" } : Jvm.MethodName) ∈ wq_TB := tb_4 139 rfl rfl
theorem tw_910 : Jvm.Cond.selects "WellPipesModel" ({ cls := "WellPipesModel", name := "layBest", desc := "()I" } : Jvm.MethodName) ({ cls := "WellPipesModel", name := "layBest", desc := "()I" } : Jvm.MethodName) ∈ wq_TB := tb_4 140 rfl rfl
theorem tw_911 : Jvm.Cond.code ({ cls := "WellPipesModel", name := "layBest", desc := "()I" } : Jvm.MethodName) prog_9_method_49_code (2 : Nat) (Option.some Jvm.ClassFile.FieldType.int) ∈ wq_TB := tb_4 141 rfl rfl
theorem tw_912 : Jvm.Cond.methodLink "WellPipesModel" (211 : Nat) ({ cls := "WellPipesModel", name := "isThere", desc := "()Z" } : Jvm.MethodName) ∈ wq_TB := tb_4 142 rfl rfl
theorem tw_914 : Jvm.Cond.instanceMethod ({ cls := "WellPipesModel", name := "isThere", desc := "()Z" } : Jvm.MethodName) ∈ wq_TB := tb_4 144 rfl rfl
theorem tw_915 : Jvm.Cond.code ({ cls := "WellPipesModel", name := "isThere", desc := "()Z" } : Jvm.MethodName) prog_9_method_24_code (1 : Nat) (Option.some Jvm.ClassFile.FieldType.boolean) ∈ wq_TB := tb_4 145 rfl rfl
theorem tw_916 : Jvm.Cond.methodLink "WellPipesModel" (214 : Nat) ({ cls := "WellPipesModel", name := "laysBest", desc := "([II)I" } : Jvm.MethodName) ∈ wq_TB := tb_4 146 rfl rfl
theorem tw_918 : Jvm.Cond.instanceMethod ({ cls := "WellPipesModel", name := "laysBest", desc := "([II)I" } : Jvm.MethodName) ∈ wq_TB := tb_4 148 rfl rfl
theorem tw_919 : Jvm.Cond.code ({ cls := "WellPipesModel", name := "laysBest", desc := "([II)I" } : Jvm.MethodName) prog_9_method_46_code (11 : Nat) (Option.some Jvm.ClassFile.FieldType.int) ∈ wq_TB := tb_4 149 rfl rfl
theorem tw_920 : Jvm.Cond.methodLink "WellPipesModel" (190 : Nat) ({ cls := "WellPipesModel", name := "at", desc := "(IIII)I" } : Jvm.MethodName) ∈ wq_TB := tb_4 150 rfl rfl
theorem tw_921 : Jvm.Cond.static ({ cls := "WellPipesModel", name := "at", desc := "(IIII)I" } : Jvm.MethodName) ∈ wq_TB := tb_4 151 rfl rfl
theorem tw_922 : Jvm.Cond.code ({ cls := "WellPipesModel", name := "at", desc := "(IIII)I" } : Jvm.MethodName) prog_9_method_43_code (4 : Nat) (Option.some Jvm.ClassFile.FieldType.int) ∈ wq_TB := tb_4 152 rfl rfl
theorem tw_923 : Jvm.Cond.methodLink "WellPipesModel" (198 : Nat) ({ cls := "WellPipesModel", name := "leastAt", desc := "([IIIIII)I" } : Jvm.MethodName) ∈ wq_TB := tb_4 153 rfl rfl
theorem tw_925 : Jvm.Cond.instanceMethod ({ cls := "WellPipesModel", name := "leastAt", desc := "([IIIIII)I" } : Jvm.MethodName) ∈ wq_TB := tb_4 155 rfl rfl
theorem tw_926 : Jvm.Cond.code ({ cls := "WellPipesModel", name := "leastAt", desc := "([IIIIII)I" } : Jvm.MethodName) prog_9_method_45_code (10 : Nat) (Option.some Jvm.ClassFile.FieldType.int) ∈ wq_TB := tb_4 156 rfl rfl
theorem tw_927 : Jvm.Cond.constant "WellPipesModel" (189 : Nat) (1000000000 : Int32) ∈ wq_TB := tb_4 157 rfl rfl
theorem tw_928 : Jvm.Cond.methodLink "WellPipesModel" (194 : Nat) ({ cls := "WellPipesModel", name := "through", desc := "([IIIIII)I" } : Jvm.MethodName) ∈ wq_TB := tb_4 158 rfl rfl
theorem tw_930 : Jvm.Cond.instanceMethod ({ cls := "WellPipesModel", name := "through", desc := "([IIIIII)I" } : Jvm.MethodName) ∈ wq_TB := tb_4 160 rfl rfl
theorem tw_931 : Jvm.Cond.code ({ cls := "WellPipesModel", name := "through", desc := "([IIIIII)I" } : Jvm.MethodName) prog_9_method_44_code (11 : Nat) (Option.some Jvm.ClassFile.FieldType.int) ∈ wq_TB := tb_4 161 rfl rfl
theorem tw_932 : Jvm.Cond.methodLink "WellPipesModel" (155 : Nat) ({ cls := "WellPipesModel", name := "of", desc := "([III)I" } : Jvm.MethodName) ∈ wq_TB := tb_4 162 rfl rfl
theorem tw_933 : Jvm.Cond.static ({ cls := "WellPipesModel", name := "of", desc := "([III)I" } : Jvm.MethodName) ∈ wq_TB := tb_4 163 rfl rfl
theorem tw_934 : Jvm.Cond.code ({ cls := "WellPipesModel", name := "of", desc := "([III)I" } : Jvm.MethodName) prog_9_method_28_code (3 : Nat) (Option.some Jvm.ClassFile.FieldType.int) ∈ wq_TB := tb_4 164 rfl rfl
theorem tw_935 : Jvm.Cond.methodLink "WellPipesModel" (178 : Nat) ({ cls := "WellPipesModel", name := "wouldHold", desc := "([IIII)Z" } : Jvm.MethodName) ∈ wq_TB := tb_4 165 rfl rfl
theorem tw_936 : Jvm.Cond.static ({ cls := "WellPipesModel", name := "wouldHold", desc := "([IIII)Z" } : Jvm.MethodName) ∈ wq_TB := tb_4 166 rfl rfl
theorem tw_937 : Jvm.Cond.code ({ cls := "WellPipesModel", name := "wouldHold", desc := "([IIII)Z" } : Jvm.MethodName) prog_9_method_35_code (4 : Nat) (Option.some Jvm.ClassFile.FieldType.boolean) ∈ wq_TB := tb_4 167 rfl rfl
theorem tw_938 : Jvm.Cond.methodLink "WellPipesModel" (163 : Nat) ({ cls := "WellPipesModel", name := "bearsBurst", desc := "([II)I" } : Jvm.MethodName) ∈ wq_TB := tb_4 168 rfl rfl
theorem tw_939 : Jvm.Cond.static ({ cls := "WellPipesModel", name := "bearsBurst", desc := "([II)I" } : Jvm.MethodName) ∈ wq_TB := tb_4 169 rfl rfl
theorem tw_940 : Jvm.Cond.code ({ cls := "WellPipesModel", name := "bearsBurst", desc := "([II)I" } : Jvm.MethodName) prog_9_method_32_code (2 : Nat) (Option.some Jvm.ClassFile.FieldType.int) ∈ wq_TB := tb_4 170 rfl rfl
theorem tw_941 : Jvm.Cond.methodLink "WellPipesModel" (166 : Nat) ({ cls := "WellPipesModel", name := "burstLoad", desc := "([II)I" } : Jvm.MethodName) ∈ wq_TB := tb_4 171 rfl rfl
theorem tw_942 : Jvm.Cond.static ({ cls := "WellPipesModel", name := "burstLoad", desc := "([II)I" } : Jvm.MethodName) ∈ wq_TB := tb_4 172 rfl rfl
theorem tw_943 : Jvm.Cond.code ({ cls := "WellPipesModel", name := "burstLoad", desc := "([II)I" } : Jvm.MethodName) prog_9_method_29_code (3 : Nat) (Option.some Jvm.ClassFile.FieldType.int) ∈ wq_TB := tb_4 173 rfl rfl
theorem tw_944 : Jvm.Cond.methodLink "WellPipesModel" (169 : Nat) ({ cls := "WellPipesModel", name := "bearsCrush", desc := "([III)I" } : Jvm.MethodName) ∈ wq_TB := tb_4 174 rfl rfl
theorem tw_945 : Jvm.Cond.static ({ cls := "WellPipesModel", name := "bearsCrush", desc := "([III)I" } : Jvm.MethodName) ∈ wq_TB := tb_4 175 rfl rfl
theorem tw_946 : Jvm.Cond.code ({ cls := "WellPipesModel", name := "bearsCrush", desc := "([III)I" } : Jvm.MethodName) prog_9_method_34_code (5 : Nat) (Option.some Jvm.ClassFile.FieldType.int) ∈ wq_TB := tb_4 176 rfl rfl
theorem tw_947 : Jvm.Cond.methodLink "WellPipesModel" (159 : Nat) ({ cls := "WellPipesModel", name := "bearsPull", desc := "([II)I" } : Jvm.MethodName) ∈ wq_TB := tb_4 177 rfl rfl
theorem tw_948 : Jvm.Cond.static ({ cls := "WellPipesModel", name := "bearsPull", desc := "([II)I" } : Jvm.MethodName) ∈ wq_TB := tb_4 178 rfl rfl
theorem tw_949 : Jvm.Cond.code ({ cls := "WellPipesModel", name := "bearsPull", desc := "([II)I" } : Jvm.MethodName) prog_9_method_33_code (2 : Nat) (Option.some Jvm.ClassFile.FieldType.int) ∈ wq_TB := tb_4 179 rfl rfl
theorem tw_950 : Jvm.Cond.methodLink "WellPipesModel" (172 : Nat) ({ cls := "WellPipesModel", name := "crushLoad", desc := "([II)I" } : Jvm.MethodName) ∈ wq_TB := tb_4 180 rfl rfl
theorem tw_951 : Jvm.Cond.static ({ cls := "WellPipesModel", name := "crushLoad", desc := "([II)I" } : Jvm.MethodName) ∈ wq_TB := tb_4 181 rfl rfl
theorem tw_952 : Jvm.Cond.code ({ cls := "WellPipesModel", name := "crushLoad", desc := "([II)I" } : Jvm.MethodName) prog_9_method_30_code (2 : Nat) (Option.some Jvm.ClassFile.FieldType.int) ∈ wq_TB := tb_4 182 rfl rfl
theorem tw_953 : Jvm.Cond.methodLink "WellPipesModel" (217 : Nat) ({ cls := "WellPipesModel", name := "costOf", desc := "([I)I" } : Jvm.MethodName) ∈ wq_TB := tb_4 183 rfl rfl
theorem tw_954 : Jvm.Cond.static ({ cls := "WellPipesModel", name := "costOf", desc := "([I)I" } : Jvm.MethodName) ∈ wq_TB := tb_4 184 rfl rfl
theorem tw_955 : Jvm.Cond.code ({ cls := "WellPipesModel", name := "costOf", desc := "([I)I" } : Jvm.MethodName) prog_9_method_38_code (3 : Nat) (Option.some Jvm.ClassFile.FieldType.int) ∈ wq_TB := tb_4 185 rfl rfl
theorem tw_956 : Jvm.Cond.methodLink "WellPipesLaw" (61 : Nat) ({ cls := "WellPipesModel", name := "rule", desc := "(II)I" } : Jvm.MethodName) ∈ wq_TB := tb_4 186 rfl rfl
theorem tw_957 : Jvm.Cond.instanceMethod ({ cls := "WellPipesModel", name := "rule", desc := "(II)I" } : Jvm.MethodName) ∈ wq_TB := tb_4 187 rfl rfl
theorem tw_958 : Jvm.Cond.selects "WellPipesModel" ({ cls := "WellPipesModel", name := "rule", desc := "(II)I" } : Jvm.MethodName) ({ cls := "WellPipesModel", name := "rule", desc := "(II)I" } : Jvm.MethodName) ∈ wq_TB := tb_4 188 rfl rfl
theorem tw_959 : Jvm.Cond.code ({ cls := "WellPipesModel", name := "rule", desc := "(II)I" } : Jvm.MethodName) prog_9_method_50_code (6 : Nat) (Option.some Jvm.ClassFile.FieldType.int) ∈ wq_TB := tb_4 189 rfl rfl
theorem tw_960 : Jvm.Cond.constantLong "WellPipesModel" (221 : Nat) (20 : Int64) ∈ wq_TB := tb_4 190 rfl rfl
theorem tw_961 : Jvm.Cond.constantLong "WellPipesModel" (223 : Nat) (99 : Int64) ∈ wq_TB := tb_4 191 rfl rfl
theorem tw_962 : Jvm.Cond.constantLong "WellPipesModel" (225 : Nat) (3 : Int64) ∈ wq_TB := tb_4 192 rfl rfl
theorem tw_963 : Jvm.Cond.methodLink "WellPipesLaw" (65 : Nat) ({ cls := "WellPipesModel", name := "price", desc := "(II)I" } : Jvm.MethodName) ∈ wq_TB := tb_4 193 rfl rfl
theorem tw_964 : Jvm.Cond.instanceMethod ({ cls := "WellPipesModel", name := "price", desc := "(II)I" } : Jvm.MethodName) ∈ wq_TB := tb_4 194 rfl rfl
theorem tw_965 : Jvm.Cond.selects "WellPipesModel" ({ cls := "WellPipesModel", name := "price", desc := "(II)I" } : Jvm.MethodName) ({ cls := "WellPipesModel", name := "price", desc := "(II)I" } : Jvm.MethodName) ∈ wq_TB := tb_4 195 rfl rfl
theorem tw_966 : Jvm.Cond.code ({ cls := "WellPipesModel", name := "price", desc := "(II)I" } : Jvm.MethodName) prog_9_method_51_code (4 : Nat) (Option.some Jvm.ClassFile.FieldType.int) ∈ wq_TB := tb_4 196 rfl rfl
theorem tw_967 : Jvm.Cond.methodLink "WellPipesLaw" (48 : Nat) ({ cls := "WellPipesModel", name := "undo", desc := "()I" } : Jvm.MethodName) ∈ wq_TB := tb_4 197 rfl rfl
theorem tw_968 : Jvm.Cond.instanceMethod ({ cls := "WellPipesModel", name := "undo", desc := "()I" } : Jvm.MethodName) ∈ wq_TB := tb_4 198 rfl rfl
theorem tw_969 : Jvm.Cond.selects "WellPipesModel" ({ cls := "WellPipesModel", name := "undo", desc := "()I" } : Jvm.MethodName) ({ cls := "WellPipesModel", name := "undo", desc := "()I" } : Jvm.MethodName) ∈ wq_TB := tb_4 199 rfl rfl
theorem tw_970 : Jvm.Cond.code ({ cls := "WellPipesModel", name := "undo", desc := "()I" } : Jvm.MethodName) prog_9_method_52_code (2 : Nat) (Option.some Jvm.ClassFile.FieldType.int) ∈ wq_TB := tb_4 200 rfl rfl
theorem tw_971 : Jvm.Cond.methodLink "WellPipesLaw" (69 : Nat) ({ cls := "WellPipesModel", name := "grade", desc := "(II)I" } : Jvm.MethodName) ∈ wq_TB := tb_4 201 rfl rfl
theorem tw_972 : Jvm.Cond.instanceMethod ({ cls := "WellPipesModel", name := "grade", desc := "(II)I" } : Jvm.MethodName) ∈ wq_TB := tb_4 202 rfl rfl
theorem tw_973 : Jvm.Cond.selects "WellPipesModel" ({ cls := "WellPipesModel", name := "grade", desc := "(II)I" } : Jvm.MethodName) ({ cls := "WellPipesModel", name := "grade", desc := "(II)I" } : Jvm.MethodName) ∈ wq_TB := tb_4 203 rfl rfl
theorem tw_974 : Jvm.Cond.code ({ cls := "WellPipesModel", name := "grade", desc := "(II)I" } : Jvm.MethodName) prog_9_method_53_code (3 : Nat) (Option.some Jvm.ClassFile.FieldType.int) ∈ wq_TB := tb_4 204 rfl rfl
theorem tw_975 : Jvm.Cond.constantLong "WellPipesModel" (227 : Nat) (4 : Int64) ∈ wq_TB := tb_4 205 rfl rfl
theorem tw_976 : Jvm.Cond.methodLink "WellPipesLaw" (73 : Nat) ({ cls := "WellPipesModel", name := "step", desc := "(II)I" } : Jvm.MethodName) ∈ wq_TB := tb_4 206 rfl rfl
theorem tw_977 : Jvm.Cond.instanceMethod ({ cls := "WellPipesModel", name := "step", desc := "(II)I" } : Jvm.MethodName) ∈ wq_TB := tb_4 207 rfl rfl
theorem tw_978 : Jvm.Cond.selects "WellPipesModel" ({ cls := "WellPipesModel", name := "step", desc := "(II)I" } : Jvm.MethodName) ({ cls := "WellPipesModel", name := "step", desc := "(II)I" } : Jvm.MethodName) ∈ wq_TB := tb_4 208 rfl rfl
theorem tw_979 : Jvm.Cond.code ({ cls := "WellPipesModel", name := "step", desc := "(II)I" } : Jvm.MethodName) prog_9_method_54_code (3 : Nat) (Option.some Jvm.ClassFile.FieldType.int) ∈ wq_TB := tb_4 209 rfl rfl
theorem tw_980 : Jvm.Cond.methodLink "WellPipesModel" (175 : Nat) ({ cls := "WellPipesModel", name := "hangs", desc := "([II)I" } : Jvm.MethodName) ∈ wq_TB := tb_4 210 rfl rfl
theorem tw_981 : Jvm.Cond.static ({ cls := "WellPipesModel", name := "hangs", desc := "([II)I" } : Jvm.MethodName) ∈ wq_TB := tb_4 211 rfl rfl
theorem tw_982 : Jvm.Cond.code ({ cls := "WellPipesModel", name := "hangs", desc := "([II)I" } : Jvm.MethodName) prog_9_method_31_code (4 : Nat) (Option.some Jvm.ClassFile.FieldType.int) ∈ wq_TB := tb_4 212 rfl rfl
theorem tw_983 : Jvm.Cond.methodLink "WellPipesModel" (182 : Nat) ({ cls := "WellPipesModel", name := "holds", desc := "([II)Z" } : Jvm.MethodName) ∈ wq_TB := tb_4 213 rfl rfl
theorem tw_984 : Jvm.Cond.static ({ cls := "WellPipesModel", name := "holds", desc := "([II)Z" } : Jvm.MethodName) ∈ wq_TB := tb_4 214 rfl rfl
theorem tw_985 : Jvm.Cond.code ({ cls := "WellPipesModel", name := "holds", desc := "([II)Z" } : Jvm.MethodName) prog_9_method_36_code (2 : Nat) (Option.some Jvm.ClassFile.FieldType.boolean) ∈ wq_TB := tb_4 215 rfl rfl
theorem tw_986 : Jvm.Cond.methodLink "WellPipesModel" (186 : Nat) ({ cls := "WellPipesModel", name := "sectionOf", desc := "([II)I" } : Jvm.MethodName) ∈ wq_TB := tb_4 216 rfl rfl
theorem tw_987 : Jvm.Cond.static ({ cls := "WellPipesModel", name := "sectionOf", desc := "([II)I" } : Jvm.MethodName) ∈ wq_TB := tb_4 217 rfl rfl
theorem tw_988 : Jvm.Cond.code ({ cls := "WellPipesModel", name := "sectionOf", desc := "([II)I" } : Jvm.MethodName) prog_9_method_39_code (5 : Nat) (Option.some Jvm.ClassFile.FieldType.int) ∈ wq_TB := tb_4 218 rfl rfl
theorem tw_989 : Jvm.Cond.methodLink "WellPipesLaw" (77 : Nat) ({ cls := "WellPipesModel", name := "bears", desc := "(II)I" } : Jvm.MethodName) ∈ wq_TB := tb_4 219 rfl rfl
theorem tw_990 : Jvm.Cond.instanceMethod ({ cls := "WellPipesModel", name := "bears", desc := "(II)I" } : Jvm.MethodName) ∈ wq_TB := tb_4 220 rfl rfl
theorem tw_991 : Jvm.Cond.selects "WellPipesModel" ({ cls := "WellPipesModel", name := "bears", desc := "(II)I" } : Jvm.MethodName) ({ cls := "WellPipesModel", name := "bears", desc := "(II)I" } : Jvm.MethodName) ∈ wq_TB := tb_4 221 rfl rfl
theorem tw_992 : Jvm.Cond.code ({ cls := "WellPipesModel", name := "bears", desc := "(II)I" } : Jvm.MethodName) prog_9_method_55_code (4 : Nat) (Option.some Jvm.ClassFile.FieldType.int) ∈ wq_TB := tb_4 222 rfl rfl
theorem tw_993 : Jvm.Cond.methodLink "WellPipesLaw" (81 : Nat) ({ cls := "WellPipesModel", name := "stand", desc := "(I)I" } : Jvm.MethodName) ∈ wq_TB := tb_4 223 rfl rfl
theorem tw_994 : Jvm.Cond.instanceMethod ({ cls := "WellPipesModel", name := "stand", desc := "(I)I" } : Jvm.MethodName) ∈ wq_TB := tb_4 224 rfl rfl
theorem tw_995 : Jvm.Cond.selects "WellPipesModel" ({ cls := "WellPipesModel", name := "stand", desc := "(I)I" } : Jvm.MethodName) ({ cls := "WellPipesModel", name := "stand", desc := "(I)I" } : Jvm.MethodName) ∈ wq_TB := tb_4 225 rfl rfl
theorem tw_996 : Jvm.Cond.code ({ cls := "WellPipesModel", name := "stand", desc := "(I)I" } : Jvm.MethodName) prog_9_method_57_code (2 : Nat) (Option.some Jvm.ClassFile.FieldType.int) ∈ wq_TB := tb_4 226 rfl rfl
theorem tw_997 : Jvm.Cond.methodLink "WellPipesModel" (229 : Nat) ({ cls := "WellPipesModel", name := "firstLoose", desc := "()I" } : Jvm.MethodName) ∈ wq_TB := tb_4 227 rfl rfl
theorem tw_999 : Jvm.Cond.instanceMethod ({ cls := "WellPipesModel", name := "firstLoose", desc := "()I" } : Jvm.MethodName) ∈ wq_TB := tb_4 229 rfl rfl
theorem tw_1000 : Jvm.Cond.code ({ cls := "WellPipesModel", name := "firstLoose", desc := "()I" } : Jvm.MethodName) prog_9_method_56_code (2 : Nat) (Option.some Jvm.ClassFile.FieldType.int) ∈ wq_TB := tb_4 230 rfl rfl
theorem tw_1001 : Jvm.Cond.methodLink "WellPipesModel" (233 : Nat) ({ cls := "WellPipesModel", name := "isSound", desc := "([I)Z" } : Jvm.MethodName) ∈ wq_TB := tb_4 231 rfl rfl
theorem tw_1002 : Jvm.Cond.static ({ cls := "WellPipesModel", name := "isSound", desc := "([I)Z" } : Jvm.MethodName) ∈ wq_TB := tb_4 232 rfl rfl
theorem tw_1003 : Jvm.Cond.code ({ cls := "WellPipesModel", name := "isSound", desc := "([I)Z" } : Jvm.MethodName) prog_9_method_41_code (3 : Nat) (Option.some Jvm.ClassFile.FieldType.boolean) ∈ wq_TB := tb_4 233 rfl rfl
theorem tw_1004 : Jvm.Cond.methodLink "WellPipesLaw" (85 : Nat) ({ cls := "WellPipesModel", name := "best", desc := "(I)I" } : Jvm.MethodName) ∈ wq_TB := tb_4 234 rfl rfl
theorem tw_1005 : Jvm.Cond.instanceMethod ({ cls := "WellPipesModel", name := "best", desc := "(I)I" } : Jvm.MethodName) ∈ wq_TB := tb_4 235 rfl rfl
theorem tw_1006 : Jvm.Cond.selects "WellPipesModel" ({ cls := "WellPipesModel", name := "best", desc := "(I)I" } : Jvm.MethodName) ({ cls := "WellPipesModel", name := "best", desc := "(I)I" } : Jvm.MethodName) ∈ wq_TB := tb_4 236 rfl rfl
theorem tw_1007 : Jvm.Cond.code ({ cls := "WellPipesModel", name := "best", desc := "(I)I" } : Jvm.MethodName) prog_9_method_58_code (3 : Nat) (Option.some Jvm.ClassFile.FieldType.int) ∈ wq_TB := tb_4 237 rfl rfl
theorem tw_1008 : Jvm.Cond.methodLink "WellPipesLaw" (89 : Nat) ({ cls := "WellPipesModel", name := "without", desc := "(I)I" } : Jvm.MethodName) ∈ wq_TB := tb_4 238 rfl rfl
theorem tw_1009 : Jvm.Cond.instanceMethod ({ cls := "WellPipesModel", name := "without", desc := "(I)I" } : Jvm.MethodName) ∈ wq_TB := tb_4 239 rfl rfl
theorem tw_1010 : Jvm.Cond.selects "WellPipesModel" ({ cls := "WellPipesModel", name := "without", desc := "(I)I" } : Jvm.MethodName) ({ cls := "WellPipesModel", name := "without", desc := "(I)I" } : Jvm.MethodName) ∈ wq_TB := tb_5 0 rfl rfl
theorem tw_1011 : Jvm.Cond.code ({ cls := "WellPipesModel", name := "without", desc := "(I)I" } : Jvm.MethodName) prog_9_method_59_code (3 : Nat) (Option.some Jvm.ClassFile.FieldType.int) ∈ wq_TB := tb_5 1 rfl rfl
theorem tw_1012 : Jvm.Cond.methodLink "WellPipesLaw" (93 : Nat) ({ cls := "WellPipesModel", name := "most", desc := "(I)I" } : Jvm.MethodName) ∈ wq_TB := tb_5 2 rfl rfl
theorem tw_1013 : Jvm.Cond.instanceMethod ({ cls := "WellPipesModel", name := "most", desc := "(I)I" } : Jvm.MethodName) ∈ wq_TB := tb_5 3 rfl rfl
theorem tw_1014 : Jvm.Cond.selects "WellPipesModel" ({ cls := "WellPipesModel", name := "most", desc := "(I)I" } : Jvm.MethodName) ({ cls := "WellPipesModel", name := "most", desc := "(I)I" } : Jvm.MethodName) ∈ wq_TB := tb_5 4 rfl rfl
theorem tw_1015 : Jvm.Cond.code ({ cls := "WellPipesModel", name := "most", desc := "(I)I" } : Jvm.MethodName) prog_9_method_60_code (3 : Nat) (Option.some Jvm.ClassFile.FieldType.int) ∈ wq_TB := tb_5 5 rfl rfl
theorem tw_1016 : Jvm.Cond.methodLink "WellPipesModel" (237 : Nat) ({ cls := "WellPipesModel", name := "layThen", desc := "()V" } : Jvm.MethodName) ∈ wq_TB := tb_5 6 rfl rfl
theorem tw_1018 : Jvm.Cond.instanceMethod ({ cls := "WellPipesModel", name := "layThen", desc := "()V" } : Jvm.MethodName) ∈ wq_TB := tb_5 8 rfl rfl
theorem tw_1019 : Jvm.Cond.code ({ cls := "WellPipesModel", name := "layThen", desc := "()V" } : Jvm.MethodName) prog_9_method_42_code (2 : Nat) (Option.none : Option Jvm.ClassFile.FieldType) ∈ wq_TB := tb_5 9 rfl rfl
theorem tw_1020 : Jvm.Cond.methodLink "WellPipesModel" (240 : Nat) ({ cls := "WellPipesModel", name := "manyHold", desc := "([I)I" } : Jvm.MethodName) ∈ wq_TB := tb_5 10 rfl rfl
theorem tw_1021 : Jvm.Cond.static ({ cls := "WellPipesModel", name := "manyHold", desc := "([I)I" } : Jvm.MethodName) ∈ wq_TB := tb_5 11 rfl rfl
theorem tw_1022 : Jvm.Cond.code ({ cls := "WellPipesModel", name := "manyHold", desc := "([I)I" } : Jvm.MethodName) prog_9_method_37_code (3 : Nat) (Option.some Jvm.ClassFile.FieldType.int) ∈ wq_TB := tb_5 12 rfl rfl
theorem tw_1023 : Jvm.Cond.methodLink "WellPipesLaw" (97 : Nat) ({ cls := "WellPipesModel", name := "need", desc := "(I)I" } : Jvm.MethodName) ∈ wq_TB := tb_5 13 rfl rfl
theorem tw_1024 : Jvm.Cond.instanceMethod ({ cls := "WellPipesModel", name := "need", desc := "(I)I" } : Jvm.MethodName) ∈ wq_TB := tb_5 14 rfl rfl
theorem tw_1025 : Jvm.Cond.selects "WellPipesModel" ({ cls := "WellPipesModel", name := "need", desc := "(I)I" } : Jvm.MethodName) ({ cls := "WellPipesModel", name := "need", desc := "(I)I" } : Jvm.MethodName) ∈ wq_TB := tb_5 15 rfl rfl
theorem tw_1026 : Jvm.Cond.code ({ cls := "WellPipesModel", name := "need", desc := "(I)I" } : Jvm.MethodName) prog_9_method_61_code (4 : Nat) (Option.some Jvm.ClassFile.FieldType.int) ∈ wq_TB := tb_5 16 rfl rfl
theorem tw_1027 : Jvm.Cond.methodLink "WellPipesLaw" (101 : Nat) ({ cls := "WellPipesModel", name := "sets", desc := "(II)I" } : Jvm.MethodName) ∈ wq_TB := tb_5 17 rfl rfl
theorem tw_1028 : Jvm.Cond.instanceMethod ({ cls := "WellPipesModel", name := "sets", desc := "(II)I" } : Jvm.MethodName) ∈ wq_TB := tb_5 18 rfl rfl
theorem tw_1029 : Jvm.Cond.selects "WellPipesModel" ({ cls := "WellPipesModel", name := "sets", desc := "(II)I" } : Jvm.MethodName) ({ cls := "WellPipesModel", name := "sets", desc := "(II)I" } : Jvm.MethodName) ∈ wq_TB := tb_5 19 rfl rfl
theorem tw_1030 : Jvm.Cond.code ({ cls := "WellPipesModel", name := "sets", desc := "(II)I" } : Jvm.MethodName) prog_9_method_62_code (11 : Nat) (Option.some Jvm.ClassFile.FieldType.int) ∈ wq_TB := tb_5 20 rfl rfl
theorem tw_1031 : Jvm.Cond.constantLong "WellPipesModel" (243 : Nat) (792 : Int64) ∈ wq_TB := tb_5 21 rfl rfl
theorem tw_1032 : Jvm.Cond.methodLink "WellPipesModel" (245 : Nat) ({ cls := "WellPipesModel", name := "has", desc := "(II)Z" } : Jvm.MethodName) ∈ wq_TB := tb_5 22 rfl rfl
theorem tw_1033 : Jvm.Cond.static ({ cls := "WellPipesModel", name := "has", desc := "(II)Z" } : Jvm.MethodName) ∈ wq_TB := tb_5 23 rfl rfl
theorem tw_1034 : Jvm.Cond.code ({ cls := "WellPipesModel", name := "has", desc := "(II)Z" } : Jvm.MethodName) prog_9_method_27_code (2 : Nat) (Option.some Jvm.ClassFile.FieldType.boolean) ∈ wq_TB := tb_5 24 rfl rfl
theorem tw_1035 : Jvm.Cond.methodLink "WellPipesLaw" (105 : Nat) ({ cls := "WellPipesModel", name := "share", desc := "(II)I" } : Jvm.MethodName) ∈ wq_TB := tb_5 25 rfl rfl
theorem tw_1036 : Jvm.Cond.instanceMethod ({ cls := "WellPipesModel", name := "share", desc := "(II)I" } : Jvm.MethodName) ∈ wq_TB := tb_5 26 rfl rfl
theorem tw_1037 : Jvm.Cond.selects "WellPipesModel" ({ cls := "WellPipesModel", name := "share", desc := "(II)I" } : Jvm.MethodName) ({ cls := "WellPipesModel", name := "share", desc := "(II)I" } : Jvm.MethodName) ∈ wq_TB := tb_5 27 rfl rfl
theorem tw_1038 : Jvm.Cond.code ({ cls := "WellPipesModel", name := "share", desc := "(II)I" } : Jvm.MethodName) prog_9_method_64_code (8 : Nat) (Option.some Jvm.ClassFile.FieldType.int) ∈ wq_TB := tb_5 28 rfl rfl
theorem tw_1039 : Jvm.Cond.constantLong "WellPipesModel" (249 : Nat) (999 : Int64) ∈ wq_TB := tb_5 29 rfl rfl
theorem tw_1040 : Jvm.Cond.methodLink "WellPipesModel" (251 : Nat) ({ cls := "WellPipesModel", name := "heftAt", desc := "(I)I" } : Jvm.MethodName) ∈ wq_TB := tb_5 30 rfl rfl
theorem tw_1042 : Jvm.Cond.instanceMethod ({ cls := "WellPipesModel", name := "heftAt", desc := "(I)I" } : Jvm.MethodName) ∈ wq_TB := tb_5 32 rfl rfl
theorem tw_1043 : Jvm.Cond.code ({ cls := "WellPipesModel", name := "heftAt", desc := "(I)I" } : Jvm.MethodName) prog_9_method_63_code (2 : Nat) (Option.some Jvm.ClassFile.FieldType.int) ∈ wq_TB := tb_5 33 rfl rfl
theorem tw_1044 : Jvm.Cond.methodLink "WellPipesLaw" (109 : Nat) ({ cls := "WellPipesModel", name := "byTurns", desc := "(I)I" } : Jvm.MethodName) ∈ wq_TB := tb_5 34 rfl rfl
theorem tw_1045 : Jvm.Cond.instanceMethod ({ cls := "WellPipesModel", name := "byTurns", desc := "(I)I" } : Jvm.MethodName) ∈ wq_TB := tb_5 35 rfl rfl
theorem tw_1046 : Jvm.Cond.selects "WellPipesModel" ({ cls := "WellPipesModel", name := "byTurns", desc := "(I)I" } : Jvm.MethodName) ({ cls := "WellPipesModel", name := "byTurns", desc := "(I)I" } : Jvm.MethodName) ∈ wq_TB := tb_5 36 rfl rfl
theorem tw_1047 : Jvm.Cond.code ({ cls := "WellPipesModel", name := "byTurns", desc := "(I)I" } : Jvm.MethodName) prog_9_method_66_code (4 : Nat) (Option.some Jvm.ClassFile.FieldType.int) ∈ wq_TB := tb_5 37 rfl rfl
theorem tw_1048 : Jvm.Cond.methodLink "WellPipesModel" (254 : Nat) ({ cls := "WellPipesModel", name := "bestTurn", desc := "(II)I" } : Jvm.MethodName) ∈ wq_TB := tb_5 38 rfl rfl
theorem tw_1050 : Jvm.Cond.instanceMethod ({ cls := "WellPipesModel", name := "bestTurn", desc := "(II)I" } : Jvm.MethodName) ∈ wq_TB := tb_5 40 rfl rfl
theorem tw_1051 : Jvm.Cond.code ({ cls := "WellPipesModel", name := "bestTurn", desc := "(II)I" } : Jvm.MethodName) prog_9_method_65_code (8 : Nat) (Option.some Jvm.ClassFile.FieldType.int) ∈ wq_TB := tb_5 41 rfl rfl
theorem tw_1052 : Jvm.Cond.methodLink "WellPipesLaw" (114 : Nat) ({ cls := "WellPipesModel", name := "who", desc := "(IIII)I" } : Jvm.MethodName) ∈ wq_TB := tb_5 42 rfl rfl
theorem tw_1053 : Jvm.Cond.instanceMethod ({ cls := "WellPipesModel", name := "who", desc := "(IIII)I" } : Jvm.MethodName) ∈ wq_TB := tb_5 43 rfl rfl
theorem tw_1054 : Jvm.Cond.selects "WellPipesModel" ({ cls := "WellPipesModel", name := "who", desc := "(IIII)I" } : Jvm.MethodName) ({ cls := "WellPipesModel", name := "who", desc := "(IIII)I" } : Jvm.MethodName) ∈ wq_TB := tb_5 44 rfl rfl
theorem tw_1055 : Jvm.Cond.code ({ cls := "WellPipesModel", name := "who", desc := "(IIII)I" } : Jvm.MethodName) prog_9_method_68_code (10 : Nat) (Option.some Jvm.ClassFile.FieldType.int) ∈ wq_TB := tb_5 45 rfl rfl
theorem tw_1056 : Jvm.Cond.methodLink "WellPipesModel" (257 : Nat) ({ cls := "WellPipesModel", name := "rowFound", desc := "(III)I" } : Jvm.MethodName) ∈ wq_TB := tb_5 46 rfl rfl
theorem tw_1058 : Jvm.Cond.instanceMethod ({ cls := "WellPipesModel", name := "rowFound", desc := "(III)I" } : Jvm.MethodName) ∈ wq_TB := tb_5 48 rfl rfl
theorem tw_1059 : Jvm.Cond.code ({ cls := "WellPipesModel", name := "rowFound", desc := "(III)I" } : Jvm.MethodName) prog_9_method_67_code (4 : Nat) (Option.some Jvm.ClassFile.FieldType.int) ∈ wq_TB := tb_5 49 rfl rfl
theorem tw_1060 : Jvm.Cond.methodLink "WellPipesLaw" (119 : Nat) ({ cls := "WellPipesModel", name := "flaws", desc := "(II)J" } : Jvm.MethodName) ∈ wq_TB := tb_5 50 rfl rfl
theorem tw_1061 : Jvm.Cond.instanceMethod ({ cls := "WellPipesModel", name := "flaws", desc := "(II)J" } : Jvm.MethodName) ∈ wq_TB := tb_5 51 rfl rfl
theorem tw_1062 : Jvm.Cond.selects "WellPipesModel" ({ cls := "WellPipesModel", name := "flaws", desc := "(II)J" } : Jvm.MethodName) ({ cls := "WellPipesModel", name := "flaws", desc := "(II)J" } : Jvm.MethodName) ∈ wq_TB := tb_5 52 rfl rfl
theorem tw_1063 : Jvm.Cond.code ({ cls := "WellPipesModel", name := "flaws", desc := "(II)J" } : Jvm.MethodName) prog_9_method_69_code (13 : Nat) (Option.some Jvm.ClassFile.FieldType.long) ∈ wq_TB := tb_5 53 rfl rfl
theorem tw_1064 : Jvm.Cond.constantLong "WellPipesModel" (261 : Nat) (-1000002 : Int64) ∈ wq_TB := tb_5 54 rfl rfl
theorem tw_1065 : Jvm.Cond.constantLong "WellPipesModel" (263 : Nat) (10 : Int64) ∈ wq_TB := tb_5 55 rfl rfl
theorem tw_1066 : Jvm.Cond.constantLong "WellPipesModel" (265 : Nat) (-1000001 : Int64) ∈ wq_TB := tb_5 56 rfl rfl
theorem tw_1067 : Jvm.Cond.methodLink "WellPipesLaw" (123 : Nat) ({ cls := "WellPipesModel", name := "drawn", desc := "(III)I" } : Jvm.MethodName) ∈ wq_TB := tb_5 57 rfl rfl
theorem tw_1068 : Jvm.Cond.instanceMethod ({ cls := "WellPipesModel", name := "drawn", desc := "(III)I" } : Jvm.MethodName) ∈ wq_TB := tb_5 58 rfl rfl
theorem tw_1069 : Jvm.Cond.selects "WellPipesModel" ({ cls := "WellPipesModel", name := "drawn", desc := "(III)I" } : Jvm.MethodName) ({ cls := "WellPipesModel", name := "drawn", desc := "(III)I" } : Jvm.MethodName) ∈ wq_TB := tb_5 59 rfl rfl
theorem tw_1070 : Jvm.Cond.code ({ cls := "WellPipesModel", name := "drawn", desc := "(III)I" } : Jvm.MethodName) prog_9_method_70_code (8 : Nat) (Option.some Jvm.ClassFile.FieldType.int) ∈ wq_TB := tb_5 60 rfl rfl
theorem tw_1071 : Jvm.Cond.constantLong "WellPipesModel" (267 : Nat) (60 : Int64) ∈ wq_TB := tb_5 61 rfl rfl
theorem tw_1072 : Jvm.Cond.constantLong "WellPipesModel" (269 : Nat) (999999 : Int64) ∈ wq_TB := tb_5 62 rfl rfl
theorem tw_1073 : Jvm.Cond.constantLong "WellPipesModel" (271 : Nat) (16807 : Int64) ∈ wq_TB := tb_5 63 rfl rfl
theorem tw_1074 : Jvm.Cond.constantLong "WellPipesModel" (273 : Nat) (2147483647 : Int64) ∈ wq_TB := tb_5 64 rfl rfl
theorem tw_1075 : Jvm.Cond.constantLong "WellPipesModel" (275 : Nat) (16 : Int64) ∈ wq_TB := tb_5 65 rfl rfl
theorem tw_1076 : Jvm.Cond.constantLong "WellPipesModel" (277 : Nat) (5 : Int64) ∈ wq_TB := tb_5 66 rfl rfl
theorem tw_1077 : Jvm.Cond.constantLong "WellPipesModel" (279 : Nat) (256 : Int64) ∈ wq_TB := tb_5 67 rfl rfl
theorem tw_1078 : Jvm.Cond.constantLong "WellPipesModel" (281 : Nat) (21 : Int64) ∈ wq_TB := tb_5 68 rfl rfl
theorem tw_1079 : Jvm.Cond.methodLink "WellPipesLaw" (127 : Nat) ({ cls := "WellPipesModel", name := "image", desc := "(I)I" } : Jvm.MethodName) ∈ wq_TB := tb_5 69 rfl rfl
theorem tw_1080 : Jvm.Cond.instanceMethod ({ cls := "WellPipesModel", name := "image", desc := "(I)I" } : Jvm.MethodName) ∈ wq_TB := tb_5 70 rfl rfl
theorem tw_1081 : Jvm.Cond.selects "WellPipesModel" ({ cls := "WellPipesModel", name := "image", desc := "(I)I" } : Jvm.MethodName) ({ cls := "WellPipesModel", name := "image", desc := "(I)I" } : Jvm.MethodName) ∈ wq_TB := tb_5 71 rfl rfl
theorem tw_1082 : Jvm.Cond.code ({ cls := "WellPipesModel", name := "image", desc := "(I)I" } : Jvm.MethodName) prog_9_method_71_code (3 : Nat) (Option.some Jvm.ClassFile.FieldType.int) ∈ wq_TB := tb_5 72 rfl rfl
theorem tw_1083 : Jvm.Cond.methodLink "WellPipesLaw" (131 : Nat) ({ cls := "WellPipesModel", name := "restore", desc := "(I)I" } : Jvm.MethodName) ∈ wq_TB := tb_5 73 rfl rfl
theorem tw_1084 : Jvm.Cond.instanceMethod ({ cls := "WellPipesModel", name := "restore", desc := "(I)I" } : Jvm.MethodName) ∈ wq_TB := tb_5 74 rfl rfl
theorem tw_1085 : Jvm.Cond.selects "WellPipesModel" ({ cls := "WellPipesModel", name := "restore", desc := "(I)I" } : Jvm.MethodName) ({ cls := "WellPipesModel", name := "restore", desc := "(I)I" } : Jvm.MethodName) ∈ wq_TB := tb_5 75 rfl rfl
theorem tw_1086 : Jvm.Cond.code ({ cls := "WellPipesModel", name := "restore", desc := "(I)I" } : Jvm.MethodName) prog_9_method_72_code (3 : Nat) (Option.some Jvm.ClassFile.FieldType.int) ∈ wq_TB := tb_5 76 rfl rfl
theorem tw_1087 : Jvm.Cond.methodLink "WellPipesLaw" (135 : Nat) ({ cls := "WellPipesModel", name := "kind", desc := "(I)I" } : Jvm.MethodName) ∈ wq_TB := tb_5 77 rfl rfl
theorem tw_1088 : Jvm.Cond.instanceMethod ({ cls := "WellPipesModel", name := "kind", desc := "(I)I" } : Jvm.MethodName) ∈ wq_TB := tb_5 78 rfl rfl
theorem tw_1089 : Jvm.Cond.selects "WellPipesModel" ({ cls := "WellPipesModel", name := "kind", desc := "(I)I" } : Jvm.MethodName) ({ cls := "WellPipesModel", name := "kind", desc := "(I)I" } : Jvm.MethodName) ∈ wq_TB := tb_5 79 rfl rfl
theorem tw_1090 : Jvm.Cond.code ({ cls := "WellPipesModel", name := "kind", desc := "(I)I" } : Jvm.MethodName) prog_9_method_74_code (2 : Nat) (Option.some Jvm.ClassFile.FieldType.int) ∈ wq_TB := tb_5 80 rfl rfl
theorem tw_1091 : Jvm.Cond.methodLink "WellPipesLaw" (139 : Nat) ({ cls := "WellPipesModel", name := "as", desc := "(II)I" } : Jvm.MethodName) ∈ wq_TB := tb_5 81 rfl rfl
theorem tw_1092 : Jvm.Cond.instanceMethod ({ cls := "WellPipesModel", name := "as", desc := "(II)I" } : Jvm.MethodName) ∈ wq_TB := tb_5 82 rfl rfl
theorem tw_1093 : Jvm.Cond.selects "WellPipesModel" ({ cls := "WellPipesModel", name := "as", desc := "(II)I" } : Jvm.MethodName) ({ cls := "WellPipesModel", name := "as", desc := "(II)I" } : Jvm.MethodName) ∈ wq_TB := tb_5 83 rfl rfl
theorem tw_1094 : Jvm.Cond.code ({ cls := "WellPipesModel", name := "as", desc := "(II)I" } : Jvm.MethodName) prog_9_method_75_code (3 : Nat) (Option.some Jvm.ClassFile.FieldType.int) ∈ wq_TB := tb_5 84 rfl rfl
theorem tw_1095 : Jvm.Cond.methodLink "WellPipesModel" (283 : Nat) ({ cls := "WellPipesModel", name := "isOf", desc := "(II)Z" } : Jvm.MethodName) ∈ wq_TB := tb_5 85 rfl rfl
theorem tw_1096 : Jvm.Cond.static ({ cls := "WellPipesModel", name := "isOf", desc := "(II)Z" } : Jvm.MethodName) ∈ wq_TB := tb_5 86 rfl rfl
theorem tw_1097 : Jvm.Cond.code ({ cls := "WellPipesModel", name := "isOf", desc := "(II)Z" } : Jvm.MethodName) prog_9_method_73_code (2 : Nat) (Option.some Jvm.ClassFile.FieldType.boolean) ∈ wq_TB := tb_5 87 rfl rfl
theorem tw_1098 : Jvm.Cond.methodLink "WellPipesLaw" (143 : Nat) ({ cls := "WellPipesModel", name := "ask", desc := "(II)I" } : Jvm.MethodName) ∈ wq_TB := tb_5 88 rfl rfl
theorem tw_1099 : Jvm.Cond.instanceMethod ({ cls := "WellPipesModel", name := "ask", desc := "(II)I" } : Jvm.MethodName) ∈ wq_TB := tb_5 89 rfl rfl
theorem tw_1100 : Jvm.Cond.selects "WellPipesModel" ({ cls := "WellPipesModel", name := "ask", desc := "(II)I" } : Jvm.MethodName) ({ cls := "WellPipesModel", name := "ask", desc := "(II)I" } : Jvm.MethodName) ∈ wq_TB := tb_5 90 rfl rfl
theorem tw_1101 : Jvm.Cond.code ({ cls := "WellPipesModel", name := "ask", desc := "(II)I" } : Jvm.MethodName) prog_9_method_81_code (3 : Nat) (Option.some Jvm.ClassFile.FieldType.int) ∈ wq_TB := tb_5 91 rfl rfl
theorem tw_1102 : Jvm.Cond.methodLink "WellPipesModel" (301 : Nat) ({ cls := "WellPipesModel", name := "sizeOf", desc := "(I)I" } : Jvm.MethodName) ∈ wq_TB := tb_5 92 rfl rfl
theorem tw_1104 : Jvm.Cond.instanceMethod ({ cls := "WellPipesModel", name := "sizeOf", desc := "(I)I" } : Jvm.MethodName) ∈ wq_TB := tb_5 94 rfl rfl
theorem tw_1105 : Jvm.Cond.code ({ cls := "WellPipesModel", name := "sizeOf", desc := "(I)I" } : Jvm.MethodName) prog_9_method_80_code (4 : Nat) (Option.some Jvm.ClassFile.FieldType.int) ∈ wq_TB := tb_5 95 rfl rfl
theorem tw_1106 : Jvm.Cond.methodLink "WellPipesModel" (295 : Nat) ({ cls := "WellPipesModel", name := "thickSize", desc := "(I)I" } : Jvm.MethodName) ∈ wq_TB := tb_5 96 rfl rfl
theorem tw_1108 : Jvm.Cond.instanceMethod ({ cls := "WellPipesModel", name := "thickSize", desc := "(I)I" } : Jvm.MethodName) ∈ wq_TB := tb_5 98 rfl rfl
theorem tw_1109 : Jvm.Cond.code ({ cls := "WellPipesModel", name := "thickSize", desc := "(I)I" } : Jvm.MethodName) prog_9_method_78_code (4 : Nat) (Option.some Jvm.ClassFile.FieldType.int) ∈ wq_TB := tb_5 99 rfl rfl
theorem tw_1110 : Jvm.Cond.methodLink "WellPipesModel" (289 : Nat) ({ cls := "WellPipesModel", name := "began", desc := "(I)V" } : Jvm.MethodName) ∈ wq_TB := tb_5 100 rfl rfl
theorem tw_1112 : Jvm.Cond.instanceMethod ({ cls := "WellPipesModel", name := "began", desc := "(I)V" } : Jvm.MethodName) ∈ wq_TB := tb_5 102 rfl rfl
theorem tw_1113 : Jvm.Cond.code ({ cls := "WellPipesModel", name := "began", desc := "(I)V" } : Jvm.MethodName) prog_9_method_76_code (2 : Nat) (Option.none : Option Jvm.ClassFile.FieldType) ∈ wq_TB := tb_5 103 rfl rfl
theorem tw_1114 : Jvm.Cond.methodLink "WellPipesModel" (292 : Nat) ({ cls := "WellPipesModel", name := "plainSize", desc := "(I)I" } : Jvm.MethodName) ∈ wq_TB := tb_5 104 rfl rfl
theorem tw_1116 : Jvm.Cond.instanceMethod ({ cls := "WellPipesModel", name := "plainSize", desc := "(I)I" } : Jvm.MethodName) ∈ wq_TB := tb_5 106 rfl rfl
theorem tw_1117 : Jvm.Cond.code ({ cls := "WellPipesModel", name := "plainSize", desc := "(I)I" } : Jvm.MethodName) prog_9_method_77_code (2 : Nat) (Option.some Jvm.ClassFile.FieldType.int) ∈ wq_TB := tb_5 107 rfl rfl
theorem tw_1118 : Jvm.Cond.methodLink "WellPipesModel" (298 : Nat) ({ cls := "WellPipesModel", name := "markOf", desc := "(I)I" } : Jvm.MethodName) ∈ wq_TB := tb_5 108 rfl rfl
theorem tw_1120 : Jvm.Cond.instanceMethod ({ cls := "WellPipesModel", name := "markOf", desc := "(I)I" } : Jvm.MethodName) ∈ wq_TB := tb_5 110 rfl rfl
theorem tw_1121 : Jvm.Cond.code ({ cls := "WellPipesModel", name := "markOf", desc := "(I)I" } : Jvm.MethodName) prog_9_method_79_code (4 : Nat) (Option.some Jvm.ClassFile.FieldType.int) ∈ wq_TB := tb_5 111 rfl rfl
theorem tw_1122 : Jvm.Cond.methodLink "WellPipesLaw" (147 : Nat) ({ cls := "WellPipesModel", name := "trace", desc := "(I)I" } : Jvm.MethodName) ∈ wq_TB := tb_5 112 rfl rfl
theorem tw_1123 : Jvm.Cond.instanceMethod ({ cls := "WellPipesModel", name := "trace", desc := "(I)I" } : Jvm.MethodName) ∈ wq_TB := tb_5 113 rfl rfl
theorem tw_1124 : Jvm.Cond.selects "WellPipesModel" ({ cls := "WellPipesModel", name := "trace", desc := "(I)I" } : Jvm.MethodName) ({ cls := "WellPipesModel", name := "trace", desc := "(I)I" } : Jvm.MethodName) ∈ wq_TB := tb_5 114 rfl rfl
theorem tw_1125 : Jvm.Cond.code ({ cls := "WellPipesModel", name := "trace", desc := "(I)I" } : Jvm.MethodName) prog_9_method_82_code (2 : Nat) (Option.some Jvm.ClassFile.FieldType.int) ∈ wq_TB := tb_5 115 rfl rfl
theorem tw_1126 : Jvm.Cond.methodLink "WellPipesLaw" (151 : Nat) ({ cls := "WellPipesModel", name := "count", desc := "(I)I" } : Jvm.MethodName) ∈ wq_TB := tb_5 116 rfl rfl
theorem tw_1127 : Jvm.Cond.instanceMethod ({ cls := "WellPipesModel", name := "count", desc := "(I)I" } : Jvm.MethodName) ∈ wq_TB := tb_5 117 rfl rfl
theorem tw_1128 : Jvm.Cond.selects "WellPipesModel" ({ cls := "WellPipesModel", name := "count", desc := "(I)I" } : Jvm.MethodName) ({ cls := "WellPipesModel", name := "count", desc := "(I)I" } : Jvm.MethodName) ∈ wq_TB := tb_5 118 rfl rfl
theorem tw_1129 : Jvm.Cond.code ({ cls := "WellPipesModel", name := "count", desc := "(I)I" } : Jvm.MethodName) prog_9_method_83_code (4 : Nat) (Option.some Jvm.ClassFile.FieldType.int) ∈ wq_TB := tb_5 119 rfl rfl
theorem tw_1130 : Jvm.Cond.methodLink "WellPipesModel" (304 : Nat) ({ cls := "WellPipesModel", name := "sections", desc := "([I)I" } : Jvm.MethodName) ∈ wq_TB := tb_5 120 rfl rfl
theorem tw_1131 : Jvm.Cond.static ({ cls := "WellPipesModel", name := "sections", desc := "([I)I" } : Jvm.MethodName) ∈ wq_TB := tb_5 121 rfl rfl
theorem tw_1132 : Jvm.Cond.code ({ cls := "WellPipesModel", name := "sections", desc := "([I)I" } : Jvm.MethodName) prog_9_method_40_code (3 : Nat) (Option.some Jvm.ClassFile.FieldType.int) ∈ wq_TB := tb_5 122 rfl rfl
theorem tw_1133 : Jvm.Cond.methodLink "WellPipesLaw" (155 : Nat) ({ cls := "WellPipesModel", name := "status", desc := "()I" } : Jvm.MethodName) ∈ wq_TB := tb_5 123 rfl rfl
theorem tw_1134 : Jvm.Cond.instanceMethod ({ cls := "WellPipesModel", name := "status", desc := "()I" } : Jvm.MethodName) ∈ wq_TB := tb_5 124 rfl rfl
theorem tw_1135 : Jvm.Cond.selects "WellPipesModel" ({ cls := "WellPipesModel", name := "status", desc := "()I" } : Jvm.MethodName) ({ cls := "WellPipesModel", name := "status", desc := "()I" } : Jvm.MethodName) ∈ wq_TB := tb_5 125 rfl rfl
theorem tw_1136 : Jvm.Cond.code ({ cls := "WellPipesModel", name := "status", desc := "()I" } : Jvm.MethodName) prog_9_method_84_code (1 : Nat) (Option.some Jvm.ClassFile.FieldType.int) ∈ wq_TB := tb_5 126 rfl rfl
theorem in_X0 : ∀ w ∈ u_ws RX0 TX0 3, w ∈ wq_TB := by
  intro w hw
  obtain ⟨k, hk, rfl⟩ := List.mem_map.mp hw
  have hk := List.mem_range.mp hk
  match k, hk with
  | 0, _ => exact tb_1 139 rfl rfl
  | 1, _ => exact tb_1 141 rfl rfl
  | 2, _ => exact tb_1 143 rfl rfl
  | k + 3, hk => omega
theorem in_X1 : ∀ w ∈ u_ws RX1 TX1 4, w ∈ wq_TB := by
  intro w hw
  obtain ⟨k, hk, rfl⟩ := List.mem_map.mp hw
  have hk := List.mem_range.mp hk
  match k, hk with
  | 0, _ => exact tb_1 158 rfl rfl
  | 1, _ => exact tb_1 160 rfl rfl
  | 2, _ => exact tb_1 162 rfl rfl
  | 3, _ => exact tb_1 164 rfl rfl
  | k + 4, hk => omega
theorem in_X2 : ∀ w ∈ u_ws RX2 TX2 6, w ∈ wq_TB := by
  intro w hw
  obtain ⟨k, hk, rfl⟩ := List.mem_map.mp hw
  have hk := List.mem_range.mp hk
  match k, hk with
  | 0, _ => exact tb_1 37 rfl rfl
  | 1, _ => exact tb_1 39 rfl rfl
  | 2, _ => exact tb_1 41 rfl rfl
  | 3, _ => exact tb_1 43 rfl rfl
  | 4, _ => exact tb_1 45 rfl rfl
  | 5, _ => exact tb_1 47 rfl rfl
  | k + 6, hk => omega
theorem in_X3 : ∀ w ∈ u_ws RX3 TX3 3, w ∈ wq_TB := by
  intro w hw
  obtain ⟨k, hk, rfl⟩ := List.mem_map.mp hw
  have hk := List.mem_range.mp hk
  match k, hk with
  | 0, _ => exact tb_1 178 rfl rfl
  | 1, _ => exact tb_1 180 rfl rfl
  | 2, _ => exact tb_1 182 rfl rfl
  | k + 3, hk => omega
theorem in_X4 : ∀ w ∈ u_ws RX4 TX4 9, w ∈ wq_TB := by
  intro w hw
  obtain ⟨k, hk, rfl⟩ := List.mem_map.mp hw
  have hk := List.mem_range.mp hk
  match k, hk with
  | 0, _ => exact tb_1 110 rfl rfl
  | 1, _ => exact tb_1 112 rfl rfl
  | 2, _ => exact tb_1 114 rfl rfl
  | 3, _ => exact tb_1 116 rfl rfl
  | 4, _ => exact tb_1 118 rfl rfl
  | 5, _ => exact tb_1 120 rfl rfl
  | 6, _ => exact tb_1 122 rfl rfl
  | 7, _ => exact tb_1 124 rfl rfl
  | 8, _ => exact tb_1 126 rfl rfl
  | k + 9, hk => omega
theorem in_X5 : ∀ w ∈ u_ws RX5 TX5 6, w ∈ wq_TB := by
  intro w hw
  obtain ⟨k, hk, rfl⟩ := List.mem_map.mp hw
  have hk := List.mem_range.mp hk
  match k, hk with
  | 0, _ => exact tb_1 78 rfl rfl
  | 1, _ => exact tb_1 80 rfl rfl
  | 2, _ => exact tb_1 82 rfl rfl
  | 3, _ => exact tb_1 84 rfl rfl
  | 4, _ => exact tb_1 86 rfl rfl
  | 5, _ => exact tb_1 88 rfl rfl
  | k + 6, hk => omega
theorem in_X6 : ∀ w ∈ u_ws RX6 TX6 9, w ∈ wq_TB := by
  intro w hw
  obtain ⟨k, hk, rfl⟩ := List.mem_map.mp hw
  have hk := List.mem_range.mp hk
  match k, hk with
  | 0, _ => exact tb_1 194 rfl rfl
  | 1, _ => exact tb_1 196 rfl rfl
  | 2, _ => exact tb_1 198 rfl rfl
  | 3, _ => exact tb_1 200 rfl rfl
  | 4, _ => exact tb_1 202 rfl rfl
  | 5, _ => exact tb_1 204 rfl rfl
  | 6, _ => exact tb_1 206 rfl rfl
  | 7, _ => exact tb_1 208 rfl rfl
  | 8, _ => exact tb_1 210 rfl rfl
  | k + 9, hk => omega
theorem in_X7 : ∀ w ∈ u_ws RX7 TX7 26, w ∈ wq_TB := by
  intro w hw
  obtain ⟨k, hk, rfl⟩ := List.mem_map.mp hw
  have hk := List.mem_range.mp hk
  match k, hk with
  | 0, _ => exact tb_3 214 rfl rfl
  | 1, _ => exact tb_3 216 rfl rfl
  | 2, _ => exact tb_3 218 rfl rfl
  | 3, _ => exact tb_3 220 rfl rfl
  | 4, _ => exact tb_3 222 rfl rfl
  | 5, _ => exact tb_3 224 rfl rfl
  | 6, _ => exact tb_3 226 rfl rfl
  | 7, _ => exact tb_3 228 rfl rfl
  | 8, _ => exact tb_3 230 rfl rfl
  | 9, _ => exact tb_3 232 rfl rfl
  | 10, _ => exact tb_3 234 rfl rfl
  | 11, _ => exact tb_3 236 rfl rfl
  | 12, _ => exact tb_3 238 rfl rfl
  | 13, _ => exact tb_4 0 rfl rfl
  | 14, _ => exact tb_4 2 rfl rfl
  | 15, _ => exact tb_4 4 rfl rfl
  | 16, _ => exact tb_4 6 rfl rfl
  | 17, _ => exact tb_4 8 rfl rfl
  | 18, _ => exact tb_4 10 rfl rfl
  | 19, _ => exact tb_4 12 rfl rfl
  | 20, _ => exact tb_4 14 rfl rfl
  | 21, _ => exact tb_4 16 rfl rfl
  | 22, _ => exact tb_4 18 rfl rfl
  | 23, _ => exact tb_4 20 rfl rfl
  | 24, _ => exact tb_4 22 rfl rfl
  | 25, _ => exact tb_4 24 rfl rfl
  | k + 26, hk => omega
