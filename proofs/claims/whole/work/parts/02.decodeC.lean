theorem dJ7_fill_53178_0 : decode cJ7_fill_53178 0 = .ok (.iconst 0, 1) := by decide +kernel
theorem dJ7_fill_53178_1 : decode cJ7_fill_53178 1 = .ok (.istore_n 2, 1) := by decide +kernel
theorem dJ7_fill_53178_2 : decode cJ7_fill_53178 2 = .ok (.aload_n 0, 1) := by decide +kernel
theorem dJ7_fill_53178_3 : decode cJ7_fill_53178 3 = .ok (.arraylength, 1) := by decide +kernel
theorem dJ7_fill_53178_4 : decode cJ7_fill_53178 4 = .ok (.istore_n 3, 1) := by decide +kernel
theorem dJ7_fill_53178_5 : decode cJ7_fill_53178 5 = .ok (.iload_n 2, 1) := by decide +kernel
theorem dJ7_fill_53178_6 : decode cJ7_fill_53178 6 = .ok (.iload_n 3, 1) := by decide +kernel
theorem dJ7_fill_53178_7 : decode cJ7_fill_53178 7 = .ok (.if_icmp .ge 13, 3) := by decide +kernel
theorem dJ7_fill_53178_10 : decode cJ7_fill_53178 10 = .ok (.aload_n 0, 1) := by decide +kernel
theorem dJ7_fill_53178_11 : decode cJ7_fill_53178 11 = .ok (.iload_n 2, 1) := by decide +kernel
theorem dJ7_fill_53178_12 : decode cJ7_fill_53178 12 = .ok (.iload_n 1, 1) := by decide +kernel
theorem dJ7_fill_53178_13 : decode cJ7_fill_53178 13 = .ok (.iastore, 1) := by decide +kernel
theorem dJ7_fill_53178_14 : decode cJ7_fill_53178 14 = .ok (.iinc 2 1, 3) := by decide +kernel
theorem dJ7_fill_53178_17 : decode cJ7_fill_53178 17 = .ok (.goto (-12), 3) := by decide +kernel
theorem dJ7_fill_53178_20 : decode cJ7_fill_53178 20 = .ok (.return_, 1) := by decide +kernel
theorem dJ9_max_7cf53_0 : decode cJ9_max_7cf53 0 = .ok (.iload_n 0, 1) := by decide +kernel
theorem dJ9_max_7cf53_1 : decode cJ9_max_7cf53 1 = .ok (.iload_n 1, 1) := by decide +kernel
theorem dJ9_max_7cf53_2 : decode cJ9_max_7cf53 2 = .ok (.if_icmp .lt 7, 3) := by decide +kernel
theorem dJ9_max_7cf53_5 : decode cJ9_max_7cf53 5 = .ok (.iload_n 0, 1) := by decide +kernel
theorem dJ9_max_7cf53_6 : decode cJ9_max_7cf53 6 = .ok (.goto 4, 3) := by decide +kernel
theorem dJ9_max_7cf53_9 : decode cJ9_max_7cf53 9 = .ok (.iload_n 1, 1) := by decide +kernel
theorem dJ9_max_7cf53_10 : decode cJ9_max_7cf53 10 = .ok (.ireturn, 1) := by decide +kernel
theorem dJ9_max_f86c9_0 : decode cJ9_max_f86c9 0 = .ok (.lload_n 0, 1) := by decide +kernel
theorem dJ9_max_f86c9_1 : decode cJ9_max_f86c9 1 = .ok (.lload_n 2, 1) := by decide +kernel
theorem dJ9_max_f86c9_2 : decode cJ9_max_f86c9 2 = .ok (.lcmp, 1) := by decide +kernel
theorem dJ9_max_f86c9_3 : decode cJ9_max_f86c9 3 = .ok (.ifCond .lt 7, 3) := by decide +kernel
theorem dJ9_max_f86c9_6 : decode cJ9_max_f86c9 6 = .ok (.lload_n 0, 1) := by decide +kernel
theorem dJ9_max_f86c9_7 : decode cJ9_max_f86c9 7 = .ok (.goto 4, 3) := by decide +kernel
theorem dJ9_max_f86c9_10 : decode cJ9_max_f86c9 10 = .ok (.lload_n 2, 1) := by decide +kernel
theorem dJ9_max_f86c9_11 : decode cJ9_max_f86c9 11 = .ok (.lreturn, 1) := by decide +kernel
theorem dJ9_min_7cf53_0 : decode cJ9_min_7cf53 0 = .ok (.iload_n 0, 1) := by decide +kernel
theorem dJ9_min_7cf53_1 : decode cJ9_min_7cf53 1 = .ok (.iload_n 1, 1) := by decide +kernel
theorem dJ9_min_7cf53_2 : decode cJ9_min_7cf53 2 = .ok (.if_icmp .gt 7, 3) := by decide +kernel
theorem dJ9_min_7cf53_5 : decode cJ9_min_7cf53 5 = .ok (.iload_n 0, 1) := by decide +kernel
theorem dJ9_min_7cf53_6 : decode cJ9_min_7cf53 6 = .ok (.goto 4, 3) := by decide +kernel
theorem dJ9_min_7cf53_9 : decode cJ9_min_7cf53 9 = .ok (.iload_n 1, 1) := by decide +kernel
theorem dJ9_min_7cf53_10 : decode cJ9_min_7cf53 10 = .ok (.ireturn, 1) := by decide +kernel
theorem dX0_init_0 : decode cX0_init 0 = .ok (.aload_n 0, 1) := by decide +kernel
theorem dX0_init_1 : decode cX0_init 1 = .ok (.invokespecial 5, 3) := by decide +kernel
theorem dX0_init_4 : decode cX0_init 4 = .ok (.aload_n 0, 1) := by decide +kernel
theorem dX0_init_5 : decode cX0_init 5 = .ok (.bipush 24, 2) := by decide +kernel
theorem dX0_init_7 : decode cX0_init 7 = .ok (.newarray .int, 2) := by decide +kernel
theorem dX0_init_9 : decode cX0_init 9 = .ok (.putfield 11, 3) := by decide +kernel
theorem dX0_init_12 : decode cX0_init 12 = .ok (.aload_n 0, 1) := by decide +kernel
theorem dX0_init_13 : decode cX0_init 13 = .ok (.bipush 24, 2) := by decide +kernel
theorem dX0_init_15 : decode cX0_init 15 = .ok (.newarray .int, 2) := by decide +kernel
theorem dX0_init_17 : decode cX0_init 17 = .ok (.putfield 15, 3) := by decide +kernel
theorem dX0_init_20 : decode cX0_init 20 = .ok (.return_, 1) := by decide +kernel
theorem dX0_keep_0 : decode cX0_keep 0 = .ok (.aload_n 0, 1) := by decide +kernel
theorem dX0_keep_1 : decode cX0_keep 1 = .ok (.getfield 18, 3) := by decide +kernel
theorem dX0_keep_4 : decode cX0_keep 4 = .ok (.bipush 24, 2) := by decide +kernel
theorem dX0_keep_6 : decode cX0_keep 6 = .ok (.if_icmp .lt 39, 3) := by decide +kernel
theorem dX0_keep_9 : decode cX0_keep 9 = .ok (.aload_n 0, 1) := by decide +kernel
theorem dX0_keep_10 : decode cX0_keep 10 = .ok (.getfield 11, 3) := by decide +kernel
theorem dX0_keep_13 : decode cX0_keep 13 = .ok (.iconst 1, 1) := by decide +kernel
theorem dX0_keep_14 : decode cX0_keep 14 = .ok (.aload_n 0, 1) := by decide +kernel
theorem dX0_keep_15 : decode cX0_keep 15 = .ok (.getfield 11, 3) := by decide +kernel
theorem dX0_keep_18 : decode cX0_keep 18 = .ok (.iconst 0, 1) := by decide +kernel
theorem dX0_keep_19 : decode cX0_keep 19 = .ok (.bipush 23, 2) := by decide +kernel
theorem dX0_keep_21 : decode cX0_keep 21 = .ok (.invokestatic 22, 3) := by decide +kernel
theorem dX0_keep_24 : decode cX0_keep 24 = .ok (.aload_n 0, 1) := by decide +kernel
theorem dX0_keep_25 : decode cX0_keep 25 = .ok (.getfield 15, 3) := by decide +kernel
theorem dX0_keep_28 : decode cX0_keep 28 = .ok (.iconst 1, 1) := by decide +kernel
theorem dX0_keep_29 : decode cX0_keep 29 = .ok (.aload_n 0, 1) := by decide +kernel
theorem dX0_keep_30 : decode cX0_keep 30 = .ok (.getfield 15, 3) := by decide +kernel
theorem dX0_keep_33 : decode cX0_keep 33 = .ok (.iconst 0, 1) := by decide +kernel
theorem dX0_keep_34 : decode cX0_keep 34 = .ok (.bipush 23, 2) := by decide +kernel
theorem dX0_keep_36 : decode cX0_keep 36 = .ok (.invokestatic 22, 3) := by decide +kernel
theorem dX0_keep_39 : decode cX0_keep 39 = .ok (.aload_n 0, 1) := by decide +kernel
theorem dX0_keep_40 : decode cX0_keep 40 = .ok (.bipush 23, 2) := by decide +kernel
theorem dX0_keep_42 : decode cX0_keep 42 = .ok (.putfield 18, 3) := by decide +kernel
theorem dX0_keep_45 : decode cX0_keep 45 = .ok (.aload_n 0, 1) := by decide +kernel
theorem dX0_keep_46 : decode cX0_keep 46 = .ok (.getfield 11, 3) := by decide +kernel
theorem dX0_keep_49 : decode cX0_keep 49 = .ok (.aload_n 0, 1) := by decide +kernel
theorem dX0_keep_50 : decode cX0_keep 50 = .ok (.getfield 18, 3) := by decide +kernel
theorem dX0_keep_53 : decode cX0_keep 53 = .ok (.iload_n 1, 1) := by decide +kernel
theorem dX0_keep_54 : decode cX0_keep 54 = .ok (.iastore, 1) := by decide +kernel
theorem dX0_keep_55 : decode cX0_keep 55 = .ok (.aload_n 0, 1) := by decide +kernel
theorem dX0_keep_56 : decode cX0_keep 56 = .ok (.getfield 15, 3) := by decide +kernel
theorem dX0_keep_59 : decode cX0_keep 59 = .ok (.aload_n 0, 1) := by decide +kernel
theorem dX0_keep_60 : decode cX0_keep 60 = .ok (.getfield 18, 3) := by decide +kernel
theorem dX0_keep_63 : decode cX0_keep 63 = .ok (.iload_n 2, 1) := by decide +kernel
theorem dX0_keep_64 : decode cX0_keep 64 = .ok (.iastore, 1) := by decide +kernel
theorem dX0_keep_65 : decode cX0_keep 65 = .ok (.aload_n 0, 1) := by decide +kernel
theorem dX0_keep_66 : decode cX0_keep 66 = .ok (.dup, 1) := by decide +kernel
theorem dX0_keep_67 : decode cX0_keep 67 = .ok (.getfield 18, 3) := by decide +kernel
theorem dX0_keep_70 : decode cX0_keep 70 = .ok (.iconst 1, 1) := by decide +kernel
theorem dX0_keep_71 : decode cX0_keep 71 = .ok (.iadd, 1) := by decide +kernel
theorem dX0_keep_72 : decode cX0_keep 72 = .ok (.putfield 18, 3) := by decide +kernel
theorem dX0_keep_75 : decode cX0_keep 75 = .ok (.return_, 1) := by decide +kernel
theorem dX0_takeBack_0 : decode cX0_takeBack 0 = .ok (.aload_n 0, 1) := by decide +kernel
theorem dX0_takeBack_1 : decode cX0_takeBack 1 = .ok (.getfield 18, 3) := by decide +kernel
theorem dX0_takeBack_4 : decode cX0_takeBack 4 = .ok (.iconst 1, 1) := by decide +kernel
theorem dX0_takeBack_5 : decode cX0_takeBack 5 = .ok (.if_icmp .ge 4, 3) := by decide +kernel
theorem dX0_takeBack_8 : decode cX0_takeBack 8 = .ok (.return_, 1) := by decide +kernel
theorem dX0_takeBack_9 : decode cX0_takeBack 9 = .ok (.aload_n 0, 1) := by decide +kernel
theorem dX0_takeBack_10 : decode cX0_takeBack 10 = .ok (.dup, 1) := by decide +kernel
theorem dX0_takeBack_11 : decode cX0_takeBack 11 = .ok (.getfield 18, 3) := by decide +kernel
theorem dX0_takeBack_14 : decode cX0_takeBack 14 = .ok (.iconst 1, 1) := by decide +kernel
theorem dX0_takeBack_15 : decode cX0_takeBack 15 = .ok (.isub, 1) := by decide +kernel
theorem dX0_takeBack_16 : decode cX0_takeBack 16 = .ok (.putfield 18, 3) := by decide +kernel
theorem dX0_takeBack_19 : decode cX0_takeBack 19 = .ok (.aload_n 0, 1) := by decide +kernel
theorem dX0_takeBack_20 : decode cX0_takeBack 20 = .ok (.getfield 11, 3) := by decide +kernel
theorem dX0_takeBack_23 : decode cX0_takeBack 23 = .ok (.aload_n 0, 1) := by decide +kernel
theorem dX0_takeBack_24 : decode cX0_takeBack 24 = .ok (.getfield 18, 3) := by decide +kernel
theorem dX0_takeBack_27 : decode cX0_takeBack 27 = .ok (.iaload, 1) := by decide +kernel
theorem dX0_takeBack_28 : decode cX0_takeBack 28 = .ok (.istore_n 2, 1) := by decide +kernel
theorem dX0_takeBack_29 : decode cX0_takeBack 29 = .ok (.iload_n 2, 1) := by decide +kernel
theorem dX0_takeBack_30 : decode cX0_takeBack 30 = .ok (.bipush 9, 2) := by decide +kernel
theorem dX0_takeBack_32 : decode cX0_takeBack 32 = .ok (.if_icmp .ne 19, 3) := by decide +kernel
theorem dX0_takeBack_35 : decode cX0_takeBack 35 = .ok (.aload_n 1, 1) := by decide +kernel
theorem dX0_takeBack_36 : decode cX0_takeBack 36 = .ok (.aload_n 0, 1) := by decide +kernel
theorem dX0_takeBack_37 : decode cX0_takeBack 37 = .ok (.getfield 15, 3) := by decide +kernel
theorem dX0_takeBack_40 : decode cX0_takeBack 40 = .ok (.aload_n 0, 1) := by decide +kernel
theorem dX0_takeBack_41 : decode cX0_takeBack 41 = .ok (.getfield 18, 3) := by decide +kernel
theorem dX0_takeBack_44 : decode cX0_takeBack 44 = .ok (.iaload, 1) := by decide +kernel
theorem dX0_takeBack_45 : decode cX0_takeBack 45 = .ok (.invokevirtual 28, 3) := by decide +kernel
theorem dX0_takeBack_48 : decode cX0_takeBack 48 = .ok (.goto 43, 3) := by decide +kernel
theorem dX0_takeBack_51 : decode cX0_takeBack 51 = .ok (.iload_n 2, 1) := by decide +kernel
theorem dX0_takeBack_52 : decode cX0_takeBack 52 = .ok (.iconst 4, 1) := by decide +kernel
theorem dX0_takeBack_53 : decode cX0_takeBack 53 = .ok (.if_icmp .lt 23, 3) := by decide +kernel
theorem dX0_takeBack_56 : decode cX0_takeBack 56 = .ok (.aload_n 1, 1) := by decide +kernel
theorem dX0_takeBack_57 : decode cX0_takeBack 57 = .ok (.iload_n 2, 1) := by decide +kernel
theorem dX0_takeBack_58 : decode cX0_takeBack 58 = .ok (.iconst 4, 1) := by decide +kernel
theorem dX0_takeBack_59 : decode cX0_takeBack 59 = .ok (.isub, 1) := by decide +kernel
theorem dX0_takeBack_60 : decode cX0_takeBack 60 = .ok (.iconst 4, 1) := by decide +kernel
theorem dX0_takeBack_61 : decode cX0_takeBack 61 = .ok (.aload_n 0, 1) := by decide +kernel
theorem dX0_takeBack_62 : decode cX0_takeBack 62 = .ok (.getfield 15, 3) := by decide +kernel
theorem dX0_takeBack_65 : decode cX0_takeBack 65 = .ok (.aload_n 0, 1) := by decide +kernel
theorem dX0_takeBack_66 : decode cX0_takeBack 66 = .ok (.getfield 18, 3) := by decide +kernel
theorem dX0_takeBack_69 : decode cX0_takeBack 69 = .ok (.iaload, 1) := by decide +kernel
theorem dX0_takeBack_70 : decode cX0_takeBack 70 = .ok (.invokevirtual 34, 3) := by decide +kernel
theorem dX0_takeBack_73 : decode cX0_takeBack 73 = .ok (.goto 18, 3) := by decide +kernel
theorem dX0_takeBack_76 : decode cX0_takeBack 76 = .ok (.aload_n 1, 1) := by decide +kernel
theorem dX0_takeBack_77 : decode cX0_takeBack 77 = .ok (.getfield 38, 3) := by decide +kernel
theorem dX0_takeBack_80 : decode cX0_takeBack 80 = .ok (.iload_n 2, 1) := by decide +kernel
theorem dX0_takeBack_81 : decode cX0_takeBack 81 = .ok (.aload_n 0, 1) := by decide +kernel
theorem dX0_takeBack_82 : decode cX0_takeBack 82 = .ok (.getfield 15, 3) := by decide +kernel
theorem dX0_takeBack_85 : decode cX0_takeBack 85 = .ok (.aload_n 0, 1) := by decide +kernel
theorem dX0_takeBack_86 : decode cX0_takeBack 86 = .ok (.getfield 18, 3) := by decide +kernel
theorem dX0_takeBack_89 : decode cX0_takeBack 89 = .ok (.iaload, 1) := by decide +kernel
theorem dX0_takeBack_90 : decode cX0_takeBack 90 = .ok (.iastore, 1) := by decide +kernel
theorem dX0_takeBack_91 : decode cX0_takeBack 91 = .ok (.return_, 1) := by decide +kernel
theorem dX0_forgetAll_0 : decode cX0_forgetAll 0 = .ok (.aload_n 0, 1) := by decide +kernel
theorem dX0_forgetAll_1 : decode cX0_forgetAll 1 = .ok (.iconst 0, 1) := by decide +kernel
theorem dX0_forgetAll_2 : decode cX0_forgetAll 2 = .ok (.putfield 18, 3) := by decide +kernel
theorem dX0_forgetAll_5 : decode cX0_forgetAll 5 = .ok (.return_, 1) := by decide +kernel
theorem dX1_init_0 : decode cX1_init 0 = .ok (.aload_n 0, 1) := by decide +kernel
theorem dX1_init_1 : decode cX1_init 1 = .ok (.invokespecial 3, 3) := by decide +kernel
theorem dX1_init_4 : decode cX1_init 4 = .ok (.aload_n 0, 1) := by decide +kernel
theorem dX1_init_5 : decode cX1_init 5 = .ok (.bipush 16, 2) := by decide +kernel
theorem dX1_init_7 : decode cX1_init 7 = .ok (.newarray .int, 2) := by decide +kernel
theorem dX1_init_9 : decode cX1_init 9 = .ok (.putfield 9, 3) := by decide +kernel
theorem dX1_init_12 : decode cX1_init 12 = .ok (.return_, 1) := by decide +kernel
theorem dX1_answer_0 : decode cX1_answer 0 = .ok (.aload_n 0, 1) := by decide +kernel
theorem dX1_answer_1 : decode cX1_answer 1 = .ok (.aload_n 1, 1) := by decide +kernel
theorem dX1_answer_2 : decode cX1_answer 2 = .ok (.putfield 15, 3) := by decide +kernel
theorem dX1_answer_5 : decode cX1_answer 5 = .ok (.aload_n 0, 1) := by decide +kernel
theorem dX1_answer_6 : decode cX1_answer 6 = .ok (.iload_n 2, 1) := by decide +kernel
theorem dX1_answer_7 : decode cX1_answer 7 = .ok (.putfield 19, 3) := by decide +kernel
theorem dX1_answer_10 : decode cX1_answer 10 = .ok (.aload_n 0, 1) := by decide +kernel
theorem dX1_answer_11 : decode cX1_answer 11 = .ok (.iconst 0, 1) := by decide +kernel
theorem dX1_answer_12 : decode cX1_answer 12 = .ok (.putfield 23, 3) := by decide +kernel
theorem dX1_answer_15 : decode cX1_answer 15 = .ok (.aload_n 0, 1) := by decide +kernel
theorem dX1_answer_16 : decode cX1_answer 16 = .ok (.aload_n 0, 1) := by decide +kernel
theorem dX1_answer_17 : decode cX1_answer 17 = .ok (.iload_n 3, 1) := by decide +kernel
theorem dX1_answer_18 : decode cX1_answer 18 = .ok (.invokevirtual 26, 3) := by decide +kernel
theorem dX1_answer_21 : decode cX1_answer 21 = .ok (.iconst 0, 1) := by decide +kernel
theorem dX1_answer_22 : decode cX1_answer 22 = .ok (.invokevirtual 30, 3) := by decide +kernel
theorem dX1_answer_25 : decode cX1_answer 25 = .ok (.ireturn, 1) := by decide +kernel
theorem dX1_bodyFor_0 : decode cX1_bodyFor 0 = .ok (.aload_n 0, 1) := by decide +kernel
theorem dX1_bodyFor_1 : decode cX1_bodyFor 1 = .ok (.getfield 15, 3) := by decide +kernel
theorem dX1_bodyFor_4 : decode cX1_bodyFor 4 = .ok (.getfield 34, 3) := by decide +kernel
theorem dX1_bodyFor_7 : decode cX1_bodyFor 7 = .ok (.aload_n 0, 1) := by decide +kernel
theorem dX1_bodyFor_8 : decode cX1_bodyFor 8 = .ok (.getfield 19, 3) := by decide +kernel
theorem dX1_bodyFor_11 : decode cX1_bodyFor 11 = .ok (.iaload, 1) := by decide +kernel
theorem dX1_bodyFor_12 : decode cX1_bodyFor 12 = .ok (.istore_n 2, 1) := by decide +kernel
theorem dX1_bodyFor_13 : decode cX1_bodyFor 13 = .ok (.iload_n 1, 1) := by decide +kernel
theorem dX1_bodyFor_14 : decode cX1_bodyFor 14 = .ok (.ifCond .ne 11, 3) := by decide +kernel
theorem dX1_bodyFor_17 : decode cX1_bodyFor 17 = .ok (.getstatic 39, 3) := by decide +kernel
theorem dX1_bodyFor_20 : decode cX1_bodyFor 20 = .ok (.iload_n 2, 1) := by decide +kernel
theorem dX1_bodyFor_21 : decode cX1_bodyFor 21 = .ok (.iaload, 1) := by decide +kernel
theorem dX1_bodyFor_22 : decode cX1_bodyFor 22 = .ok (.goto 8, 3) := by decide +kernel
theorem dX1_bodyFor_25 : decode cX1_bodyFor 25 = .ok (.getstatic 42, 3) := by decide +kernel
theorem dX1_bodyFor_28 : decode cX1_bodyFor 28 = .ok (.iload_n 2, 1) := by decide +kernel
theorem dX1_bodyFor_29 : decode cX1_bodyFor 29 = .ok (.iaload, 1) := by decide +kernel
theorem dX1_bodyFor_30 : decode cX1_bodyFor 30 = .ok (.ireturn, 1) := by decide +kernel
theorem dX1_begin_0 : decode cX1_begin 0 = .ok (.iload_n 2, 1) := by decide +kernel
theorem dX1_begin_1 : decode cX1_begin 1 = .ok (.bipush 16, 2) := by decide +kernel
theorem dX1_begin_3 : decode cX1_begin 3 = .ok (.if_icmp .le 5, 3) := by decide +kernel
theorem dX1_begin_6 : decode cX1_begin 6 = .ok (.iconst 0, 1) := by decide +kernel
theorem dX1_begin_7 : decode cX1_begin 7 = .ok (.ireturn, 1) := by decide +kernel
theorem dX1_begin_8 : decode cX1_begin 8 = .ok (.aload_n 0, 1) := by decide +kernel
theorem dX1_begin_9 : decode cX1_begin 9 = .ok (.getfield 23, 3) := by decide +kernel
theorem dX1_begin_12 : decode cX1_begin 12 = .ok (.bipush 16, 2) := by decide +kernel
theorem dX1_begin_14 : decode cX1_begin 14 = .ok (.if_icmp .ge 23, 3) := by decide +kernel
theorem dX1_begin_17 : decode cX1_begin 17 = .ok (.aload_n 0, 1) := by decide +kernel
theorem dX1_begin_18 : decode cX1_begin 18 = .ok (.getfield 9, 3) := by decide +kernel
theorem dX1_begin_21 : decode cX1_begin 21 = .ok (.aload_n 0, 1) := by decide +kernel
theorem dX1_begin_22 : decode cX1_begin 22 = .ok (.getfield 23, 3) := by decide +kernel
theorem dX1_begin_25 : decode cX1_begin 25 = .ok (.iload_n 1, 1) := by decide +kernel
theorem dX1_begin_26 : decode cX1_begin 26 = .ok (.iastore, 1) := by decide +kernel
theorem dX1_begin_27 : decode cX1_begin 27 = .ok (.aload_n 0, 1) := by decide +kernel
theorem dX1_begin_28 : decode cX1_begin 28 = .ok (.dup, 1) := by decide +kernel
theorem dX1_begin_29 : decode cX1_begin 29 = .ok (.getfield 23, 3) := by decide +kernel
theorem dX1_begin_32 : decode cX1_begin 32 = .ok (.iconst 1, 1) := by decide +kernel
theorem dX1_begin_33 : decode cX1_begin 33 = .ok (.iadd, 1) := by decide +kernel
theorem dX1_begin_34 : decode cX1_begin 34 = .ok (.putfield 23, 3) := by decide +kernel
theorem dX1_begin_37 : decode cX1_begin 37 = .ok (.iload_n 2, 1) := by decide +kernel
theorem dX1_begin_38 : decode cX1_begin 38 = .ok (.iconst 1, 1) := by decide +kernel
theorem dX1_begin_39 : decode cX1_begin 39 = .ok (.iadd, 1) := by decide +kernel
theorem dX1_begin_40 : decode cX1_begin 40 = .ok (.istore_n 3, 1) := by decide +kernel
theorem dX1_begin_41 : decode cX1_begin 41 = .ok (.iload_n 1, 1) := by decide +kernel
theorem dX1_begin_42 : decode cX1_begin 42 = .ok (.tableswitch 203 10 24 #[74, 87, 106, 115, 126, 203, 203, 203, 203, 203, 136, 141, 162, 174, 193], 74) := by decide +kernel
theorem dX1_begin_116 : decode cX1_begin 116 = .ok (.aload_n 0, 1) := by decide +kernel
theorem dX1_begin_117 : decode cX1_begin 117 = .ok (.getfield 15, 3) := by decide +kernel
theorem dX1_begin_120 : decode cX1_begin 120 = .ok (.aload_n 0, 1) := by decide +kernel
theorem dX1_begin_121 : decode cX1_begin 121 = .ok (.getfield 19, 3) := by decide +kernel
theorem dX1_begin_124 : decode cX1_begin 124 = .ok (.iconst 4, 1) := by decide +kernel
theorem dX1_begin_125 : decode cX1_begin 125 = .ok (.invokevirtual 45, 3) := by decide +kernel
theorem dX1_begin_128 : decode cX1_begin 128 = .ok (.ireturn, 1) := by decide +kernel
theorem dX1_begin_129 : decode cX1_begin 129 = .ok (.aload_n 0, 1) := by decide +kernel
theorem dX1_begin_130 : decode cX1_begin 130 = .ok (.bipush 10, 2) := by decide +kernel
theorem dX1_begin_132 : decode cX1_begin 132 = .ok (.iload_n 3, 1) := by decide +kernel
theorem dX1_begin_133 : decode cX1_begin 133 = .ok (.invokevirtual 30, 3) := by decide +kernel
theorem dX1_begin_136 : decode cX1_begin 136 = .ok (.aload_n 0, 1) := by decide +kernel
theorem dX1_begin_137 : decode cX1_begin 137 = .ok (.aload_n 0, 1) := by decide +kernel
theorem dX1_begin_138 : decode cX1_begin 138 = .ok (.iconst 1, 1) := by decide +kernel
theorem dX1_begin_139 : decode cX1_begin 139 = .ok (.invokevirtual 26, 3) := by decide +kernel
theorem dX1_begin_142 : decode cX1_begin 142 = .ok (.iload_n 3, 1) := by decide +kernel
theorem dX1_begin_143 : decode cX1_begin 143 = .ok (.invokevirtual 30, 3) := by decide +kernel
theorem dX1_begin_146 : decode cX1_begin 146 = .ok (.iadd, 1) := by decide +kernel
theorem dX1_begin_147 : decode cX1_begin 147 = .ok (.ireturn, 1) := by decide +kernel
theorem dX1_begin_148 : decode cX1_begin 148 = .ok (.aload_n 0, 1) := by decide +kernel
theorem dX1_begin_149 : decode cX1_begin 149 = .ok (.bipush 11, 2) := by decide +kernel
theorem dX1_begin_151 : decode cX1_begin 151 = .ok (.iload_n 3, 1) := by decide +kernel
theorem dX1_begin_152 : decode cX1_begin 152 = .ok (.invokevirtual 30, 3) := by decide +kernel
theorem dX1_begin_155 : decode cX1_begin 155 = .ok (.ineg, 1) := by decide +kernel
theorem dX1_begin_156 : decode cX1_begin 156 = .ok (.ireturn, 1) := by decide +kernel
theorem dX1_begin_157 : decode cX1_begin 157 = .ok (.aload_n 0, 1) := by decide +kernel
theorem dX1_begin_158 : decode cX1_begin 158 = .ok (.bipush 10, 2) := by decide +kernel
theorem dX1_begin_160 : decode cX1_begin 160 = .ok (.iload_n 3, 1) := by decide +kernel
theorem dX1_begin_161 : decode cX1_begin 161 = .ok (.invokevirtual 30, 3) := by decide +kernel
theorem dX1_begin_164 : decode cX1_begin 164 = .ok (.bipush 100, 2) := by decide +kernel
theorem dX1_begin_166 : decode cX1_begin 166 = .ok (.isub, 1) := by decide +kernel
theorem dX1_begin_167 : decode cX1_begin 167 = .ok (.ireturn, 1) := by decide +kernel
theorem dX1_begin_168 : decode cX1_begin 168 = .ok (.aload_n 0, 1) := by decide +kernel
theorem dX1_begin_169 : decode cX1_begin 169 = .ok (.bipush 13, 2) := by decide +kernel
theorem dX1_begin_171 : decode cX1_begin 171 = .ok (.iload_n 3, 1) := by decide +kernel
theorem dX1_begin_172 : decode cX1_begin 172 = .ok (.invokevirtual 30, 3) := by decide +kernel
theorem dX1_begin_175 : decode cX1_begin 175 = .ok (.iconst 2, 1) := by decide +kernel
theorem dX1_begin_176 : decode cX1_begin 176 = .ok (.imul, 1) := by decide +kernel
theorem dX1_begin_177 : decode cX1_begin 177 = .ok (.ireturn, 1) := by decide +kernel
theorem dX1_begin_178 : decode cX1_begin 178 = .ok (.aload_n 0, 1) := by decide +kernel
theorem dX1_begin_179 : decode cX1_begin 179 = .ok (.getfield 19, 3) := by decide +kernel
theorem dX1_begin_182 : decode cX1_begin 182 = .ok (.ireturn, 1) := by decide +kernel
theorem dX1_begin_183 : decode cX1_begin 183 = .ok (.aload_n 0, 1) := by decide +kernel
theorem dX1_begin_184 : decode cX1_begin 184 = .ok (.bipush 20, 2) := by decide +kernel
theorem dX1_begin_186 : decode cX1_begin 186 = .ok (.iload_n 3, 1) := by decide +kernel
theorem dX1_begin_187 : decode cX1_begin 187 = .ok (.invokevirtual 30, 3) := by decide +kernel
theorem dX1_begin_190 : decode cX1_begin 190 = .ok (.aload_n 0, 1) := by decide +kernel
theorem dX1_begin_191 : decode cX1_begin 191 = .ok (.getfield 15, 3) := by decide +kernel
theorem dX1_begin_194 : decode cX1_begin 194 = .ok (.aload_n 0, 1) := by decide +kernel
theorem dX1_begin_195 : decode cX1_begin 195 = .ok (.getfield 19, 3) := by decide +kernel
theorem dX1_begin_198 : decode cX1_begin 198 = .ok (.iconst 3, 1) := by decide +kernel
theorem dX1_begin_199 : decode cX1_begin 199 = .ok (.invokevirtual 45, 3) := by decide +kernel
theorem dX1_begin_202 : decode cX1_begin 202 = .ok (.iadd, 1) := by decide +kernel
theorem dX1_begin_203 : decode cX1_begin 203 = .ok (.ireturn, 1) := by decide +kernel
theorem dX1_begin_204 : decode cX1_begin 204 = .ok (.aload_n 0, 1) := by decide +kernel
theorem dX1_begin_205 : decode cX1_begin 205 = .ok (.bipush 21, 2) := by decide +kernel
theorem dX1_begin_207 : decode cX1_begin 207 = .ok (.iload_n 3, 1) := by decide +kernel
theorem dX1_begin_208 : decode cX1_begin 208 = .ok (.invokevirtual 30, 3) := by decide +kernel
theorem dX1_begin_211 : decode cX1_begin 211 = .ok (.sipush 1000, 3) := by decide +kernel
theorem dX1_begin_214 : decode cX1_begin 214 = .ok (.isub, 1) := by decide +kernel
theorem dX1_begin_215 : decode cX1_begin 215 = .ok (.ireturn, 1) := by decide +kernel
theorem dX1_begin_216 : decode cX1_begin 216 = .ok (.aload_n 0, 1) := by decide +kernel
theorem dX1_begin_217 : decode cX1_begin 217 = .ok (.bipush 20, 2) := by decide +kernel
theorem dX1_begin_219 : decode cX1_begin 219 = .ok (.iload_n 3, 1) := by decide +kernel
theorem dX1_begin_220 : decode cX1_begin 220 = .ok (.invokevirtual 30, 3) := by decide +kernel
theorem dX1_begin_223 : decode cX1_begin 223 = .ok (.aload_n 0, 1) := by decide +kernel
theorem dX1_begin_224 : decode cX1_begin 224 = .ok (.aload_n 0, 1) := by decide +kernel
theorem dX1_begin_225 : decode cX1_begin 225 = .ok (.iconst 0, 1) := by decide +kernel
theorem dX1_begin_226 : decode cX1_begin 226 = .ok (.invokevirtual 26, 3) := by decide +kernel
theorem dX1_begin_229 : decode cX1_begin 229 = .ok (.iload_n 3, 1) := by decide +kernel
theorem dX1_begin_230 : decode cX1_begin 230 = .ok (.invokevirtual 30, 3) := by decide +kernel
theorem dX1_begin_233 : decode cX1_begin 233 = .ok (.isub, 1) := by decide +kernel
theorem dX1_begin_234 : decode cX1_begin 234 = .ok (.ireturn, 1) := by decide +kernel
theorem dX1_begin_235 : decode cX1_begin 235 = .ok (.aload_n 0, 1) := by decide +kernel
theorem dX1_begin_236 : decode cX1_begin 236 = .ok (.bipush 21, 2) := by decide +kernel
theorem dX1_begin_238 : decode cX1_begin 238 = .ok (.iload_n 3, 1) := by decide +kernel
theorem dX1_begin_239 : decode cX1_begin 239 = .ok (.invokevirtual 30, 3) := by decide +kernel
theorem dX1_begin_242 : decode cX1_begin 242 = .ok (.iconst 2, 1) := by decide +kernel
theorem dX1_begin_243 : decode cX1_begin 243 = .ok (.imul, 1) := by decide +kernel
theorem dX1_begin_244 : decode cX1_begin 244 = .ok (.ireturn, 1) := by decide +kernel
theorem dX1_begin_245 : decode cX1_begin 245 = .ok (.iconst 0, 1) := by decide +kernel
theorem dX1_begin_246 : decode cX1_begin 246 = .ok (.ireturn, 1) := by decide +kernel
theorem dX2_init_0 : decode cX2_init 0 = .ok (.aload_n 0, 1) := by decide +kernel
theorem dX2_init_1 : decode cX2_init 1 = .ok (.invokespecial 3, 3) := by decide +kernel
theorem dX2_init_4 : decode cX2_init 4 = .ok (.aload_n 0, 1) := by decide +kernel
theorem dX2_init_5 : decode cX2_init 5 = .ok (.sipush 130, 3) := by decide +kernel
theorem dX2_init_8 : decode cX2_init 8 = .ok (.newarray .int, 2) := by decide +kernel
theorem dX2_init_10 : decode cX2_init 10 = .ok (.putfield 9, 3) := by decide +kernel
theorem dX2_init_13 : decode cX2_init 13 = .ok (.return_, 1) := by decide +kernel
theorem dX2_take_0 : decode cX2_take 0 = .ok (.aload_n 0, 1) := by decide +kernel
theorem dX2_take_1 : decode cX2_take 1 = .ok (.getfield 15, 3) := by decide +kernel
theorem dX2_take_4 : decode cX2_take 4 = .ok (.sipush 130, 3) := by decide +kernel
theorem dX2_take_7 : decode cX2_take 7 = .ok (.if_icmp .lt 5, 3) := by decide +kernel
theorem dX2_take_10 : decode cX2_take 10 = .ok (.iconst 0, 1) := by decide +kernel
theorem dX2_take_11 : decode cX2_take 11 = .ok (.ireturn, 1) := by decide +kernel
theorem dX2_take_12 : decode cX2_take 12 = .ok (.aload_n 0, 1) := by decide +kernel
theorem dX2_take_13 : decode cX2_take 13 = .ok (.getfield 9, 3) := by decide +kernel
theorem dX2_take_16 : decode cX2_take 16 = .ok (.aload_n 0, 1) := by decide +kernel
theorem dX2_take_17 : decode cX2_take 17 = .ok (.getfield 15, 3) := by decide +kernel
theorem dX2_take_20 : decode cX2_take 20 = .ok (.iload_n 1, 1) := by decide +kernel
theorem dX2_take_21 : decode cX2_take 21 = .ok (.iastore, 1) := by decide +kernel
theorem dX2_take_22 : decode cX2_take 22 = .ok (.aload_n 0, 1) := by decide +kernel
theorem dX2_take_23 : decode cX2_take 23 = .ok (.dup, 1) := by decide +kernel
theorem dX2_take_24 : decode cX2_take 24 = .ok (.getfield 15, 3) := by decide +kernel
theorem dX2_take_27 : decode cX2_take 27 = .ok (.iconst 1, 1) := by decide +kernel
theorem dX2_take_28 : decode cX2_take 28 = .ok (.iadd, 1) := by decide +kernel
theorem dX2_take_29 : decode cX2_take 29 = .ok (.putfield 15, 3) := by decide +kernel
theorem dX2_take_32 : decode cX2_take 32 = .ok (.iconst 1, 1) := by decide +kernel
theorem dX2_take_33 : decode cX2_take 33 = .ok (.ireturn, 1) := by decide +kernel
theorem dX2_read_0 : decode cX2_read 0 = .ok (.aload_n 0, 1) := by decide +kernel
theorem dX2_read_1 : decode cX2_read 1 = .ok (.iconst 0, 1) := by decide +kernel
theorem dX2_read_2 : decode cX2_read 2 = .ok (.putfield 19, 3) := by decide +kernel
theorem dX2_read_5 : decode cX2_read 5 = .ok (.aload_n 0, 1) := by decide +kernel
theorem dX2_read_6 : decode cX2_read 6 = .ok (.iconst 0, 1) := by decide +kernel
theorem dX2_read_7 : decode cX2_read 7 = .ok (.putfield 22, 3) := by decide +kernel
theorem dX2_read_10 : decode cX2_read 10 = .ok (.aload_n 0, 1) := by decide +kernel
theorem dX2_read_11 : decode cX2_read 11 = .ok (.aload_n 1, 1) := by decide +kernel
theorem dX2_read_12 : decode cX2_read 12 = .ok (.invokevirtual 26, 3) := by decide +kernel
theorem dX2_read_15 : decode cX2_read 15 = .ok (.aload_n 0, 1) := by decide +kernel
theorem dX2_read_16 : decode cX2_read 16 = .ok (.aload_n 1, 1) := by decide +kernel
theorem dX2_read_17 : decode cX2_read 17 = .ok (.invokevirtual 30, 3) := by decide +kernel
theorem dX2_read_20 : decode cX2_read 20 = .ok (.aload_n 1, 1) := by decide +kernel
theorem dX2_read_21 : decode cX2_read 21 = .ok (.iconst 0, 1) := by decide +kernel
theorem dX2_read_22 : decode cX2_read 22 = .ok (.putfield 33, 3) := by decide +kernel
theorem dX2_read_25 : decode cX2_read 25 = .ok (.iconst 0, 1) := by decide +kernel
theorem dX2_read_26 : decode cX2_read 26 = .ok (.istore_n 2, 1) := by decide +kernel
theorem dX2_read_27 : decode cX2_read 27 = .ok (.iload_n 2, 1) := by decide +kernel
theorem dX2_read_28 : decode cX2_read 28 = .ok (.iconst 5, 1) := by decide +kernel
theorem dX2_read_29 : decode cX2_read 29 = .ok (.if_icmp .gt 37, 3) := by decide +kernel
theorem dX2_read_32 : decode cX2_read 32 = .ok (.aload_n 0, 1) := by decide +kernel
theorem dX2_read_33 : decode cX2_read 33 = .ok (.getfield 22, 3) := by decide +kernel
theorem dX2_read_36 : decode cX2_read 36 = .ok (.ifCond .ne 30, 3) := by decide +kernel
theorem dX2_read_39 : decode cX2_read 39 = .ok (.iload_n 2, 1) := by decide +kernel
theorem dX2_read_40 : decode cX2_read 40 = .ok (.ifCond .eq 14, 3) := by decide +kernel
theorem dX2_read_43 : decode cX2_read 43 = .ok (.aload_n 0, 1) := by decide +kernel
theorem dX2_read_44 : decode cX2_read 44 = .ok (.getfield 19, 3) := by decide +kernel
theorem dX2_read_47 : decode cX2_read 47 = .ok (.aload_n 0, 1) := by decide +kernel
theorem dX2_read_48 : decode cX2_read 48 = .ok (.getfield 15, 3) := by decide +kernel
theorem dX2_read_51 : decode cX2_read 51 = .ok (.if_icmp .ge 15, 3) := by decide +kernel
theorem dX2_read_54 : decode cX2_read 54 = .ok (.aload_n 0, 1) := by decide +kernel
theorem dX2_read_55 : decode cX2_read 55 = .ok (.aload_n 1, 1) := by decide +kernel
theorem dX2_read_56 : decode cX2_read 56 = .ok (.iload_n 2, 1) := by decide +kernel
theorem dX2_read_57 : decode cX2_read 57 = .ok (.invokevirtual 38, 3) := by decide +kernel
theorem dX2_read_60 : decode cX2_read 60 = .ok (.iinc 2 1, 3) := by decide +kernel
theorem dX2_read_63 : decode cX2_read 63 = .ok (.goto (-36), 3) := by decide +kernel
theorem dX2_read_66 : decode cX2_read 66 = .ok (.aload_n 1, 1) := by decide +kernel
theorem dX2_read_67 : decode cX2_read 67 = .ok (.getfield 42, 3) := by decide +kernel
theorem dX2_read_70 : decode cX2_read 70 = .ok (.iconst (-1), 1) := by decide +kernel
theorem dX2_read_71 : decode cX2_read 71 = .ok (.invokestatic 45, 3) := by decide +kernel
theorem dX2_read_74 : decode cX2_read 74 = .ok (.aload_n 0, 1) := by decide +kernel
theorem dX2_read_75 : decode cX2_read 75 = .ok (.iconst 0, 1) := by decide +kernel
theorem dX2_read_76 : decode cX2_read 76 = .ok (.putfield 15, 3) := by decide +kernel
theorem dX2_read_79 : decode cX2_read 79 = .ok (.aload_n 0, 1) := by decide +kernel
theorem dX2_read_80 : decode cX2_read 80 = .ok (.getfield 22, 3) := by decide +kernel
theorem dX2_read_83 : decode cX2_read 83 = .ok (.ifCond .ne 7, 3) := by decide +kernel
theorem dX2_read_86 : decode cX2_read 86 = .ok (.iconst 1, 1) := by decide +kernel
theorem dX2_read_87 : decode cX2_read 87 = .ok (.goto 4, 3) := by decide +kernel
theorem dX2_read_90 : decode cX2_read 90 = .ok (.iconst 0, 1) := by decide +kernel
theorem dX2_read_91 : decode cX2_read 91 = .ok (.ireturn, 1) := by decide +kernel
theorem dX2_readLaw_0 : decode cX2_readLaw 0 = .ok (.aload_n 0, 1) := by decide +kernel
theorem dX2_readLaw_1 : decode cX2_readLaw 1 = .ok (.bipush 119, 2) := by decide +kernel
theorem dX2_readLaw_3 : decode cX2_readLaw 3 = .ok (.invokevirtual 51, 3) := by decide +kernel
theorem dX2_readLaw_6 : decode cX2_readLaw 6 = .ok (.aload_n 1, 1) := by decide +kernel
theorem dX2_readLaw_7 : decode cX2_readLaw 7 = .ok (.aload_n 0, 1) := by decide +kernel
theorem dX2_readLaw_8 : decode cX2_readLaw 8 = .ok (.iconst 2, 1) := by decide +kernel
theorem dX2_readLaw_9 : decode cX2_readLaw 9 = .ok (.bipush 8, 2) := by decide +kernel
theorem dX2_readLaw_11 : decode cX2_readLaw 11 = .ok (.invokevirtual 55, 3) := by decide +kernel
theorem dX2_readLaw_14 : decode cX2_readLaw 14 = .ok (.putfield 59, 3) := by decide +kernel
theorem dX2_readLaw_17 : decode cX2_readLaw 17 = .ok (.aload_n 0, 1) := by decide +kernel
theorem dX2_readLaw_18 : decode cX2_readLaw 18 = .ok (.bipush 44, 2) := by decide +kernel
theorem dX2_readLaw_20 : decode cX2_readLaw 20 = .ok (.invokevirtual 51, 3) := by decide +kernel
theorem dX2_readLaw_23 : decode cX2_readLaw 23 = .ok (.aload_n 1, 1) := by decide +kernel
theorem dX2_readLaw_24 : decode cX2_readLaw 24 = .ok (.getfield 62, 3) := by decide +kernel
theorem dX2_readLaw_27 : decode cX2_readLaw 27 = .ok (.iconst 3, 1) := by decide +kernel
theorem dX2_readLaw_28 : decode cX2_readLaw 28 = .ok (.aload_n 0, 1) := by decide +kernel
theorem dX2_readLaw_29 : decode cX2_readLaw 29 = .ok (.iconst 3, 1) := by decide +kernel
theorem dX2_readLaw_30 : decode cX2_readLaw 30 = .ok (.invokevirtual 65, 3) := by decide +kernel
theorem dX2_readLaw_33 : decode cX2_readLaw 33 = .ok (.iastore, 1) := by decide +kernel
theorem dX2_readLaw_34 : decode cX2_readLaw 34 = .ok (.aload_n 0, 1) := by decide +kernel
theorem dX2_readLaw_35 : decode cX2_readLaw 35 = .ok (.bipush 44, 2) := by decide +kernel
theorem dX2_readLaw_37 : decode cX2_readLaw 37 = .ok (.invokevirtual 51, 3) := by decide +kernel
theorem dX2_readLaw_40 : decode cX2_readLaw 40 = .ok (.aload_n 1, 1) := by decide +kernel
theorem dX2_readLaw_41 : decode cX2_readLaw 41 = .ok (.getfield 62, 3) := by decide +kernel
theorem dX2_readLaw_44 : decode cX2_readLaw 44 = .ok (.iconst 0, 1) := by decide +kernel
theorem dX2_readLaw_45 : decode cX2_readLaw 45 = .ok (.aload_n 0, 1) := by decide +kernel
theorem dX2_readLaw_46 : decode cX2_readLaw 46 = .ok (.iconst 0, 1) := by decide +kernel
theorem dX2_readLaw_47 : decode cX2_readLaw 47 = .ok (.invokevirtual 65, 3) := by decide +kernel
theorem dX2_readLaw_50 : decode cX2_readLaw 50 = .ok (.iastore, 1) := by decide +kernel
theorem dX2_readLaw_51 : decode cX2_readLaw 51 = .ok (.aload_n 0, 1) := by decide +kernel
theorem dX2_readLaw_52 : decode cX2_readLaw 52 = .ok (.bipush 59, 2) := by decide +kernel
theorem dX2_readLaw_54 : decode cX2_readLaw 54 = .ok (.invokevirtual 51, 3) := by decide +kernel
theorem dX2_readLaw_57 : decode cX2_readLaw 57 = .ok (.return_, 1) := by decide +kernel
theorem dX2_readGas_0 : decode cX2_readGas 0 = .ok (.aload_n 0, 1) := by decide +kernel
theorem dX2_readGas_1 : decode cX2_readGas 1 = .ok (.bipush 103, 2) := by decide +kernel
theorem dX2_readGas_3 : decode cX2_readGas 3 = .ok (.invokevirtual 51, 3) := by decide +kernel
theorem dX2_readGas_6 : decode cX2_readGas 6 = .ok (.aload_n 1, 1) := by decide +kernel
theorem dX2_readGas_7 : decode cX2_readGas 7 = .ok (.getfield 62, 3) := by decide +kernel
theorem dX2_readGas_10 : decode cX2_readGas 10 = .ok (.iconst 1, 1) := by decide +kernel
theorem dX2_readGas_11 : decode cX2_readGas 11 = .ok (.aload_n 0, 1) := by decide +kernel
theorem dX2_readGas_12 : decode cX2_readGas 12 = .ok (.iconst 1, 1) := by decide +kernel
theorem dX2_readGas_13 : decode cX2_readGas 13 = .ok (.invokevirtual 65, 3) := by decide +kernel
theorem dX2_readGas_16 : decode cX2_readGas 16 = .ok (.iastore, 1) := by decide +kernel
theorem dX2_readGas_17 : decode cX2_readGas 17 = .ok (.aload_n 0, 1) := by decide +kernel
theorem dX2_readGas_18 : decode cX2_readGas 18 = .ok (.bipush 44, 2) := by decide +kernel
theorem dX2_readGas_20 : decode cX2_readGas 20 = .ok (.invokevirtual 51, 3) := by decide +kernel
theorem dX2_readGas_23 : decode cX2_readGas 23 = .ok (.aload_n 1, 1) := by decide +kernel
theorem dX2_readGas_24 : decode cX2_readGas 24 = .ok (.getfield 62, 3) := by decide +kernel
theorem dX2_readGas_27 : decode cX2_readGas 27 = .ok (.iconst 2, 1) := by decide +kernel
theorem dX2_readGas_28 : decode cX2_readGas 28 = .ok (.aload_n 0, 1) := by decide +kernel
theorem dX2_readGas_29 : decode cX2_readGas 29 = .ok (.iconst 2, 1) := by decide +kernel
theorem dX2_readGas_30 : decode cX2_readGas 30 = .ok (.invokevirtual 65, 3) := by decide +kernel
theorem dX2_readGas_33 : decode cX2_readGas 33 = .ok (.iastore, 1) := by decide +kernel
theorem dX2_readGas_34 : decode cX2_readGas 34 = .ok (.aload_n 0, 1) := by decide +kernel
theorem dX2_readGas_35 : decode cX2_readGas 35 = .ok (.bipush 59, 2) := by decide +kernel
theorem dX2_readGas_37 : decode cX2_readGas 37 = .ok (.invokevirtual 51, 3) := by decide +kernel
theorem dX2_readGas_40 : decode cX2_readGas 40 = .ok (.return_, 1) := by decide +kernel
theorem dX2_readGrade_0 : decode cX2_readGrade 0 = .ok (.aload_n 0, 1) := by decide +kernel
theorem dX2_readGrade_1 : decode cX2_readGrade 1 = .ok (.invokevirtual 69, 3) := by decide +kernel
theorem dX2_readGrade_4 : decode cX2_readGrade 4 = .ok (.istore_n 3, 1) := by decide +kernel
theorem dX2_readGrade_5 : decode cX2_readGrade 5 = .ok (.iload_n 3, 1) := by decide +kernel
theorem dX2_readGrade_6 : decode cX2_readGrade 6 = .ok (.ifCond .ne 11, 3) := by decide +kernel
theorem dX2_readGrade_9 : decode cX2_readGrade 9 = .ok (.aload_n 0, 1) := by decide +kernel
theorem dX2_readGrade_10 : decode cX2_readGrade 10 = .ok (.iconst 1, 1) := by decide +kernel
theorem dX2_readGrade_11 : decode cX2_readGrade 11 = .ok (.invokevirtual 73, 3) := by decide +kernel
theorem dX2_readGrade_14 : decode cX2_readGrade 14 = .ok (.goto 13, 3) := by decide +kernel
theorem dX2_readGrade_17 : decode cX2_readGrade 17 = .ok (.iload_n 2, 1) := by decide +kernel
theorem dX2_readGrade_18 : decode cX2_readGrade 18 = .ok (.iconst 5, 1) := by decide +kernel
theorem dX2_readGrade_19 : decode cX2_readGrade 19 = .ok (.if_icmp .lt 8, 3) := by decide +kernel
theorem dX2_readGrade_22 : decode cX2_readGrade 22 = .ok (.aload_n 0, 1) := by decide +kernel
theorem dX2_readGrade_23 : decode cX2_readGrade 23 = .ok (.iconst 3, 1) := by decide +kernel
theorem dX2_readGrade_24 : decode cX2_readGrade 24 = .ok (.invokevirtual 73, 3) := by decide +kernel
theorem dX2_readGrade_27 : decode cX2_readGrade 27 = .ok (.aload_n 0, 1) := by decide +kernel
theorem dX2_readGrade_28 : decode cX2_readGrade 28 = .ok (.getfield 22, 3) := by decide +kernel
theorem dX2_readGrade_31 : decode cX2_readGrade 31 = .ok (.ifCond .eq 4, 3) := by decide +kernel
theorem dX2_readGrade_34 : decode cX2_readGrade 34 = .ok (.return_, 1) := by decide +kernel
theorem dX2_readGrade_35 : decode cX2_readGrade 35 = .ok (.aload_n 1, 1) := by decide +kernel
theorem dX2_readGrade_36 : decode cX2_readGrade 36 = .ok (.getfield 77, 3) := by decide +kernel
theorem dX2_readGrade_39 : decode cX2_readGrade 39 = .ok (.iload_n 2, 1) := by decide +kernel
theorem dX2_readGrade_40 : decode cX2_readGrade 40 = .ok (.iload_n 3, 1) := by decide +kernel
theorem dX2_readGrade_41 : decode cX2_readGrade 41 = .ok (.iastore, 1) := by decide +kernel
theorem dX2_readGrade_42 : decode cX2_readGrade 42 = .ok (.aload_n 1, 1) := by decide +kernel
theorem dX2_readGrade_43 : decode cX2_readGrade 43 = .ok (.iload_n 2, 1) := by decide +kernel
theorem dX2_readGrade_44 : decode cX2_readGrade 44 = .ok (.iconst 1, 1) := by decide +kernel
theorem dX2_readGrade_45 : decode cX2_readGrade 45 = .ok (.iadd, 1) := by decide +kernel
theorem dX2_readGrade_46 : decode cX2_readGrade 46 = .ok (.putfield 33, 3) := by decide +kernel
theorem dX2_readGrade_49 : decode cX2_readGrade 49 = .ok (.aload_n 0, 1) := by decide +kernel
theorem dX2_readGrade_50 : decode cX2_readGrade 50 = .ok (.dup, 1) := by decide +kernel
theorem dX2_readGrade_51 : decode cX2_readGrade 51 = .ok (.getfield 19, 3) := by decide +kernel
theorem dX2_readGrade_54 : decode cX2_readGrade 54 = .ok (.iconst 1, 1) := by decide +kernel
theorem dX2_readGrade_55 : decode cX2_readGrade 55 = .ok (.iadd, 1) := by decide +kernel
theorem dX2_readGrade_56 : decode cX2_readGrade 56 = .ok (.putfield 19, 3) := by decide +kernel
theorem dX2_readGrade_59 : decode cX2_readGrade 59 = .ok (.iconst 0, 1) := by decide +kernel
theorem dX2_readGrade_60 : decode cX2_readGrade 60 = .ok (.istore 4, 2) := by decide +kernel
theorem dX2_readGrade_62 : decode cX2_readGrade 62 = .ok (.iload 4, 2) := by decide +kernel
theorem dX2_readGrade_64 : decode cX2_readGrade 64 = .ok (.iconst 5, 1) := by decide +kernel
theorem dX2_readGrade_65 : decode cX2_readGrade 65 = .ok (.if_icmp .ge 44, 3) := by decide +kernel
theorem dX2_readGrade_68 : decode cX2_readGrade 68 = .ok (.aload_n 1, 1) := by decide +kernel
theorem dX2_readGrade_69 : decode cX2_readGrade 69 = .ok (.iload_n 2, 1) := by decide +kernel
theorem dX2_readGrade_70 : decode cX2_readGrade 70 = .ok (.iload 4, 2) := by decide +kernel
theorem dX2_readGrade_72 : decode cX2_readGrade 72 = .ok (.aload_n 0, 1) := by decide +kernel
theorem dX2_readGrade_73 : decode cX2_readGrade 73 = .ok (.iconst 1, 1) := by decide +kernel
theorem dX2_readGrade_74 : decode cX2_readGrade 74 = .ok (.getstatic 80, 3) := by decide +kernel
theorem dX2_readGrade_77 : decode cX2_readGrade 77 = .ok (.iload 4, 2) := by decide +kernel
theorem dX2_readGrade_79 : decode cX2_readGrade 79 = .ok (.iaload, 1) := by decide +kernel
theorem dX2_readGrade_80 : decode cX2_readGrade 80 = .ok (.invokevirtual 55, 3) := by decide +kernel
theorem dX2_readGrade_83 : decode cX2_readGrade 83 = .ok (.invokevirtual 83, 3) := by decide +kernel
theorem dX2_readGrade_86 : decode cX2_readGrade 86 = .ok (.aload_n 0, 1) := by decide +kernel
theorem dX2_readGrade_87 : decode cX2_readGrade 87 = .ok (.iload 4, 2) := by decide +kernel
theorem dX2_readGrade_89 : decode cX2_readGrade 89 = .ok (.iconst 4, 1) := by decide +kernel
theorem dX2_readGrade_90 : decode cX2_readGrade 90 = .ok (.if_icmp .ne 8, 3) := by decide +kernel
theorem dX2_readGrade_93 : decode cX2_readGrade 93 = .ok (.bipush 59, 2) := by decide +kernel
theorem dX2_readGrade_95 : decode cX2_readGrade 95 = .ok (.goto 5, 3) := by decide +kernel
theorem dX2_readGrade_98 : decode cX2_readGrade 98 = .ok (.bipush 44, 2) := by decide +kernel
theorem dX2_readGrade_100 : decode cX2_readGrade 100 = .ok (.invokevirtual 51, 3) := by decide +kernel
theorem dX2_readGrade_103 : decode cX2_readGrade 103 = .ok (.iinc 4 1, 3) := by decide +kernel
theorem dX2_readGrade_106 : decode cX2_readGrade 106 = .ok (.goto (-44), 3) := by decide +kernel
theorem dX2_readGrade_109 : decode cX2_readGrade 109 = .ok (.return_, 1) := by decide +kernel
theorem dX2_kindAtHand_0 : decode cX2_kindAtHand 0 = .ok (.aload_n 0, 1) := by decide +kernel
theorem dX2_kindAtHand_1 : decode cX2_kindAtHand 1 = .ok (.getfield 19, 3) := by decide +kernel
theorem dX2_kindAtHand_4 : decode cX2_kindAtHand 4 = .ok (.aload_n 0, 1) := by decide +kernel
theorem dX2_kindAtHand_5 : decode cX2_kindAtHand 5 = .ok (.getfield 15, 3) := by decide +kernel
theorem dX2_kindAtHand_8 : decode cX2_kindAtHand 8 = .ok (.if_icmp .ge 15, 3) := by decide +kernel
theorem dX2_kindAtHand_11 : decode cX2_kindAtHand 11 = .ok (.aload_n 0, 1) := by decide +kernel
theorem dX2_kindAtHand_12 : decode cX2_kindAtHand 12 = .ok (.getfield 9, 3) := by decide +kernel
theorem dX2_kindAtHand_15 : decode cX2_kindAtHand 15 = .ok (.aload_n 0, 1) := by decide +kernel
theorem dX2_kindAtHand_16 : decode cX2_kindAtHand 16 = .ok (.getfield 19, 3) := by decide +kernel
theorem dX2_kindAtHand_19 : decode cX2_kindAtHand 19 = .ok (.iaload, 1) := by decide +kernel
theorem dX2_kindAtHand_20 : decode cX2_kindAtHand 20 = .ok (.goto 4, 3) := by decide +kernel
theorem dX2_kindAtHand_23 : decode cX2_kindAtHand 23 = .ok (.iconst 0, 1) := by decide +kernel
theorem dX2_kindAtHand_24 : decode cX2_kindAtHand 24 = .ok (.lookupswitch 62 #[(98, 56), (104, 54), (108, 60), (112, 52), (116, 58)], 52) := by decide +kernel
theorem dX2_kindAtHand_76 : decode cX2_kindAtHand 76 = .ok (.iconst 1, 1) := by decide +kernel
theorem dX2_kindAtHand_77 : decode cX2_kindAtHand 77 = .ok (.ireturn, 1) := by decide +kernel
theorem dX2_kindAtHand_78 : decode cX2_kindAtHand 78 = .ok (.iconst 2, 1) := by decide +kernel
theorem dX2_kindAtHand_79 : decode cX2_kindAtHand 79 = .ok (.ireturn, 1) := by decide +kernel
theorem dX2_kindAtHand_80 : decode cX2_kindAtHand 80 = .ok (.iconst 3, 1) := by decide +kernel
theorem dX2_kindAtHand_81 : decode cX2_kindAtHand 81 = .ok (.ireturn, 1) := by decide +kernel
theorem dX2_kindAtHand_82 : decode cX2_kindAtHand 82 = .ok (.iconst 4, 1) := by decide +kernel
theorem dX2_kindAtHand_83 : decode cX2_kindAtHand 83 = .ok (.ireturn, 1) := by decide +kernel
theorem dX2_kindAtHand_84 : decode cX2_kindAtHand 84 = .ok (.iconst 5, 1) := by decide +kernel
theorem dX2_kindAtHand_85 : decode cX2_kindAtHand 85 = .ok (.ireturn, 1) := by decide +kernel
theorem dX2_kindAtHand_86 : decode cX2_kindAtHand 86 = .ok (.iconst 0, 1) := by decide +kernel
theorem dX2_kindAtHand_87 : decode cX2_kindAtHand 87 = .ok (.ireturn, 1) := by decide +kernel
theorem dX2_readSign_0 : decode cX2_readSign 0 = .ok (.aload_n 0, 1) := by decide +kernel
theorem dX2_readSign_1 : decode cX2_readSign 1 = .ok (.getfield 19, 3) := by decide +kernel
theorem dX2_readSign_4 : decode cX2_readSign 4 = .ok (.aload_n 0, 1) := by decide +kernel
theorem dX2_readSign_5 : decode cX2_readSign 5 = .ok (.getfield 15, 3) := by decide +kernel
theorem dX2_readSign_8 : decode cX2_readSign 8 = .ok (.if_icmp .ge 16, 3) := by decide +kernel
theorem dX2_readSign_11 : decode cX2_readSign 11 = .ok (.aload_n 0, 1) := by decide +kernel
theorem dX2_readSign_12 : decode cX2_readSign 12 = .ok (.getfield 9, 3) := by decide +kernel
theorem dX2_readSign_15 : decode cX2_readSign 15 = .ok (.aload_n 0, 1) := by decide +kernel
theorem dX2_readSign_16 : decode cX2_readSign 16 = .ok (.getfield 19, 3) := by decide +kernel
theorem dX2_readSign_19 : decode cX2_readSign 19 = .ok (.iaload, 1) := by decide +kernel
theorem dX2_readSign_20 : decode cX2_readSign 20 = .ok (.iload_n 1, 1) := by decide +kernel
theorem dX2_readSign_21 : decode cX2_readSign 21 = .ok (.if_icmp .eq 11, 3) := by decide +kernel
theorem dX2_readSign_24 : decode cX2_readSign 24 = .ok (.aload_n 0, 1) := by decide +kernel
theorem dX2_readSign_25 : decode cX2_readSign 25 = .ok (.iconst 1, 1) := by decide +kernel
theorem dX2_readSign_26 : decode cX2_readSign 26 = .ok (.invokevirtual 73, 3) := by decide +kernel
theorem dX2_readSign_29 : decode cX2_readSign 29 = .ok (.goto 13, 3) := by decide +kernel
theorem dX2_readSign_32 : decode cX2_readSign 32 = .ok (.aload_n 0, 1) := by decide +kernel
theorem dX2_readSign_33 : decode cX2_readSign 33 = .ok (.dup, 1) := by decide +kernel
theorem dX2_readSign_34 : decode cX2_readSign 34 = .ok (.getfield 19, 3) := by decide +kernel
theorem dX2_readSign_37 : decode cX2_readSign 37 = .ok (.iconst 1, 1) := by decide +kernel
theorem dX2_readSign_38 : decode cX2_readSign 38 = .ok (.iadd, 1) := by decide +kernel
theorem dX2_readSign_39 : decode cX2_readSign 39 = .ok (.putfield 19, 3) := by decide +kernel
theorem dX2_readSign_42 : decode cX2_readSign 42 = .ok (.return_, 1) := by decide +kernel
theorem dX2_readRule_0 : decode cX2_readRule 0 = .ok (.aload_n 0, 1) := by decide +kernel
theorem dX2_readRule_1 : decode cX2_readRule 1 = .ok (.getstatic 87, 3) := by decide +kernel
theorem dX2_readRule_4 : decode cX2_readRule 4 = .ok (.iload_n 1, 1) := by decide +kernel
theorem dX2_readRule_5 : decode cX2_readRule 5 = .ok (.iaload, 1) := by decide +kernel
theorem dX2_readRule_6 : decode cX2_readRule 6 = .ok (.getstatic 90, 3) := by decide +kernel
theorem dX2_readRule_9 : decode cX2_readRule 9 = .ok (.iload_n 1, 1) := by decide +kernel
theorem dX2_readRule_10 : decode cX2_readRule 10 = .ok (.iaload, 1) := by decide +kernel
theorem dX2_readRule_11 : decode cX2_readRule 11 = .ok (.invokevirtual 55, 3) := by decide +kernel
theorem dX2_readRule_14 : decode cX2_readRule 14 = .ok (.ireturn, 1) := by decide +kernel
theorem dX2_readNumber_0 : decode cX2_readNumber 0 = .ok (.aload_n 0, 1) := by decide +kernel
theorem dX2_readNumber_1 : decode cX2_readNumber 1 = .ok (.getfield 19, 3) := by decide +kernel
theorem dX2_readNumber_4 : decode cX2_readNumber 4 = .ok (.istore_n 3, 1) := by decide +kernel
theorem dX2_readNumber_5 : decode cX2_readNumber 5 = .ok (.iconst 0, 1) := by decide +kernel
theorem dX2_readNumber_6 : decode cX2_readNumber 6 = .ok (.istore 4, 2) := by decide +kernel
theorem dX2_readNumber_8 : decode cX2_readNumber 8 = .ok (.iload_n 3, 1) := by decide +kernel
theorem dX2_readNumber_9 : decode cX2_readNumber 9 = .ok (.aload_n 0, 1) := by decide +kernel
theorem dX2_readNumber_10 : decode cX2_readNumber 10 = .ok (.getfield 15, 3) := by decide +kernel
theorem dX2_readNumber_13 : decode cX2_readNumber 13 = .ok (.if_icmp .ge 58, 3) := by decide +kernel
theorem dX2_readNumber_16 : decode cX2_readNumber 16 = .ok (.aload_n 0, 1) := by decide +kernel
theorem dX2_readNumber_17 : decode cX2_readNumber 17 = .ok (.getfield 9, 3) := by decide +kernel
theorem dX2_readNumber_20 : decode cX2_readNumber 20 = .ok (.iload_n 3, 1) := by decide +kernel
theorem dX2_readNumber_21 : decode cX2_readNumber 21 = .ok (.iaload, 1) := by decide +kernel
theorem dX2_readNumber_22 : decode cX2_readNumber 22 = .ok (.bipush 48, 2) := by decide +kernel
theorem dX2_readNumber_24 : decode cX2_readNumber 24 = .ok (.if_icmp .lt 47, 3) := by decide +kernel
theorem dX2_readNumber_27 : decode cX2_readNumber 27 = .ok (.aload_n 0, 1) := by decide +kernel
theorem dX2_readNumber_28 : decode cX2_readNumber 28 = .ok (.getfield 9, 3) := by decide +kernel
theorem dX2_readNumber_31 : decode cX2_readNumber 31 = .ok (.iload_n 3, 1) := by decide +kernel
theorem dX2_readNumber_32 : decode cX2_readNumber 32 = .ok (.iaload, 1) := by decide +kernel
theorem dX2_readNumber_33 : decode cX2_readNumber 33 = .ok (.bipush 57, 2) := by decide +kernel
theorem dX2_readNumber_35 : decode cX2_readNumber 35 = .ok (.if_icmp .gt 36, 3) := by decide +kernel
theorem dX2_readNumber_38 : decode cX2_readNumber 38 = .ok (.iload_n 3, 1) := by decide +kernel
theorem dX2_readNumber_39 : decode cX2_readNumber 39 = .ok (.aload_n 0, 1) := by decide +kernel
theorem dX2_readNumber_40 : decode cX2_readNumber 40 = .ok (.getfield 19, 3) := by decide +kernel
theorem dX2_readNumber_43 : decode cX2_readNumber 43 = .ok (.iconst 3, 1) := by decide +kernel
theorem dX2_readNumber_44 : decode cX2_readNumber 44 = .ok (.iadd, 1) := by decide +kernel
theorem dX2_readNumber_45 : decode cX2_readNumber 45 = .ok (.if_icmp .ge 26, 3) := by decide +kernel
theorem dX2_readNumber_48 : decode cX2_readNumber 48 = .ok (.iload 4, 2) := by decide +kernel
theorem dX2_readNumber_50 : decode cX2_readNumber 50 = .ok (.bipush 10, 2) := by decide +kernel
theorem dX2_readNumber_52 : decode cX2_readNumber 52 = .ok (.imul, 1) := by decide +kernel
theorem dX2_readNumber_53 : decode cX2_readNumber 53 = .ok (.aload_n 0, 1) := by decide +kernel
theorem dX2_readNumber_54 : decode cX2_readNumber 54 = .ok (.getfield 9, 3) := by decide +kernel
theorem dX2_readNumber_57 : decode cX2_readNumber 57 = .ok (.iload_n 3, 1) := by decide +kernel
theorem dX2_readNumber_58 : decode cX2_readNumber 58 = .ok (.iaload, 1) := by decide +kernel
theorem dX2_readNumber_59 : decode cX2_readNumber 59 = .ok (.iadd, 1) := by decide +kernel
theorem dX2_readNumber_60 : decode cX2_readNumber 60 = .ok (.bipush 48, 2) := by decide +kernel
theorem dX2_readNumber_62 : decode cX2_readNumber 62 = .ok (.isub, 1) := by decide +kernel
theorem dX2_readNumber_63 : decode cX2_readNumber 63 = .ok (.istore 4, 2) := by decide +kernel
theorem dX2_readNumber_65 : decode cX2_readNumber 65 = .ok (.iinc 3 1, 3) := by decide +kernel
theorem dX2_readNumber_68 : decode cX2_readNumber 68 = .ok (.goto (-60), 3) := by decide +kernel
theorem dX2_readNumber_71 : decode cX2_readNumber 71 = .ok (.iload_n 3, 1) := by decide +kernel
theorem dX2_readNumber_72 : decode cX2_readNumber 72 = .ok (.aload_n 0, 1) := by decide +kernel
theorem dX2_readNumber_73 : decode cX2_readNumber 73 = .ok (.getfield 19, 3) := by decide +kernel
theorem dX2_readNumber_76 : decode cX2_readNumber 76 = .ok (.if_icmp .eq 13, 3) := by decide +kernel
theorem dX2_readNumber_79 : decode cX2_readNumber 79 = .ok (.iload_n 3, 1) := by decide +kernel
theorem dX2_readNumber_80 : decode cX2_readNumber 80 = .ok (.aload_n 0, 1) := by decide +kernel
theorem dX2_readNumber_81 : decode cX2_readNumber 81 = .ok (.getfield 19, 3) := by decide +kernel
theorem dX2_readNumber_84 : decode cX2_readNumber 84 = .ok (.iconst 3, 1) := by decide +kernel
theorem dX2_readNumber_85 : decode cX2_readNumber 85 = .ok (.iadd, 1) := by decide +kernel
theorem dX2_readNumber_86 : decode cX2_readNumber 86 = .ok (.if_icmp .ne 11, 3) := by decide +kernel
theorem dX2_readNumber_89 : decode cX2_readNumber 89 = .ok (.aload_n 0, 1) := by decide +kernel
theorem dX2_readNumber_90 : decode cX2_readNumber 90 = .ok (.iconst 1, 1) := by decide +kernel
theorem dX2_readNumber_91 : decode cX2_readNumber 91 = .ok (.invokevirtual 73, 3) := by decide +kernel
theorem dX2_readNumber_94 : decode cX2_readNumber 94 = .ok (.goto 35, 3) := by decide +kernel
theorem dX2_readNumber_97 : decode cX2_readNumber 97 = .ok (.iload 4, 2) := by decide +kernel
theorem dX2_readNumber_99 : decode cX2_readNumber 99 = .ok (.iload_n 1, 1) := by decide +kernel
theorem dX2_readNumber_100 : decode cX2_readNumber 100 = .ok (.if_icmp .lt 9, 3) := by decide +kernel
theorem dX2_readNumber_103 : decode cX2_readNumber 103 = .ok (.iload 4, 2) := by decide +kernel
theorem dX2_readNumber_105 : decode cX2_readNumber 105 = .ok (.iload_n 2, 1) := by decide +kernel
theorem dX2_readNumber_106 : decode cX2_readNumber 106 = .ok (.if_icmp .le 11, 3) := by decide +kernel
theorem dX2_readNumber_109 : decode cX2_readNumber 109 = .ok (.aload_n 0, 1) := by decide +kernel
theorem dX2_readNumber_110 : decode cX2_readNumber 110 = .ok (.iconst 2, 1) := by decide +kernel
theorem dX2_readNumber_111 : decode cX2_readNumber 111 = .ok (.invokevirtual 73, 3) := by decide +kernel
theorem dX2_readNumber_114 : decode cX2_readNumber 114 = .ok (.goto 15, 3) := by decide +kernel
theorem dX2_readNumber_117 : decode cX2_readNumber 117 = .ok (.aload_n 0, 1) := by decide +kernel
theorem dX2_readNumber_118 : decode cX2_readNumber 118 = .ok (.getfield 22, 3) := by decide +kernel
theorem dX2_readNumber_121 : decode cX2_readNumber 121 = .ok (.ifCond .ne 8, 3) := by decide +kernel
theorem dX2_readNumber_124 : decode cX2_readNumber 124 = .ok (.aload_n 0, 1) := by decide +kernel
theorem dX2_readNumber_125 : decode cX2_readNumber 125 = .ok (.iload_n 3, 1) := by decide +kernel
theorem dX2_readNumber_126 : decode cX2_readNumber 126 = .ok (.putfield 19, 3) := by decide +kernel
theorem dX2_readNumber_129 : decode cX2_readNumber 129 = .ok (.iload 4, 2) := by decide +kernel
theorem dX2_readNumber_131 : decode cX2_readNumber 131 = .ok (.ireturn, 1) := by decide +kernel
theorem dX2_fail_0 : decode cX2_fail 0 = .ok (.aload_n 0, 1) := by decide +kernel
theorem dX2_fail_1 : decode cX2_fail 1 = .ok (.getfield 22, 3) := by decide +kernel
theorem dX2_fail_4 : decode cX2_fail 4 = .ok (.ifCond .ne 21, 3) := by decide +kernel
theorem dX2_fail_7 : decode cX2_fail 7 = .ok (.aload_n 0, 1) := by decide +kernel
theorem dX2_fail_8 : decode cX2_fail 8 = .ok (.iconst 1, 1) := by decide +kernel
theorem dX2_fail_9 : decode cX2_fail 9 = .ok (.putfield 22, 3) := by decide +kernel
theorem dX2_fail_12 : decode cX2_fail 12 = .ok (.aload_n 0, 1) := by decide +kernel
theorem dX2_fail_13 : decode cX2_fail 13 = .ok (.aload_n 0, 1) := by decide +kernel
theorem dX2_fail_14 : decode cX2_fail 14 = .ok (.getfield 19, 3) := by decide +kernel
theorem dX2_fail_17 : decode cX2_fail 17 = .ok (.putfield 93, 3) := by decide +kernel
theorem dX2_fail_20 : decode cX2_fail 20 = .ok (.aload_n 0, 1) := by decide +kernel
theorem dX2_fail_21 : decode cX2_fail 21 = .ok (.iload_n 1, 1) := by decide +kernel
theorem dX2_fail_22 : decode cX2_fail 22 = .ok (.putfield 96, 3) := by decide +kernel
theorem dX2_fail_25 : decode cX2_fail 25 = .ok (.return_, 1) := by decide +kernel
theorem dX3_init_0 : decode cX3_init 0 = .ok (.aload_n 0, 1) := by decide +kernel
theorem dX3_init_1 : decode cX3_init 1 = .ok (.invokespecial 3, 3) := by decide +kernel
theorem dX3_init_4 : decode cX3_init 4 = .ok (.aload_n 0, 1) := by decide +kernel
theorem dX3_init_5 : decode cX3_init 5 = .ok (.bipush 40, 2) := by decide +kernel
theorem dX3_init_7 : decode cX3_init 7 = .ok (.newarray .int, 2) := by decide +kernel
theorem dX3_init_9 : decode cX3_init 9 = .ok (.putfield 9, 3) := by decide +kernel
theorem dX3_init_12 : decode cX3_init 12 = .ok (.aload_n 0, 1) := by decide +kernel
theorem dX3_init_13 : decode cX3_init 13 = .ok (.iconst (-1), 1) := by decide +kernel
theorem dX3_init_14 : decode cX3_init 14 = .ok (.putfield 15, 3) := by decide +kernel
theorem dX3_init_17 : decode cX3_init 17 = .ok (.return_, 1) := by decide +kernel
theorem dX3_isMissing_0 : decode cX3_isMissing 0 = .ok (.aload_n 0, 1) := by decide +kernel
theorem dX3_isMissing_1 : decode cX3_isMissing 1 = .ok (.getfield 15, 3) := by decide +kernel
theorem dX3_isMissing_4 : decode cX3_isMissing 4 = .ok (.iconst (-1), 1) := by decide +kernel
theorem dX3_isMissing_5 : decode cX3_isMissing 5 = .ok (.if_icmp .ne 7, 3) := by decide +kernel
theorem dX3_isMissing_8 : decode cX3_isMissing 8 = .ok (.iconst 1, 1) := by decide +kernel
theorem dX3_isMissing_9 : decode cX3_isMissing 9 = .ok (.goto 4, 3) := by decide +kernel
theorem dX3_isMissing_12 : decode cX3_isMissing 12 = .ok (.iconst 0, 1) := by decide +kernel
theorem dX3_isMissing_13 : decode cX3_isMissing 13 = .ok (.ireturn, 1) := by decide +kernel
theorem dX3_begin_0 : decode cX3_begin 0 = .ok (.aload_n 0, 1) := by decide +kernel
theorem dX3_begin_1 : decode cX3_begin 1 = .ok (.iload_n 1, 1) := by decide +kernel
theorem dX3_begin_2 : decode cX3_begin 2 = .ok (.putfield 19, 3) := by decide +kernel
theorem dX3_begin_5 : decode cX3_begin 5 = .ok (.aload_n 0, 1) := by decide +kernel
theorem dX3_begin_6 : decode cX3_begin 6 = .ok (.iload_n 2, 1) := by decide +kernel
theorem dX3_begin_7 : decode cX3_begin 7 = .ok (.putfield 15, 3) := by decide +kernel
theorem dX3_begin_10 : decode cX3_begin 10 = .ok (.aload_n 0, 1) := by decide +kernel
theorem dX3_begin_11 : decode cX3_begin 11 = .ok (.getfield 9, 3) := by decide +kernel
theorem dX3_begin_14 : decode cX3_begin 14 = .ok (.iconst 0, 1) := by decide +kernel
theorem dX3_begin_15 : decode cX3_begin 15 = .ok (.invokestatic 22, 3) := by decide +kernel
theorem dX3_begin_18 : decode cX3_begin 18 = .ok (.return_, 1) := by decide +kernel
theorem dX3_hasPlaces_0 : decode cX3_hasPlaces 0 = .ok (.iload_n 1, 1) := by decide +kernel
theorem dX3_hasPlaces_1 : decode cX3_hasPlaces 1 = .ok (.ifCond .lt 21, 3) := by decide +kernel
theorem dX3_hasPlaces_4 : decode cX3_hasPlaces 4 = .ok (.iload_n 2, 1) := by decide +kernel
theorem dX3_hasPlaces_5 : decode cX3_hasPlaces 5 = .ok (.ifCond .lt 17, 3) := by decide +kernel
theorem dX3_hasPlaces_8 : decode cX3_hasPlaces 8 = .ok (.iload_n 1, 1) := by decide +kernel
theorem dX3_hasPlaces_9 : decode cX3_hasPlaces 9 = .ok (.aload_n 0, 1) := by decide +kernel
theorem dX3_hasPlaces_10 : decode cX3_hasPlaces 10 = .ok (.getfield 15, 3) := by decide +kernel
theorem dX3_hasPlaces_13 : decode cX3_hasPlaces 13 = .ok (.iload_n 2, 1) := by decide +kernel
theorem dX3_hasPlaces_14 : decode cX3_hasPlaces 14 = .ok (.isub, 1) := by decide +kernel
theorem dX3_hasPlaces_15 : decode cX3_hasPlaces 15 = .ok (.if_icmp .gt 7, 3) := by decide +kernel
theorem dX3_hasPlaces_18 : decode cX3_hasPlaces 18 = .ok (.iconst 1, 1) := by decide +kernel
theorem dX3_hasPlaces_19 : decode cX3_hasPlaces 19 = .ok (.goto 4, 3) := by decide +kernel
theorem dX3_hasPlaces_22 : decode cX3_hasPlaces 22 = .ok (.iconst 0, 1) := by decide +kernel
theorem dX3_hasPlaces_23 : decode cX3_hasPlaces 23 = .ok (.ireturn, 1) := by decide +kernel
theorem dX3_put_0 : decode cX3_put 0 = .ok (.aload_n 0, 1) := by decide +kernel
theorem dX3_put_1 : decode cX3_put 1 = .ok (.getfield 19, 3) := by decide +kernel
theorem dX3_put_4 : decode cX3_put 4 = .ok (.lookupswitch 50 #[(0, 28), (1, 39)], 28) := by decide +kernel
theorem dX3_put_32 : decode cX3_put 32 = .ok (.aload_n 0, 1) := by decide +kernel
theorem dX3_put_33 : decode cX3_put 33 = .ok (.getfield 9, 3) := by decide +kernel
theorem dX3_put_36 : decode cX3_put 36 = .ok (.iload_n 1, 1) := by decide +kernel
theorem dX3_put_37 : decode cX3_put 37 = .ok (.iload_n 2, 1) := by decide +kernel
theorem dX3_put_38 : decode cX3_put 38 = .ok (.i2b, 1) := by decide +kernel
theorem dX3_put_39 : decode cX3_put 39 = .ok (.iastore, 1) := by decide +kernel
theorem dX3_put_40 : decode cX3_put 40 = .ok (.goto 21, 3) := by decide +kernel
theorem dX3_put_43 : decode cX3_put 43 = .ok (.aload_n 0, 1) := by decide +kernel
theorem dX3_put_44 : decode cX3_put 44 = .ok (.getfield 9, 3) := by decide +kernel
theorem dX3_put_47 : decode cX3_put 47 = .ok (.iload_n 1, 1) := by decide +kernel
theorem dX3_put_48 : decode cX3_put 48 = .ok (.iload_n 2, 1) := by decide +kernel
theorem dX3_put_49 : decode cX3_put 49 = .ok (.i2s, 1) := by decide +kernel
theorem dX3_put_50 : decode cX3_put 50 = .ok (.iastore, 1) := by decide +kernel
theorem dX3_put_51 : decode cX3_put 51 = .ok (.goto 10, 3) := by decide +kernel
theorem dX3_put_54 : decode cX3_put 54 = .ok (.aload_n 0, 1) := by decide +kernel
theorem dX3_put_55 : decode cX3_put 55 = .ok (.getfield 9, 3) := by decide +kernel
theorem dX3_put_58 : decode cX3_put 58 = .ok (.iload_n 1, 1) := by decide +kernel
theorem dX3_put_59 : decode cX3_put 59 = .ok (.iload_n 2, 1) := by decide +kernel
theorem dX3_put_60 : decode cX3_put 60 = .ok (.iastore, 1) := by decide +kernel
theorem dX3_put_61 : decode cX3_put 61 = .ok (.aload_n 0, 1) := by decide +kernel
theorem dX3_put_62 : decode cX3_put 62 = .ok (.getfield 9, 3) := by decide +kernel
theorem dX3_put_65 : decode cX3_put 65 = .ok (.iload_n 1, 1) := by decide +kernel
theorem dX3_put_66 : decode cX3_put 66 = .ok (.iaload, 1) := by decide +kernel
theorem dX3_put_67 : decode cX3_put 67 = .ok (.ireturn, 1) := by decide +kernel
theorem dX4_init_0 : decode cX4_init 0 = .ok (.aload_n 0, 1) := by decide +kernel
theorem dX4_init_1 : decode cX4_init 1 = .ok (.invokespecial 5, 3) := by decide +kernel
theorem dX4_init_4 : decode cX4_init 4 = .ok (.aload_n 0, 1) := by decide +kernel
theorem dX4_init_5 : decode cX4_init 5 = .ok (.bipush 8, 2) := by decide +kernel
theorem dX4_init_7 : decode cX4_init 7 = .ok (.newarray .int, 2) := by decide +kernel
theorem dX4_init_9 : decode cX4_init 9 = .ok (.putfield 11, 3) := by decide +kernel
theorem dX4_init_12 : decode cX4_init 12 = .ok (.aload_n 0, 1) := by decide +kernel
theorem dX4_init_13 : decode cX4_init 13 = .ok (.sipush 1095, 3) := by decide +kernel
theorem dX4_init_16 : decode cX4_init 16 = .ok (.newarray .int, 2) := by decide +kernel
theorem dX4_init_18 : decode cX4_init 18 = .ok (.putfield 15, 3) := by decide +kernel
theorem dX4_init_21 : decode cX4_init 21 = .ok (.aload_n 0, 1) := by decide +kernel
theorem dX4_init_22 : decode cX4_init 22 = .ok (.sipush 1095, 3) := by decide +kernel
theorem dX4_init_25 : decode cX4_init 25 = .ok (.newarray .int, 2) := by decide +kernel
theorem dX4_init_27 : decode cX4_init 27 = .ok (.putfield 18, 3) := by decide +kernel
theorem dX4_init_30 : decode cX4_init 30 = .ok (.aload_n 0, 1) := by decide +kernel
theorem dX4_init_31 : decode cX4_init 31 = .ok (.bipush 73, 2) := by decide +kernel
theorem dX4_init_33 : decode cX4_init 33 = .ok (.newarray .int, 2) := by decide +kernel
theorem dX4_init_35 : decode cX4_init 35 = .ok (.putfield 21, 3) := by decide +kernel
theorem dX4_init_38 : decode cX4_init 38 = .ok (.aload_n 0, 1) := by decide +kernel
theorem dX4_init_39 : decode cX4_init 39 = .ok (.bipush 73, 2) := by decide +kernel
theorem dX4_init_41 : decode cX4_init 41 = .ok (.newarray .int, 2) := by decide +kernel
theorem dX4_init_43 : decode cX4_init 43 = .ok (.putfield 24, 3) := by decide +kernel
theorem dX4_init_46 : decode cX4_init 46 = .ok (.return_, 1) := by decide +kernel
theorem dX4_find_0 : decode cX4_find 0 = .ok (.aload_n 0, 1) := by decide +kernel
theorem dX4_find_1 : decode cX4_find 1 = .ok (.aload_n 1, 1) := by decide +kernel
theorem dX4_find_2 : decode cX4_find 2 = .ok (.putfield 27, 3) := by decide +kernel
theorem dX4_find_5 : decode cX4_find 5 = .ok (.aload_n 0, 1) := by decide +kernel
theorem dX4_find_6 : decode cX4_find 6 = .ok (.iconst 1, 1) := by decide +kernel
theorem dX4_find_7 : decode cX4_find 7 = .ok (.iconst 3, 1) := by decide +kernel
theorem dX4_find_8 : decode cX4_find 8 = .ok (.aload_n 1, 1) := by decide +kernel
theorem dX4_find_9 : decode cX4_find 9 = .ok (.getfield 31, 3) := by decide +kernel
theorem dX4_find_12 : decode cX4_find 12 = .ok (.iconst 3, 1) := by decide +kernel
theorem dX4_find_13 : decode cX4_find 13 = .ok (.iaload, 1) := by decide +kernel
theorem dX4_find_14 : decode cX4_find 14 = .ok (.invokestatic 36, 3) := by decide +kernel
theorem dX4_find_17 : decode cX4_find 17 = .ok (.invokestatic 42, 3) := by decide +kernel
theorem dX4_find_20 : decode cX4_find 20 = .ok (.putfield 45, 3) := by decide +kernel
theorem dX4_find_23 : decode cX4_find 23 = .ok (.aload_n 0, 1) := by decide +kernel
theorem dX4_find_24 : decode cX4_find 24 = .ok (.getfield 18, 3) := by decide +kernel
theorem dX4_find_27 : decode cX4_find 27 = .ok (.iconst (-1), 1) := by decide +kernel
theorem dX4_find_28 : decode cX4_find 28 = .ok (.invokestatic 49, 3) := by decide +kernel
theorem dX4_find_31 : decode cX4_find 31 = .ok (.aload_n 0, 1) := by decide +kernel
theorem dX4_find_32 : decode cX4_find 32 = .ok (.getfield 24, 3) := by decide +kernel
theorem dX4_find_35 : decode cX4_find 35 = .ok (.iconst (-1), 1) := by decide +kernel
theorem dX4_find_36 : decode cX4_find 36 = .ok (.invokestatic 49, 3) := by decide +kernel
theorem dX4_find_39 : decode cX4_find 39 = .ok (.aload_n 0, 1) := by decide +kernel
theorem dX4_find_40 : decode cX4_find 40 = .ok (.getfield 24, 3) := by decide +kernel
theorem dX4_find_43 : decode cX4_find 43 = .ok (.iconst 0, 1) := by decide +kernel
theorem dX4_find_44 : decode cX4_find 44 = .ok (.iconst 0, 1) := by decide +kernel
theorem dX4_find_45 : decode cX4_find 45 = .ok (.iastore, 1) := by decide +kernel
theorem dX4_find_46 : decode cX4_find 46 = .ok (.aload_n 1, 1) := by decide +kernel
theorem dX4_find_47 : decode cX4_find 47 = .ok (.getfield 55, 3) := by decide +kernel
theorem dX4_find_50 : decode cX4_find 50 = .ok (.iconst 1, 1) := by decide +kernel
theorem dX4_find_51 : decode cX4_find 51 = .ok (.isub, 1) := by decide +kernel
theorem dX4_find_52 : decode cX4_find 52 = .ok (.istore_n 3, 1) := by decide +kernel
theorem dX4_find_53 : decode cX4_find 53 = .ok (.iload_n 3, 1) := by decide +kernel
theorem dX4_find_54 : decode cX4_find 54 = .ok (.ifCond .lt 44, 3) := by decide +kernel
theorem dX4_find_57 : decode cX4_find 57 = .ok (.aload_n 0, 1) := by decide +kernel
theorem dX4_find_58 : decode cX4_find 58 = .ok (.invokevirtual 58, 3) := by decide +kernel
theorem dX4_find_61 : decode cX4_find 61 = .ok (.iconst 0, 1) := by decide +kernel
theorem dX4_find_62 : decode cX4_find 62 = .ok (.istore 4, 2) := by decide +kernel
theorem dX4_find_64 : decode cX4_find 64 = .ok (.iload 4, 2) := by decide +kernel
theorem dX4_find_66 : decode cX4_find 66 = .ok (.aload_n 1, 1) := by decide +kernel
theorem dX4_find_67 : decode cX4_find 67 = .ok (.getfield 61, 3) := by decide +kernel
theorem dX4_find_70 : decode cX4_find 70 = .ok (.if_icmp .ge 22, 3) := by decide +kernel
theorem dX4_find_73 : decode cX4_find 73 = .ok (.iload 4, 2) := by decide +kernel
theorem dX4_find_75 : decode cX4_find 75 = .ok (.iload_n 2, 1) := by decide +kernel
theorem dX4_find_76 : decode cX4_find 76 = .ok (.if_icmp .eq 10, 3) := by decide +kernel
theorem dX4_find_79 : decode cX4_find 79 = .ok (.aload_n 0, 1) := by decide +kernel
theorem dX4_find_80 : decode cX4_find 80 = .ok (.iload_n 3, 1) := by decide +kernel
theorem dX4_find_81 : decode cX4_find 81 = .ok (.iload 4, 2) := by decide +kernel
theorem dX4_find_83 : decode cX4_find 83 = .ok (.invokevirtual 64, 3) := by decide +kernel
theorem dX4_find_86 : decode cX4_find 86 = .ok (.iinc 4 1, 3) := by decide +kernel
theorem dX4_find_89 : decode cX4_find 89 = .ok (.goto (-25), 3) := by decide +kernel
theorem dX4_find_92 : decode cX4_find 92 = .ok (.iinc 3 (-1), 3) := by decide +kernel
theorem dX4_find_95 : decode cX4_find 95 = .ok (.goto (-42), 3) := by decide +kernel
theorem dX4_find_98 : decode cX4_find 98 = .ok (.aload_n 0, 1) := by decide +kernel
theorem dX4_find_99 : decode cX4_find 99 = .ok (.invokevirtual 68, 3) := by decide +kernel
theorem dX4_find_102 : decode cX4_find 102 = .ok (.ireturn, 1) := by decide +kernel
theorem dX4_swap_0 : decode cX4_swap 0 = .ok (.aload_n 0, 1) := by decide +kernel
theorem dX4_swap_1 : decode cX4_swap 1 = .ok (.getfield 15, 3) := by decide +kernel
theorem dX4_swap_4 : decode cX4_swap 4 = .ok (.astore_n 1, 1) := by decide +kernel
theorem dX4_swap_5 : decode cX4_swap 5 = .ok (.aload_n 0, 1) := by decide +kernel
theorem dX4_swap_6 : decode cX4_swap 6 = .ok (.aload_n 0, 1) := by decide +kernel
theorem dX4_swap_7 : decode cX4_swap 7 = .ok (.getfield 18, 3) := by decide +kernel
theorem dX4_swap_10 : decode cX4_swap 10 = .ok (.putfield 15, 3) := by decide +kernel
theorem dX4_swap_13 : decode cX4_swap 13 = .ok (.aload_n 0, 1) := by decide +kernel
theorem dX4_swap_14 : decode cX4_swap 14 = .ok (.aload_n 1, 1) := by decide +kernel
theorem dX4_swap_15 : decode cX4_swap 15 = .ok (.putfield 18, 3) := by decide +kernel
theorem dX4_swap_18 : decode cX4_swap 18 = .ok (.aload_n 0, 1) := by decide +kernel
theorem dX4_swap_19 : decode cX4_swap 19 = .ok (.getfield 18, 3) := by decide +kernel
theorem dX4_swap_22 : decode cX4_swap 22 = .ok (.iconst (-1), 1) := by decide +kernel
theorem dX4_swap_23 : decode cX4_swap 23 = .ok (.invokestatic 49, 3) := by decide +kernel
theorem dX4_swap_26 : decode cX4_swap 26 = .ok (.aload_n 0, 1) := by decide +kernel
theorem dX4_swap_27 : decode cX4_swap 27 = .ok (.getfield 21, 3) := by decide +kernel
theorem dX4_swap_30 : decode cX4_swap 30 = .ok (.astore_n 1, 1) := by decide +kernel
theorem dX4_swap_31 : decode cX4_swap 31 = .ok (.aload_n 0, 1) := by decide +kernel
theorem dX4_swap_32 : decode cX4_swap 32 = .ok (.aload_n 0, 1) := by decide +kernel
theorem dX4_swap_33 : decode cX4_swap 33 = .ok (.getfield 24, 3) := by decide +kernel
theorem dX4_swap_36 : decode cX4_swap 36 = .ok (.putfield 21, 3) := by decide +kernel
theorem dX4_swap_39 : decode cX4_swap 39 = .ok (.aload_n 0, 1) := by decide +kernel
theorem dX4_swap_40 : decode cX4_swap 40 = .ok (.aload_n 1, 1) := by decide +kernel
theorem dX4_swap_41 : decode cX4_swap 41 = .ok (.putfield 24, 3) := by decide +kernel
theorem dX4_swap_44 : decode cX4_swap 44 = .ok (.aload_n 0, 1) := by decide +kernel
theorem dX4_swap_45 : decode cX4_swap 45 = .ok (.getfield 24, 3) := by decide +kernel
theorem dX4_swap_48 : decode cX4_swap 48 = .ok (.iconst (-1), 1) := by decide +kernel
theorem dX4_swap_49 : decode cX4_swap 49 = .ok (.invokestatic 49, 3) := by decide +kernel
theorem dX4_swap_52 : decode cX4_swap 52 = .ok (.return_, 1) := by decide +kernel
theorem dX4_layOnAll_0 : decode cX4_layOnAll 0 = .ok (.aload_n 0, 1) := by decide +kernel
theorem dX4_layOnAll_1 : decode cX4_layOnAll 1 = .ok (.getfield 27, 3) := by decide +kernel
theorem dX4_layOnAll_4 : decode cX4_layOnAll 4 = .ok (.getfield 55, 3) := by decide +kernel
theorem dX4_layOnAll_7 : decode cX4_layOnAll 7 = .ok (.iconst 1, 1) := by decide +kernel
theorem dX4_layOnAll_8 : decode cX4_layOnAll 8 = .ok (.isub, 1) := by decide +kernel
theorem dX4_layOnAll_9 : decode cX4_layOnAll 9 = .ok (.iload_n 1, 1) := by decide +kernel
theorem dX4_layOnAll_10 : decode cX4_layOnAll 10 = .ok (.isub, 1) := by decide +kernel
theorem dX4_layOnAll_11 : decode cX4_layOnAll 11 = .ok (.istore_n 3, 1) := by decide +kernel
theorem dX4_layOnAll_12 : decode cX4_layOnAll 12 = .ok (.aload_n 0, 1) := by decide +kernel
theorem dX4_layOnAll_13 : decode cX4_layOnAll 13 = .ok (.getfield 27, 3) := by decide +kernel
theorem dX4_layOnAll_16 : decode cX4_layOnAll 16 = .ok (.iload_n 2, 1) := by decide +kernel
theorem dX4_layOnAll_17 : decode cX4_layOnAll 17 = .ok (.iconst 3, 1) := by decide +kernel
theorem dX4_layOnAll_18 : decode cX4_layOnAll 18 = .ok (.invokevirtual 72, 3) := by decide +kernel
theorem dX4_layOnAll_21 : decode cX4_layOnAll 21 = .ok (.istore 4, 2) := by decide +kernel
theorem dX4_layOnAll_23 : decode cX4_layOnAll 23 = .ok (.iload_n 3, 1) := by decide +kernel
theorem dX4_layOnAll_24 : decode cX4_layOnAll 24 = .ok (.istore 5, 2) := by decide +kernel
theorem dX4_layOnAll_26 : decode cX4_layOnAll 26 = .ok (.iload 5, 2) := by decide +kernel
theorem dX4_layOnAll_28 : decode cX4_layOnAll 28 = .ok (.iload_n 3, 1) := by decide +kernel
theorem dX4_layOnAll_29 : decode cX4_layOnAll 29 = .ok (.bipush 9, 2) := by decide +kernel
theorem dX4_layOnAll_31 : decode cX4_layOnAll 31 = .ok (.imul, 1) := by decide +kernel
theorem dX4_layOnAll_32 : decode cX4_layOnAll 32 = .ok (.if_icmp .gt 93, 3) := by decide +kernel
theorem dX4_layOnAll_35 : decode cX4_layOnAll 35 = .ok (.aload_n 0, 1) := by decide +kernel
theorem dX4_layOnAll_36 : decode cX4_layOnAll 36 = .ok (.getfield 27, 3) := by decide +kernel
theorem dX4_layOnAll_39 : decode cX4_layOnAll 39 = .ok (.iload_n 1, 1) := by decide +kernel
theorem dX4_layOnAll_40 : decode cX4_layOnAll 40 = .ok (.iload_n 2, 1) := by decide +kernel
theorem dX4_layOnAll_41 : decode cX4_layOnAll 41 = .ok (.iload 5, 2) := by decide +kernel
theorem dX4_layOnAll_43 : decode cX4_layOnAll 43 = .ok (.iload 4, 2) := by decide +kernel
theorem dX4_layOnAll_45 : decode cX4_layOnAll 45 = .ok (.iadd, 1) := by decide +kernel
theorem dX4_layOnAll_46 : decode cX4_layOnAll 46 = .ok (.invokevirtual 75, 3) := by decide +kernel
theorem dX4_layOnAll_49 : decode cX4_layOnAll 49 = .ok (.ifCond .ne 6, 3) := by decide +kernel
theorem dX4_layOnAll_52 : decode cX4_layOnAll 52 = .ok (.goto 73, 3) := by decide +kernel
theorem dX4_layOnAll_55 : decode cX4_layOnAll 55 = .ok (.aload_n 0, 1) := by decide +kernel
theorem dX4_layOnAll_56 : decode cX4_layOnAll 56 = .ok (.aload_n 0, 1) := by decide +kernel
theorem dX4_layOnAll_57 : decode cX4_layOnAll 57 = .ok (.getfield 21, 3) := by decide +kernel
theorem dX4_layOnAll_60 : decode cX4_layOnAll 60 = .ok (.iload 5, 2) := by decide +kernel
theorem dX4_layOnAll_62 : decode cX4_layOnAll 62 = .ok (.iaload, 1) := by decide +kernel
theorem dX4_layOnAll_63 : decode cX4_layOnAll 63 = .ok (.iload 5, 2) := by decide +kernel
theorem dX4_layOnAll_65 : decode cX4_layOnAll 65 = .ok (.iload_n 2, 1) := by decide +kernel
theorem dX4_layOnAll_66 : decode cX4_layOnAll 66 = .ok (.iconst 1, 1) := by decide +kernel
theorem dX4_layOnAll_67 : decode cX4_layOnAll 67 = .ok (.invokevirtual 79, 3) := by decide +kernel
theorem dX4_layOnAll_70 : decode cX4_layOnAll 70 = .ok (.iconst 1, 1) := by decide +kernel
theorem dX4_layOnAll_71 : decode cX4_layOnAll 71 = .ok (.istore 6, 2) := by decide +kernel
theorem dX4_layOnAll_73 : decode cX4_layOnAll 73 = .ok (.iload 6, 2) := by decide +kernel
theorem dX4_layOnAll_75 : decode cX4_layOnAll 75 = .ok (.aload_n 0, 1) := by decide +kernel
theorem dX4_layOnAll_76 : decode cX4_layOnAll 76 = .ok (.getfield 45, 3) := by decide +kernel
theorem dX4_layOnAll_79 : decode cX4_layOnAll 79 = .ok (.if_icmp .gt 40, 3) := by decide +kernel
theorem dX4_layOnAll_82 : decode cX4_layOnAll 82 = .ok (.aload_n 0, 1) := by decide +kernel
theorem dX4_layOnAll_83 : decode cX4_layOnAll 83 = .ok (.aload_n 0, 1) := by decide +kernel
theorem dX4_layOnAll_84 : decode cX4_layOnAll 84 = .ok (.getfield 15, 3) := by decide +kernel
theorem dX4_layOnAll_87 : decode cX4_layOnAll 87 = .ok (.iload 5, 2) := by decide +kernel
theorem dX4_layOnAll_89 : decode cX4_layOnAll 89 = .ok (.iload_n 2, 1) := by decide +kernel
theorem dX4_layOnAll_90 : decode cX4_layOnAll 90 = .ok (.iload 6, 2) := by decide +kernel
theorem dX4_layOnAll_92 : decode cX4_layOnAll 92 = .ok (.invokestatic 83, 3) := by decide +kernel
theorem dX4_layOnAll_95 : decode cX4_layOnAll 95 = .ok (.iaload, 1) := by decide +kernel
theorem dX4_layOnAll_96 : decode cX4_layOnAll 96 = .ok (.iload 5, 2) := by decide +kernel
theorem dX4_layOnAll_98 : decode cX4_layOnAll 98 = .ok (.iload_n 2, 1) := by decide +kernel
theorem dX4_layOnAll_99 : decode cX4_layOnAll 99 = .ok (.iload 6, 2) := by decide +kernel
theorem dX4_layOnAll_101 : decode cX4_layOnAll 101 = .ok (.iconst 1, 1) := by decide +kernel
theorem dX4_layOnAll_102 : decode cX4_layOnAll 102 = .ok (.iadd, 1) := by decide +kernel
theorem dX4_layOnAll_103 : decode cX4_layOnAll 103 = .ok (.aload_n 0, 1) := by decide +kernel
theorem dX4_layOnAll_104 : decode cX4_layOnAll 104 = .ok (.getfield 45, 3) := by decide +kernel
theorem dX4_layOnAll_107 : decode cX4_layOnAll 107 = .ok (.invokestatic 36, 3) := by decide +kernel
theorem dX4_layOnAll_110 : decode cX4_layOnAll 110 = .ok (.invokevirtual 79, 3) := by decide +kernel
theorem dX4_layOnAll_113 : decode cX4_layOnAll 113 = .ok (.iinc 6 1, 3) := by decide +kernel
theorem dX4_layOnAll_116 : decode cX4_layOnAll 116 = .ok (.goto (-43), 3) := by decide +kernel
theorem dX4_layOnAll_119 : decode cX4_layOnAll 119 = .ok (.iinc 5 1, 3) := by decide +kernel
theorem dX4_layOnAll_122 : decode cX4_layOnAll 122 = .ok (.goto (-96), 3) := by decide +kernel
theorem dX4_layOnAll_125 : decode cX4_layOnAll 125 = .ok (.return_, 1) := by decide +kernel
theorem dX4_layOn_0 : decode cX4_layOn 0 = .ok (.iload_n 1, 1) := by decide +kernel
theorem dX4_layOn_1 : decode cX4_layOn 1 = .ok (.iconst (-1), 1) := by decide +kernel
theorem dX4_layOn_2 : decode cX4_layOn 2 = .ok (.if_icmp .ne 4, 3) := by decide +kernel
theorem dX4_layOn_5 : decode cX4_layOn 5 = .ok (.return_, 1) := by decide +kernel
theorem dX4_layOn_6 : decode cX4_layOn 6 = .ok (.iload_n 2, 1) := by decide +kernel
theorem dX4_layOn_7 : decode cX4_layOn 7 = .ok (.aload_n 0, 1) := by decide +kernel
theorem dX4_layOn_8 : decode cX4_layOn 8 = .ok (.getfield 27, 3) := by decide +kernel
theorem dX4_layOn_11 : decode cX4_layOn 11 = .ok (.iload_n 3, 1) := by decide +kernel
theorem dX4_layOn_12 : decode cX4_layOn 12 = .ok (.iconst 3, 1) := by decide +kernel
theorem dX4_layOn_13 : decode cX4_layOn 13 = .ok (.invokevirtual 72, 3) := by decide +kernel
theorem dX4_layOn_16 : decode cX4_layOn 16 = .ok (.iadd, 1) := by decide +kernel
theorem dX4_layOn_17 : decode cX4_layOn 17 = .ok (.istore 5, 2) := by decide +kernel
theorem dX4_layOn_19 : decode cX4_layOn 19 = .ok (.iload_n 1, 1) := by decide +kernel
theorem dX4_layOn_20 : decode cX4_layOn 20 = .ok (.ldc 87, 2) := by decide +kernel
theorem dX4_layOn_22 : decode cX4_layOn 22 = .ok (.irem, 1) := by decide +kernel
theorem dX4_layOn_23 : decode cX4_layOn 23 = .ok (.istore 6, 2) := by decide +kernel
theorem dX4_layOn_25 : decode cX4_layOn 25 = .ok (.iload_n 1, 1) := by decide +kernel
theorem dX4_layOn_26 : decode cX4_layOn 26 = .ok (.iload 6, 2) := by decide +kernel
theorem dX4_layOn_28 : decode cX4_layOn 28 = .ok (.isub, 1) := by decide +kernel
theorem dX4_layOn_29 : decode cX4_layOn 29 = .ok (.aload_n 0, 1) := by decide +kernel
theorem dX4_layOn_30 : decode cX4_layOn 30 = .ok (.getfield 27, 3) := by decide +kernel
theorem dX4_layOn_33 : decode cX4_layOn 33 = .ok (.iload_n 3, 1) := by decide +kernel
theorem dX4_layOn_34 : decode cX4_layOn 34 = .ok (.iconst 4, 1) := by decide +kernel
theorem dX4_layOn_35 : decode cX4_layOn 35 = .ok (.invokevirtual 72, 3) := by decide +kernel
theorem dX4_layOn_38 : decode cX4_layOn 38 = .ok (.ldc 87, 2) := by decide +kernel
theorem dX4_layOn_40 : decode cX4_layOn 40 = .ok (.imul, 1) := by decide +kernel
theorem dX4_layOn_41 : decode cX4_layOn 41 = .ok (.iadd, 1) := by decide +kernel
theorem dX4_layOn_42 : decode cX4_layOn 42 = .ok (.iload 6, 2) := by decide +kernel
theorem dX4_layOn_44 : decode cX4_layOn 44 = .ok (.iconst 5, 1) := by decide +kernel
theorem dX4_layOn_45 : decode cX4_layOn 45 = .ok (.imul, 1) := by decide +kernel
theorem dX4_layOn_46 : decode cX4_layOn 46 = .ok (.iadd, 1) := by decide +kernel
theorem dX4_layOn_47 : decode cX4_layOn 47 = .ok (.iload_n 3, 1) := by decide +kernel
theorem dX4_layOn_48 : decode cX4_layOn 48 = .ok (.iadd, 1) := by decide +kernel
theorem dX4_layOn_49 : decode cX4_layOn 49 = .ok (.istore 7, 2) := by decide +kernel
theorem dX4_layOn_51 : decode cX4_layOn 51 = .ok (.iload 5, 2) := by decide +kernel
theorem dX4_layOn_53 : decode cX4_layOn 53 = .ok (.iload_n 3, 1) := by decide +kernel
theorem dX4_layOn_54 : decode cX4_layOn 54 = .ok (.iload 4, 2) := by decide +kernel
theorem dX4_layOn_56 : decode cX4_layOn 56 = .ok (.invokestatic 83, 3) := by decide +kernel
theorem dX4_layOn_59 : decode cX4_layOn 59 = .ok (.istore 8, 2) := by decide +kernel
theorem dX4_layOn_61 : decode cX4_layOn 61 = .ok (.iload 7, 2) := by decide +kernel
theorem dX4_layOn_63 : decode cX4_layOn 63 = .ok (.aload_n 0, 1) := by decide +kernel
theorem dX4_layOn_64 : decode cX4_layOn 64 = .ok (.getfield 18, 3) := by decide +kernel
theorem dX4_layOn_67 : decode cX4_layOn 67 = .ok (.iload 8, 2) := by decide +kernel
theorem dX4_layOn_69 : decode cX4_layOn 69 = .ok (.iaload, 1) := by decide +kernel
theorem dX4_layOn_70 : decode cX4_layOn 70 = .ok (.invokestatic 88, 3) := by decide +kernel
theorem dX4_layOn_73 : decode cX4_layOn 73 = .ok (.ifCond .eq 12, 3) := by decide +kernel
theorem dX4_layOn_76 : decode cX4_layOn 76 = .ok (.aload_n 0, 1) := by decide +kernel
theorem dX4_layOn_77 : decode cX4_layOn 77 = .ok (.getfield 18, 3) := by decide +kernel
theorem dX4_layOn_80 : decode cX4_layOn 80 = .ok (.iload 8, 2) := by decide +kernel
theorem dX4_layOn_82 : decode cX4_layOn 82 = .ok (.iload 7, 2) := by decide +kernel
theorem dX4_layOn_84 : decode cX4_layOn 84 = .ok (.iastore, 1) := by decide +kernel
theorem dX4_layOn_85 : decode cX4_layOn 85 = .ok (.iload 4, 2) := by decide +kernel
theorem dX4_layOn_87 : decode cX4_layOn 87 = .ok (.aload_n 0, 1) := by decide +kernel
theorem dX4_layOn_88 : decode cX4_layOn 88 = .ok (.getfield 45, 3) := by decide +kernel
theorem dX4_layOn_91 : decode cX4_layOn 91 = .ok (.if_icmp .ne 27, 3) := by decide +kernel
theorem dX4_layOn_94 : decode cX4_layOn 94 = .ok (.iload 7, 2) := by decide +kernel
theorem dX4_layOn_96 : decode cX4_layOn 96 = .ok (.aload_n 0, 1) := by decide +kernel
theorem dX4_layOn_97 : decode cX4_layOn 97 = .ok (.getfield 24, 3) := by decide +kernel
theorem dX4_layOn_100 : decode cX4_layOn 100 = .ok (.iload 5, 2) := by decide +kernel
theorem dX4_layOn_102 : decode cX4_layOn 102 = .ok (.iaload, 1) := by decide +kernel
theorem dX4_layOn_103 : decode cX4_layOn 103 = .ok (.invokestatic 88, 3) := by decide +kernel
theorem dX4_layOn_106 : decode cX4_layOn 106 = .ok (.ifCond .eq 12, 3) := by decide +kernel
theorem dX4_layOn_109 : decode cX4_layOn 109 = .ok (.aload_n 0, 1) := by decide +kernel
theorem dX4_layOn_110 : decode cX4_layOn 110 = .ok (.getfield 24, 3) := by decide +kernel
theorem dX4_layOn_113 : decode cX4_layOn 113 = .ok (.iload 5, 2) := by decide +kernel
theorem dX4_layOn_115 : decode cX4_layOn 115 = .ok (.iload 7, 2) := by decide +kernel
theorem dX4_layOn_117 : decode cX4_layOn 117 = .ok (.iastore, 1) := by decide +kernel
theorem dX4_layOn_118 : decode cX4_layOn 118 = .ok (.return_, 1) := by decide +kernel
theorem dX4_isAhead_0 : decode cX4_isAhead 0 = .ok (.iload_n 1, 1) := by decide +kernel
theorem dX4_isAhead_1 : decode cX4_isAhead 1 = .ok (.iconst (-1), 1) := by decide +kernel
theorem dX4_isAhead_2 : decode cX4_isAhead 2 = .ok (.if_icmp .eq 8, 3) := by decide +kernel
theorem dX4_isAhead_5 : decode cX4_isAhead 5 = .ok (.iload_n 0, 1) := by decide +kernel
theorem dX4_isAhead_6 : decode cX4_isAhead 6 = .ok (.iload_n 1, 1) := by decide +kernel
theorem dX4_isAhead_7 : decode cX4_isAhead 7 = .ok (.if_icmp .ge 7, 3) := by decide +kernel
theorem dX4_isAhead_10 : decode cX4_isAhead 10 = .ok (.iconst 1, 1) := by decide +kernel
theorem dX4_isAhead_11 : decode cX4_isAhead 11 = .ok (.goto 4, 3) := by decide +kernel
theorem dX4_isAhead_14 : decode cX4_isAhead 14 = .ok (.iconst 0, 1) := by decide +kernel
theorem dX4_isAhead_15 : decode cX4_isAhead 15 = .ok (.ireturn, 1) := by decide +kernel
theorem dX4_state_0 : decode cX4_state 0 = .ok (.iload_n 0, 1) := by decide +kernel
theorem dX4_state_1 : decode cX4_state 1 = .ok (.iconst 5, 1) := by decide +kernel
theorem dX4_state_2 : decode cX4_state 2 = .ok (.imul, 1) := by decide +kernel
theorem dX4_state_3 : decode cX4_state 3 = .ok (.iload_n 1, 1) := by decide +kernel
theorem dX4_state_4 : decode cX4_state 4 = .ok (.iadd, 1) := by decide +kernel
theorem dX4_state_5 : decode cX4_state 5 = .ok (.iconst 3, 1) := by decide +kernel
theorem dX4_state_6 : decode cX4_state 6 = .ok (.imul, 1) := by decide +kernel
theorem dX4_state_7 : decode cX4_state 7 = .ok (.iload_n 2, 1) := by decide +kernel
theorem dX4_state_8 : decode cX4_state 8 = .ok (.iadd, 1) := by decide +kernel
theorem dX4_state_9 : decode cX4_state 9 = .ok (.iconst 1, 1) := by decide +kernel
theorem dX4_state_10 : decode cX4_state 10 = .ok (.isub, 1) := by decide +kernel
theorem dX4_state_11 : decode cX4_state 11 = .ok (.ireturn, 1) := by decide +kernel
theorem dX4_choose_0 : decode cX4_choose 0 = .ok (.iconst (-1), 1) := by decide +kernel
theorem dX4_choose_1 : decode cX4_choose 1 = .ok (.istore_n 1, 1) := by decide +kernel
theorem dX4_choose_2 : decode cX4_choose 2 = .ok (.iconst 1, 1) := by decide +kernel
theorem dX4_choose_3 : decode cX4_choose 3 = .ok (.istore_n 2, 1) := by decide +kernel
theorem dX4_choose_4 : decode cX4_choose 4 = .ok (.iload_n 2, 1) := by decide +kernel
theorem dX4_choose_5 : decode cX4_choose 5 = .ok (.bipush 73, 2) := by decide +kernel
theorem dX4_choose_7 : decode cX4_choose 7 = .ok (.if_icmp .ge 44, 3) := by decide +kernel
theorem dX4_choose_10 : decode cX4_choose 10 = .ok (.aload_n 0, 1) := by decide +kernel
theorem dX4_choose_11 : decode cX4_choose 11 = .ok (.getfield 24, 3) := by decide +kernel
theorem dX4_choose_14 : decode cX4_choose 14 = .ok (.iload_n 2, 1) := by decide +kernel
theorem dX4_choose_15 : decode cX4_choose 15 = .ok (.iaload, 1) := by decide +kernel
theorem dX4_choose_16 : decode cX4_choose 16 = .ok (.istore_n 3, 1) := by decide +kernel
theorem dX4_choose_17 : decode cX4_choose 17 = .ok (.iload_n 3, 1) := by decide +kernel
theorem dX4_choose_18 : decode cX4_choose 18 = .ok (.iconst (-1), 1) := by decide +kernel
theorem dX4_choose_19 : decode cX4_choose 19 = .ok (.if_icmp .eq 26, 3) := by decide +kernel
theorem dX4_choose_22 : decode cX4_choose 22 = .ok (.iload_n 1, 1) := by decide +kernel
theorem dX4_choose_23 : decode cX4_choose 23 = .ok (.iconst (-1), 1) := by decide +kernel
theorem dX4_choose_24 : decode cX4_choose 24 = .ok (.if_icmp .eq 14, 3) := by decide +kernel
theorem dX4_choose_27 : decode cX4_choose 27 = .ok (.iload_n 3, 1) := by decide +kernel
theorem dX4_choose_28 : decode cX4_choose 28 = .ok (.ldc 87, 2) := by decide +kernel
theorem dX4_choose_30 : decode cX4_choose 30 = .ok (.idiv, 1) := by decide +kernel
theorem dX4_choose_31 : decode cX4_choose 31 = .ok (.iload_n 1, 1) := by decide +kernel
theorem dX4_choose_32 : decode cX4_choose 32 = .ok (.ldc 87, 2) := by decide +kernel
theorem dX4_choose_34 : decode cX4_choose 34 = .ok (.idiv, 1) := by decide +kernel
theorem dX4_choose_35 : decode cX4_choose 35 = .ok (.if_icmp .ge 10, 3) := by decide +kernel
theorem dX4_choose_38 : decode cX4_choose 38 = .ok (.iload_n 3, 1) := by decide +kernel
theorem dX4_choose_39 : decode cX4_choose 39 = .ok (.istore_n 1, 1) := by decide +kernel
theorem dX4_choose_40 : decode cX4_choose 40 = .ok (.aload_n 0, 1) := by decide +kernel
theorem dX4_choose_41 : decode cX4_choose 41 = .ok (.iload_n 2, 1) := by decide +kernel
theorem dX4_choose_42 : decode cX4_choose 42 = .ok (.putfield 92, 3) := by decide +kernel
theorem dX4_choose_45 : decode cX4_choose 45 = .ok (.iinc 2 1, 3) := by decide +kernel
theorem dX4_choose_48 : decode cX4_choose 48 = .ok (.goto (-44), 3) := by decide +kernel
theorem dX4_choose_51 : decode cX4_choose 51 = .ok (.iload_n 1, 1) := by decide +kernel
theorem dX4_choose_52 : decode cX4_choose 52 = .ok (.iconst (-1), 1) := by decide +kernel
theorem dX4_choose_53 : decode cX4_choose 53 = .ok (.if_icmp .ne 5, 3) := by decide +kernel
theorem dX4_choose_56 : decode cX4_choose 56 = .ok (.iconst 0, 1) := by decide +kernel
theorem dX4_choose_57 : decode cX4_choose 57 = .ok (.ireturn, 1) := by decide +kernel
theorem dX4_choose_58 : decode cX4_choose 58 = .ok (.aload_n 0, 1) := by decide +kernel
theorem dX4_choose_59 : decode cX4_choose 59 = .ok (.iload_n 1, 1) := by decide +kernel
theorem dX4_choose_60 : decode cX4_choose 60 = .ok (.ldc 87, 2) := by decide +kernel
theorem dX4_choose_62 : decode cX4_choose 62 = .ok (.idiv, 1) := by decide +kernel
theorem dX4_choose_63 : decode cX4_choose 63 = .ok (.putfield 95, 3) := by decide +kernel
theorem dX4_choose_66 : decode cX4_choose 66 = .ok (.aload_n 0, 1) := by decide +kernel
theorem dX4_choose_67 : decode cX4_choose 67 = .ok (.iload_n 1, 1) := by decide +kernel
theorem dX4_choose_68 : decode cX4_choose 68 = .ok (.ldc 87, 2) := by decide +kernel
theorem dX4_choose_70 : decode cX4_choose 70 = .ok (.irem, 1) := by decide +kernel
theorem dX4_choose_71 : decode cX4_choose 71 = .ok (.invokevirtual 98, 3) := by decide +kernel
theorem dX4_choose_74 : decode cX4_choose 74 = .ok (.iconst 1, 1) := by decide +kernel
theorem dX4_choose_75 : decode cX4_choose 75 = .ok (.ireturn, 1) := by decide +kernel
theorem dX4_tellString_0 : decode cX4_tellString 0 = .ok (.iload_n 1, 1) := by decide +kernel
theorem dX4_tellString_1 : decode cX4_tellString 1 = .ok (.istore_n 2, 1) := by decide +kernel
theorem dX4_tellString_2 : decode cX4_tellString 2 = .ok (.aload_n 0, 1) := by decide +kernel
theorem dX4_tellString_3 : decode cX4_tellString 3 = .ok (.getfield 11, 3) := by decide +kernel
theorem dX4_tellString_6 : decode cX4_tellString 6 = .ok (.iconst (-1), 1) := by decide +kernel
theorem dX4_tellString_7 : decode cX4_tellString 7 = .ok (.invokestatic 49, 3) := by decide +kernel
theorem dX4_tellString_10 : decode cX4_tellString 10 = .ok (.iconst 0, 1) := by decide +kernel
theorem dX4_tellString_11 : decode cX4_tellString 11 = .ok (.istore_n 3, 1) := by decide +kernel
theorem dX4_tellString_12 : decode cX4_tellString 12 = .ok (.iload_n 3, 1) := by decide +kernel
theorem dX4_tellString_13 : decode cX4_tellString 13 = .ok (.aload_n 0, 1) := by decide +kernel
theorem dX4_tellString_14 : decode cX4_tellString 14 = .ok (.getfield 27, 3) := by decide +kernel
theorem dX4_tellString_17 : decode cX4_tellString 17 = .ok (.getfield 55, 3) := by decide +kernel
theorem dX4_tellString_20 : decode cX4_tellString 20 = .ok (.if_icmp .ge 22, 3) := by decide +kernel
theorem dX4_tellString_23 : decode cX4_tellString 23 = .ok (.aload_n 0, 1) := by decide +kernel
theorem dX4_tellString_24 : decode cX4_tellString 24 = .ok (.getfield 11, 3) := by decide +kernel
theorem dX4_tellString_27 : decode cX4_tellString 27 = .ok (.iload_n 3, 1) := by decide +kernel
theorem dX4_tellString_28 : decode cX4_tellString 28 = .ok (.iload_n 2, 1) := by decide +kernel
theorem dX4_tellString_29 : decode cX4_tellString 29 = .ok (.iconst 5, 1) := by decide +kernel
theorem dX4_tellString_30 : decode cX4_tellString 30 = .ok (.irem, 1) := by decide +kernel
theorem dX4_tellString_31 : decode cX4_tellString 31 = .ok (.iastore, 1) := by decide +kernel
theorem dX4_tellString_32 : decode cX4_tellString 32 = .ok (.iload_n 2, 1) := by decide +kernel
theorem dX4_tellString_33 : decode cX4_tellString 33 = .ok (.iconst 5, 1) := by decide +kernel
theorem dX4_tellString_34 : decode cX4_tellString 34 = .ok (.idiv, 1) := by decide +kernel
theorem dX4_tellString_35 : decode cX4_tellString 35 = .ok (.istore_n 2, 1) := by decide +kernel
theorem dX4_tellString_36 : decode cX4_tellString 36 = .ok (.iinc 3 1, 3) := by decide +kernel
theorem dX4_tellString_39 : decode cX4_tellString 39 = .ok (.goto (-27), 3) := by decide +kernel
theorem dX4_tellString_42 : decode cX4_tellString 42 = .ok (.return_, 1) := by decide +kernel
theorem dX5_init_0 : decode cX5_init 0 = .ok (.aload_n 0, 1) := by decide +kernel
theorem dX5_init_1 : decode cX5_init 1 = .ok (.invokespecial 3, 3) := by decide +kernel
theorem dX5_init_4 : decode cX5_init 4 = .ok (.aload_n 0, 1) := by decide +kernel
theorem dX5_init_5 : decode cX5_init 5 = .ok (.iconst 4, 1) := by decide +kernel
theorem dX5_init_6 : decode cX5_init 6 = .ok (.newarray .int, 2) := by decide +kernel
theorem dX5_init_8 : decode cX5_init 8 = .ok (.putfield 9, 3) := by decide +kernel
theorem dX5_init_11 : decode cX5_init 11 = .ok (.aload_n 0, 1) := by decide +kernel
theorem dX5_init_12 : decode cX5_init 12 = .ok (.iconst 5, 1) := by decide +kernel
theorem dX5_init_13 : decode cX5_init 13 = .ok (.newarray .int, 2) := by decide +kernel
theorem dX5_init_15 : decode cX5_init 15 = .ok (.putfield 15, 3) := by decide +kernel
theorem dX5_init_18 : decode cX5_init 18 = .ok (.aload_n 0, 1) := by decide +kernel
theorem dX5_init_19 : decode cX5_init 19 = .ok (.bipush 25, 2) := by decide +kernel
theorem dX5_init_21 : decode cX5_init 21 = .ok (.newarray .int, 2) := by decide +kernel
theorem dX5_init_23 : decode cX5_init 23 = .ok (.putfield 18, 3) := by decide +kernel
theorem dX5_init_26 : decode cX5_init 26 = .ok (.aload_n 0, 1) := by decide +kernel
theorem dX5_init_27 : decode cX5_init 27 = .ok (.bipush 8, 2) := by decide +kernel
theorem dX5_init_29 : decode cX5_init 29 = .ok (.newarray .int, 2) := by decide +kernel
theorem dX5_init_31 : decode cX5_init 31 = .ok (.putfield 21, 3) := by decide +kernel
theorem dX5_init_34 : decode cX5_init 34 = .ok (.return_, 1) := by decide +kernel
theorem dX5_becomes_0 : decode cX5_becomes 0 = .ok (.aload_n 0, 1) := by decide +kernel
theorem dX5_becomes_1 : decode cX5_becomes 1 = .ok (.aload_n 1, 1) := by decide +kernel
theorem dX5_becomes_2 : decode cX5_becomes 2 = .ok (.getfield 24, 3) := by decide +kernel
theorem dX5_becomes_5 : decode cX5_becomes 5 = .ok (.putfield 24, 3) := by decide +kernel
theorem dX5_becomes_8 : decode cX5_becomes 8 = .ok (.aload_n 0, 1) := by decide +kernel
theorem dX5_becomes_9 : decode cX5_becomes 9 = .ok (.aload_n 1, 1) := by decide +kernel
theorem dX5_becomes_10 : decode cX5_becomes 10 = .ok (.getfield 28, 3) := by decide +kernel
theorem dX5_becomes_13 : decode cX5_becomes 13 = .ok (.putfield 28, 3) := by decide +kernel
theorem dX5_becomes_16 : decode cX5_becomes 16 = .ok (.aload_n 1, 1) := by decide +kernel
theorem dX5_becomes_17 : decode cX5_becomes 17 = .ok (.getfield 9, 3) := by decide +kernel
theorem dX5_becomes_20 : decode cX5_becomes 20 = .ok (.iconst 0, 1) := by decide +kernel
theorem dX5_becomes_21 : decode cX5_becomes 21 = .ok (.aload_n 0, 1) := by decide +kernel
theorem dX5_becomes_22 : decode cX5_becomes 22 = .ok (.getfield 9, 3) := by decide +kernel
theorem dX5_becomes_25 : decode cX5_becomes 25 = .ok (.iconst 0, 1) := by decide +kernel
theorem dX5_becomes_26 : decode cX5_becomes 26 = .ok (.iconst 4, 1) := by decide +kernel
theorem dX5_becomes_27 : decode cX5_becomes 27 = .ok (.invokestatic 31, 3) := by decide +kernel
theorem dX5_becomes_30 : decode cX5_becomes 30 = .ok (.aload_n 1, 1) := by decide +kernel
theorem dX5_becomes_31 : decode cX5_becomes 31 = .ok (.getfield 15, 3) := by decide +kernel
theorem dX5_becomes_34 : decode cX5_becomes 34 = .ok (.iconst 0, 1) := by decide +kernel
theorem dX5_becomes_35 : decode cX5_becomes 35 = .ok (.aload_n 0, 1) := by decide +kernel
theorem dX5_becomes_36 : decode cX5_becomes 36 = .ok (.getfield 15, 3) := by decide +kernel
theorem dX5_becomes_39 : decode cX5_becomes 39 = .ok (.iconst 0, 1) := by decide +kernel
theorem dX5_becomes_40 : decode cX5_becomes 40 = .ok (.iconst 5, 1) := by decide +kernel
theorem dX5_becomes_41 : decode cX5_becomes 41 = .ok (.invokestatic 31, 3) := by decide +kernel
theorem dX5_becomes_44 : decode cX5_becomes 44 = .ok (.aload_n 1, 1) := by decide +kernel
theorem dX5_becomes_45 : decode cX5_becomes 45 = .ok (.getfield 18, 3) := by decide +kernel
theorem dX5_becomes_48 : decode cX5_becomes 48 = .ok (.iconst 0, 1) := by decide +kernel
theorem dX5_becomes_49 : decode cX5_becomes 49 = .ok (.aload_n 0, 1) := by decide +kernel
theorem dX5_becomes_50 : decode cX5_becomes 50 = .ok (.getfield 18, 3) := by decide +kernel
theorem dX5_becomes_53 : decode cX5_becomes 53 = .ok (.iconst 0, 1) := by decide +kernel
theorem dX5_becomes_54 : decode cX5_becomes 54 = .ok (.bipush 25, 2) := by decide +kernel
theorem dX5_becomes_56 : decode cX5_becomes 56 = .ok (.invokestatic 31, 3) := by decide +kernel
theorem dX5_becomes_59 : decode cX5_becomes 59 = .ok (.aload_n 1, 1) := by decide +kernel
theorem dX5_becomes_60 : decode cX5_becomes 60 = .ok (.getfield 21, 3) := by decide +kernel
theorem dX5_becomes_63 : decode cX5_becomes 63 = .ok (.iconst 0, 1) := by decide +kernel
theorem dX5_becomes_64 : decode cX5_becomes 64 = .ok (.aload_n 0, 1) := by decide +kernel
theorem dX5_becomes_65 : decode cX5_becomes 65 = .ok (.getfield 21, 3) := by decide +kernel
theorem dX5_becomes_68 : decode cX5_becomes 68 = .ok (.iconst 0, 1) := by decide +kernel
theorem dX5_becomes_69 : decode cX5_becomes 69 = .ok (.bipush 8, 2) := by decide +kernel
theorem dX5_becomes_71 : decode cX5_becomes 71 = .ok (.invokestatic 31, 3) := by decide +kernel
theorem dX5_becomes_74 : decode cX5_becomes 74 = .ok (.return_, 1) := by decide +kernel
theorem dX5_figure_0 : decode cX5_figure 0 = .ok (.aload_n 0, 1) := by decide +kernel
theorem dX5_figure_1 : decode cX5_figure 1 = .ok (.getfield 18, 3) := by decide +kernel
theorem dX5_figure_4 : decode cX5_figure 4 = .ok (.iload_n 1, 1) := by decide +kernel
theorem dX5_figure_5 : decode cX5_figure 5 = .ok (.iconst 5, 1) := by decide +kernel
theorem dX5_figure_6 : decode cX5_figure 6 = .ok (.imul, 1) := by decide +kernel
theorem dX5_figure_7 : decode cX5_figure 7 = .ok (.iload_n 2, 1) := by decide +kernel
theorem dX5_figure_8 : decode cX5_figure 8 = .ok (.iadd, 1) := by decide +kernel
theorem dX5_figure_9 : decode cX5_figure 9 = .ok (.iaload, 1) := by decide +kernel
theorem dX5_figure_10 : decode cX5_figure 10 = .ok (.ireturn, 1) := by decide +kernel
theorem dX5_putFigure_0 : decode cX5_putFigure 0 = .ok (.aload_n 0, 1) := by decide +kernel
theorem dX5_putFigure_1 : decode cX5_putFigure 1 = .ok (.getfield 18, 3) := by decide +kernel
theorem dX5_putFigure_4 : decode cX5_putFigure 4 = .ok (.iload_n 1, 1) := by decide +kernel
theorem dX5_putFigure_5 : decode cX5_putFigure 5 = .ok (.iconst 5, 1) := by decide +kernel
theorem dX5_putFigure_6 : decode cX5_putFigure 6 = .ok (.imul, 1) := by decide +kernel
theorem dX5_putFigure_7 : decode cX5_putFigure 7 = .ok (.iload_n 2, 1) := by decide +kernel
theorem dX5_putFigure_8 : decode cX5_putFigure 8 = .ok (.iadd, 1) := by decide +kernel
theorem dX5_putFigure_9 : decode cX5_putFigure 9 = .ok (.iload_n 3, 1) := by decide +kernel
theorem dX5_putFigure_10 : decode cX5_putFigure 10 = .ok (.iastore, 1) := by decide +kernel
theorem dX5_putFigure_11 : decode cX5_putFigure 11 = .ok (.return_, 1) := by decide +kernel
theorem dX5_laidFigure_0 : decode cX5_laidFigure 0 = .ok (.aload_n 0, 1) := by decide +kernel
theorem dX5_laidFigure_1 : decode cX5_laidFigure 1 = .ok (.getfield 21, 3) := by decide +kernel
theorem dX5_laidFigure_4 : decode cX5_laidFigure 4 = .ok (.iload_n 1, 1) := by decide +kernel
theorem dX5_laidFigure_5 : decode cX5_laidFigure 5 = .ok (.iaload, 1) := by decide +kernel
theorem dX5_laidFigure_6 : decode cX5_laidFigure 6 = .ok (.iconst (-1), 1) := by decide +kernel
theorem dX5_laidFigure_7 : decode cX5_laidFigure 7 = .ok (.if_icmp .ne 7, 3) := by decide +kernel
theorem dX5_laidFigure_10 : decode cX5_laidFigure 10 = .ok (.iconst 0, 1) := by decide +kernel
theorem dX5_laidFigure_11 : decode cX5_laidFigure 11 = .ok (.goto 14, 3) := by decide +kernel
theorem dX5_laidFigure_14 : decode cX5_laidFigure 14 = .ok (.aload_n 0, 1) := by decide +kernel
theorem dX5_laidFigure_15 : decode cX5_laidFigure 15 = .ok (.aload_n 0, 1) := by decide +kernel
theorem dX5_laidFigure_16 : decode cX5_laidFigure 16 = .ok (.getfield 21, 3) := by decide +kernel
theorem dX5_laidFigure_19 : decode cX5_laidFigure 19 = .ok (.iload_n 1, 1) := by decide +kernel
theorem dX5_laidFigure_20 : decode cX5_laidFigure 20 = .ok (.iaload, 1) := by decide +kernel
theorem dX5_laidFigure_21 : decode cX5_laidFigure 21 = .ok (.iload_n 2, 1) := by decide +kernel
theorem dX5_laidFigure_22 : decode cX5_laidFigure 22 = .ok (.invokevirtual 37, 3) := by decide +kernel
theorem dX5_laidFigure_25 : decode cX5_laidFigure 25 = .ok (.ireturn, 1) := by decide +kernel
theorem dX5_sumOfLaid_0 : decode cX5_sumOfLaid 0 = .ok (.iconst 0, 1) := by decide +kernel
theorem dX5_sumOfLaid_1 : decode cX5_sumOfLaid 1 = .ok (.istore_n 2, 1) := by decide +kernel
theorem dX5_sumOfLaid_2 : decode cX5_sumOfLaid 2 = .ok (.iconst 0, 1) := by decide +kernel
theorem dX5_sumOfLaid_3 : decode cX5_sumOfLaid 3 = .ok (.istore_n 3, 1) := by decide +kernel
theorem dX5_sumOfLaid_4 : decode cX5_sumOfLaid 4 = .ok (.iload_n 3, 1) := by decide +kernel
theorem dX5_sumOfLaid_5 : decode cX5_sumOfLaid 5 = .ok (.aload_n 0, 1) := by decide +kernel
theorem dX5_sumOfLaid_6 : decode cX5_sumOfLaid 6 = .ok (.getfield 24, 3) := by decide +kernel
theorem dX5_sumOfLaid_9 : decode cX5_sumOfLaid 9 = .ok (.if_icmp .ge 18, 3) := by decide +kernel
theorem dX5_sumOfLaid_12 : decode cX5_sumOfLaid 12 = .ok (.iload_n 2, 1) := by decide +kernel
theorem dX5_sumOfLaid_13 : decode cX5_sumOfLaid 13 = .ok (.aload_n 0, 1) := by decide +kernel
theorem dX5_sumOfLaid_14 : decode cX5_sumOfLaid 14 = .ok (.iload_n 3, 1) := by decide +kernel
theorem dX5_sumOfLaid_15 : decode cX5_sumOfLaid 15 = .ok (.iload_n 1, 1) := by decide +kernel
theorem dX5_sumOfLaid_16 : decode cX5_sumOfLaid 16 = .ok (.invokevirtual 41, 3) := by decide +kernel
theorem dX5_sumOfLaid_19 : decode cX5_sumOfLaid 19 = .ok (.iadd, 1) := by decide +kernel
theorem dX5_sumOfLaid_20 : decode cX5_sumOfLaid 20 = .ok (.istore_n 2, 1) := by decide +kernel
theorem dX5_sumOfLaid_21 : decode cX5_sumOfLaid 21 = .ok (.iinc 3 1, 3) := by decide +kernel
theorem dX5_sumOfLaid_24 : decode cX5_sumOfLaid 24 = .ok (.goto (-20), 3) := by decide +kernel
theorem dX5_sumOfLaid_27 : decode cX5_sumOfLaid 27 = .ok (.iload_n 2, 1) := by decide +kernel
theorem dX5_sumOfLaid_28 : decode cX5_sumOfLaid 28 = .ok (.ireturn, 1) := by decide +kernel
theorem dX5_howManyLaid_0 : decode cX5_howManyLaid 0 = .ok (.iconst 0, 1) := by decide +kernel
theorem dX5_howManyLaid_1 : decode cX5_howManyLaid 1 = .ok (.istore_n 1, 1) := by decide +kernel
theorem dX5_howManyLaid_2 : decode cX5_howManyLaid 2 = .ok (.iconst 0, 1) := by decide +kernel
theorem dX5_howManyLaid_3 : decode cX5_howManyLaid 3 = .ok (.istore_n 2, 1) := by decide +kernel
theorem dX5_howManyLaid_4 : decode cX5_howManyLaid 4 = .ok (.iload_n 2, 1) := by decide +kernel
theorem dX5_howManyLaid_5 : decode cX5_howManyLaid 5 = .ok (.aload_n 0, 1) := by decide +kernel
theorem dX5_howManyLaid_6 : decode cX5_howManyLaid 6 = .ok (.getfield 24, 3) := by decide +kernel
theorem dX5_howManyLaid_9 : decode cX5_howManyLaid 9 = .ok (.if_icmp .ge 22, 3) := by decide +kernel
theorem dX5_howManyLaid_12 : decode cX5_howManyLaid 12 = .ok (.aload_n 0, 1) := by decide +kernel
theorem dX5_howManyLaid_13 : decode cX5_howManyLaid 13 = .ok (.getfield 21, 3) := by decide +kernel
theorem dX5_howManyLaid_16 : decode cX5_howManyLaid 16 = .ok (.iload_n 2, 1) := by decide +kernel
theorem dX5_howManyLaid_17 : decode cX5_howManyLaid 17 = .ok (.iaload, 1) := by decide +kernel
theorem dX5_howManyLaid_18 : decode cX5_howManyLaid 18 = .ok (.iconst (-1), 1) := by decide +kernel
theorem dX5_howManyLaid_19 : decode cX5_howManyLaid 19 = .ok (.if_icmp .eq 6, 3) := by decide +kernel
theorem dX5_howManyLaid_22 : decode cX5_howManyLaid 22 = .ok (.iinc 1 1, 3) := by decide +kernel
theorem dX5_howManyLaid_25 : decode cX5_howManyLaid 25 = .ok (.iinc 2 1, 3) := by decide +kernel
theorem dX5_howManyLaid_28 : decode cX5_howManyLaid 28 = .ok (.goto (-24), 3) := by decide +kernel
theorem dX5_howManyLaid_31 : decode cX5_howManyLaid 31 = .ok (.iload_n 1, 1) := by decide +kernel
theorem dX5_howManyLaid_32 : decode cX5_howManyLaid 32 = .ok (.ireturn, 1) := by decide +kernel
theorem dX5_burstLoad_0 : decode cX5_burstLoad 0 = .ok (.iconst 0, 1) := by decide +kernel
theorem dX5_burstLoad_1 : decode cX5_burstLoad 1 = .ok (.aload_n 0, 1) := by decide +kernel
theorem dX5_burstLoad_2 : decode cX5_burstLoad 2 = .ok (.getfield 9, 3) := by decide +kernel
theorem dX5_burstLoad_5 : decode cX5_burstLoad 5 = .ok (.iconst 1, 1) := by decide +kernel
theorem dX5_burstLoad_6 : decode cX5_burstLoad 6 = .ok (.iaload, 1) := by decide +kernel
theorem dX5_burstLoad_7 : decode cX5_burstLoad 7 = .ok (.aload_n 0, 1) := by decide +kernel
theorem dX5_burstLoad_8 : decode cX5_burstLoad 8 = .ok (.getfield 9, 3) := by decide +kernel
theorem dX5_burstLoad_11 : decode cX5_burstLoad 11 = .ok (.iconst 2, 1) := by decide +kernel
theorem dX5_burstLoad_12 : decode cX5_burstLoad 12 = .ok (.iaload, 1) := by decide +kernel
theorem dX5_burstLoad_13 : decode cX5_burstLoad 13 = .ok (.iload_n 1, 1) := by decide +kernel
theorem dX5_burstLoad_14 : decode cX5_burstLoad 14 = .ok (.imul, 1) := by decide +kernel
theorem dX5_burstLoad_15 : decode cX5_burstLoad 15 = .ok (.isub, 1) := by decide +kernel
theorem dX5_burstLoad_16 : decode cX5_burstLoad 16 = .ok (.invokestatic 44, 3) := by decide +kernel
theorem dX5_burstLoad_19 : decode cX5_burstLoad 19 = .ok (.ireturn, 1) := by decide +kernel
theorem dX5_crushLoad_0 : decode cX5_crushLoad 0 = .ok (.aload_n 0, 1) := by decide +kernel
theorem dX5_crushLoad_1 : decode cX5_crushLoad 1 = .ok (.getfield 9, 3) := by decide +kernel
theorem dX5_crushLoad_4 : decode cX5_crushLoad 4 = .ok (.iconst 0, 1) := by decide +kernel
theorem dX5_crushLoad_5 : decode cX5_crushLoad 5 = .ok (.iaload, 1) := by decide +kernel
theorem dX5_crushLoad_6 : decode cX5_crushLoad 6 = .ok (.iload_n 1, 1) := by decide +kernel
theorem dX5_crushLoad_7 : decode cX5_crushLoad 7 = .ok (.iconst 1, 1) := by decide +kernel
theorem dX5_crushLoad_8 : decode cX5_crushLoad 8 = .ok (.iadd, 1) := by decide +kernel
theorem dX5_crushLoad_9 : decode cX5_crushLoad 9 = .ok (.imul, 1) := by decide +kernel
theorem dX5_crushLoad_10 : decode cX5_crushLoad 10 = .ok (.ireturn, 1) := by decide +kernel
theorem dX5_pullLoad_0 : decode cX5_pullLoad 0 = .ok (.aload_n 0, 1) := by decide +kernel
theorem dX5_pullLoad_1 : decode cX5_pullLoad 1 = .ok (.getfield 21, 3) := by decide +kernel
theorem dX5_pullLoad_4 : decode cX5_pullLoad 4 = .ok (.iload_n 1, 1) := by decide +kernel
theorem dX5_pullLoad_5 : decode cX5_pullLoad 5 = .ok (.iaload, 1) := by decide +kernel
theorem dX5_pullLoad_6 : decode cX5_pullLoad 6 = .ok (.iconst (-1), 1) := by decide +kernel
theorem dX5_pullLoad_7 : decode cX5_pullLoad 7 = .ok (.if_icmp .ne 5, 3) := by decide +kernel
theorem dX5_pullLoad_10 : decode cX5_pullLoad 10 = .ok (.iconst 0, 1) := by decide +kernel
theorem dX5_pullLoad_11 : decode cX5_pullLoad 11 = .ok (.ireturn, 1) := by decide +kernel
theorem dX5_pullLoad_12 : decode cX5_pullLoad 12 = .ok (.iconst 0, 1) := by decide +kernel
theorem dX5_pullLoad_13 : decode cX5_pullLoad 13 = .ok (.istore_n 2, 1) := by decide +kernel
theorem dX5_pullLoad_14 : decode cX5_pullLoad 14 = .ok (.iload_n 1, 1) := by decide +kernel
theorem dX5_pullLoad_15 : decode cX5_pullLoad 15 = .ok (.istore_n 3, 1) := by decide +kernel
theorem dX5_pullLoad_16 : decode cX5_pullLoad 16 = .ok (.iload_n 3, 1) := by decide +kernel
theorem dX5_pullLoad_17 : decode cX5_pullLoad 17 = .ok (.aload_n 0, 1) := by decide +kernel
theorem dX5_pullLoad_18 : decode cX5_pullLoad 18 = .ok (.getfield 24, 3) := by decide +kernel
theorem dX5_pullLoad_21 : decode cX5_pullLoad 21 = .ok (.if_icmp .ge 18, 3) := by decide +kernel
theorem dX5_pullLoad_24 : decode cX5_pullLoad 24 = .ok (.iload_n 2, 1) := by decide +kernel
theorem dX5_pullLoad_25 : decode cX5_pullLoad 25 = .ok (.aload_n 0, 1) := by decide +kernel
theorem dX5_pullLoad_26 : decode cX5_pullLoad 26 = .ok (.iload_n 3, 1) := by decide +kernel
theorem dX5_pullLoad_27 : decode cX5_pullLoad 27 = .ok (.iconst 3, 1) := by decide +kernel
theorem dX5_pullLoad_28 : decode cX5_pullLoad 28 = .ok (.invokevirtual 41, 3) := by decide +kernel
theorem dX5_pullLoad_31 : decode cX5_pullLoad 31 = .ok (.iadd, 1) := by decide +kernel
theorem dX5_pullLoad_32 : decode cX5_pullLoad 32 = .ok (.istore_n 2, 1) := by decide +kernel
theorem dX5_pullLoad_33 : decode cX5_pullLoad 33 = .ok (.iinc 3 1, 3) := by decide +kernel
theorem dX5_pullLoad_36 : decode cX5_pullLoad 36 = .ok (.goto (-20), 3) := by decide +kernel
theorem dX5_pullLoad_39 : decode cX5_pullLoad 39 = .ok (.iload_n 2, 1) := by decide +kernel
theorem dX5_pullLoad_40 : decode cX5_pullLoad 40 = .ok (.ireturn, 1) := by decide +kernel
theorem dX5_burstBorne_0 : decode cX5_burstBorne 0 = .ok (.aload_n 0, 1) := by decide +kernel
theorem dX5_burstBorne_1 : decode cX5_burstBorne 1 = .ok (.iload_n 1, 1) := by decide +kernel
theorem dX5_burstBorne_2 : decode cX5_burstBorne 2 = .ok (.iconst 0, 1) := by decide +kernel
theorem dX5_burstBorne_3 : decode cX5_burstBorne 3 = .ok (.invokevirtual 37, 3) := by decide +kernel
theorem dX5_burstBorne_6 : decode cX5_burstBorne 6 = .ok (.istore_n 2, 1) := by decide +kernel
theorem dX5_burstBorne_7 : decode cX5_burstBorne 7 = .ok (.aload_n 0, 1) := by decide +kernel
theorem dX5_burstBorne_8 : decode cX5_burstBorne 8 = .ok (.getfield 15, 3) := by decide +kernel
theorem dX5_burstBorne_11 : decode cX5_burstBorne 11 = .ok (.iload_n 1, 1) := by decide +kernel
theorem dX5_burstBorne_12 : decode cX5_burstBorne 12 = .ok (.iaload, 1) := by decide +kernel
theorem dX5_burstBorne_13 : decode cX5_burstBorne 13 = .ok (.iconst 5, 1) := by decide +kernel
theorem dX5_burstBorne_14 : decode cX5_burstBorne 14 = .ok (.if_icmp .ne 10, 3) := by decide +kernel
theorem dX5_burstBorne_17 : decode cX5_burstBorne 17 = .ok (.iload_n 2, 1) := by decide +kernel
theorem dX5_burstBorne_18 : decode cX5_burstBorne 18 = .ok (.bipush 10, 2) := by decide +kernel
theorem dX5_burstBorne_20 : decode cX5_burstBorne 20 = .ok (.iadd, 1) := by decide +kernel
theorem dX5_burstBorne_21 : decode cX5_burstBorne 21 = .ok (.goto 4, 3) := by decide +kernel
theorem dX5_burstBorne_24 : decode cX5_burstBorne 24 = .ok (.iload_n 2, 1) := by decide +kernel
theorem dX5_burstBorne_25 : decode cX5_burstBorne 25 = .ok (.ireturn, 1) := by decide +kernel
theorem dX5_pullBorne_0 : decode cX5_pullBorne 0 = .ok (.aload_n 0, 1) := by decide +kernel
theorem dX5_pullBorne_1 : decode cX5_pullBorne 1 = .ok (.iload_n 1, 1) := by decide +kernel
theorem dX5_pullBorne_2 : decode cX5_pullBorne 2 = .ok (.iconst 2, 1) := by decide +kernel
theorem dX5_pullBorne_3 : decode cX5_pullBorne 3 = .ok (.invokevirtual 37, 3) := by decide +kernel
theorem dX5_pullBorne_6 : decode cX5_pullBorne 6 = .ok (.istore_n 2, 1) := by decide +kernel
theorem dX5_pullBorne_7 : decode cX5_pullBorne 7 = .ok (.aload_n 0, 1) := by decide +kernel
theorem dX5_pullBorne_8 : decode cX5_pullBorne 8 = .ok (.getfield 15, 3) := by decide +kernel
theorem dX5_pullBorne_11 : decode cX5_pullBorne 11 = .ok (.iload_n 1, 1) := by decide +kernel
theorem dX5_pullBorne_12 : decode cX5_pullBorne 12 = .ok (.iaload, 1) := by decide +kernel
theorem dX5_pullBorne_13 : decode cX5_pullBorne 13 = .ok (.iconst 3, 1) := by decide +kernel
theorem dX5_pullBorne_14 : decode cX5_pullBorne 14 = .ok (.if_icmp .ne 11, 3) := by decide +kernel
theorem dX5_pullBorne_17 : decode cX5_pullBorne 17 = .ok (.iload_n 2, 1) := by decide +kernel
theorem dX5_pullBorne_18 : decode cX5_pullBorne 18 = .ok (.iconst 1, 1) := by decide +kernel
theorem dX5_pullBorne_19 : decode cX5_pullBorne 19 = .ok (.iadd, 1) := by decide +kernel
theorem dX5_pullBorne_20 : decode cX5_pullBorne 20 = .ok (.iconst 2, 1) := by decide +kernel
theorem dX5_pullBorne_21 : decode cX5_pullBorne 21 = .ok (.idiv, 1) := by decide +kernel
theorem dX5_pullBorne_22 : decode cX5_pullBorne 22 = .ok (.goto 4, 3) := by decide +kernel
theorem dX5_pullBorne_25 : decode cX5_pullBorne 25 = .ok (.iload_n 2, 1) := by decide +kernel
theorem dX5_pullBorne_26 : decode cX5_pullBorne 26 = .ok (.ireturn, 1) := by decide +kernel
theorem dX5_crushBorne_0 : decode cX5_crushBorne 0 = .ok (.aload_n 0, 1) := by decide +kernel
theorem dX5_crushBorne_1 : decode cX5_crushBorne 1 = .ok (.iload_n 1, 1) := by decide +kernel
theorem dX5_crushBorne_2 : decode cX5_crushBorne 2 = .ok (.iconst 1, 1) := by decide +kernel
theorem dX5_crushBorne_3 : decode cX5_crushBorne 3 = .ok (.invokevirtual 37, 3) := by decide +kernel
theorem dX5_crushBorne_6 : decode cX5_crushBorne 6 = .ok (.istore_n 3, 1) := by decide +kernel
theorem dX5_crushBorne_7 : decode cX5_crushBorne 7 = .ok (.aload_n 0, 1) := by decide +kernel
theorem dX5_crushBorne_8 : decode cX5_crushBorne 8 = .ok (.getfield 15, 3) := by decide +kernel
theorem dX5_crushBorne_11 : decode cX5_crushBorne 11 = .ok (.iload_n 1, 1) := by decide +kernel
theorem dX5_crushBorne_12 : decode cX5_crushBorne 12 = .ok (.iaload, 1) := by decide +kernel
theorem dX5_crushBorne_13 : decode cX5_crushBorne 13 = .ok (.iconst 4, 1) := by decide +kernel
theorem dX5_crushBorne_14 : decode cX5_crushBorne 14 = .ok (.if_icmp .eq 13, 3) := by decide +kernel
theorem dX5_crushBorne_17 : decode cX5_crushBorne 17 = .ok (.aload_n 0, 1) := by decide +kernel
theorem dX5_crushBorne_18 : decode cX5_crushBorne 18 = .ok (.getfield 15, 3) := by decide +kernel
theorem dX5_crushBorne_21 : decode cX5_crushBorne 21 = .ok (.iload_n 1, 1) := by decide +kernel
theorem dX5_crushBorne_22 : decode cX5_crushBorne 22 = .ok (.iaload, 1) := by decide +kernel
theorem dX5_crushBorne_23 : decode cX5_crushBorne 23 = .ok (.iconst 5, 1) := by decide +kernel
theorem dX5_crushBorne_24 : decode cX5_crushBorne 24 = .ok (.if_icmp .ne 5, 3) := by decide +kernel
theorem dX5_crushBorne_27 : decode cX5_crushBorne 27 = .ok (.iload_n 3, 1) := by decide +kernel
theorem dX5_crushBorne_28 : decode cX5_crushBorne 28 = .ok (.ireturn, 1) := by decide +kernel
theorem dX5_crushBorne_29 : decode cX5_crushBorne 29 = .ok (.iload_n 2, 1) := by decide +kernel
theorem dX5_crushBorne_30 : decode cX5_crushBorne 30 = .ok (.aload_n 0, 1) := by decide +kernel
theorem dX5_crushBorne_31 : decode cX5_crushBorne 31 = .ok (.iload_n 1, 1) := by decide +kernel
theorem dX5_crushBorne_32 : decode cX5_crushBorne 32 = .ok (.invokevirtual 49, 3) := by decide +kernel
theorem dX5_crushBorne_35 : decode cX5_crushBorne 35 = .ok (.invokestatic 53, 3) := by decide +kernel
theorem dX5_crushBorne_38 : decode cX5_crushBorne 38 = .ok (.istore 4, 2) := by decide +kernel
theorem dX5_crushBorne_40 : decode cX5_crushBorne 40 = .ok (.iload_n 3, 1) := by decide +kernel
theorem dX5_crushBorne_41 : decode cX5_crushBorne 41 = .ok (.bipush 10, 2) := by decide +kernel
theorem dX5_crushBorne_43 : decode cX5_crushBorne 43 = .ok (.aload_n 0, 1) := by decide +kernel
theorem dX5_crushBorne_44 : decode cX5_crushBorne 44 = .ok (.getfield 15, 3) := by decide +kernel
theorem dX5_crushBorne_47 : decode cX5_crushBorne 47 = .ok (.iload_n 1, 1) := by decide +kernel
theorem dX5_crushBorne_48 : decode cX5_crushBorne 48 = .ok (.iaload, 1) := by decide +kernel
theorem dX5_crushBorne_49 : decode cX5_crushBorne 49 = .ok (.iconst 2, 1) := by decide +kernel
theorem dX5_crushBorne_50 : decode cX5_crushBorne 50 = .ok (.if_icmp .ne 10, 3) := by decide +kernel
theorem dX5_crushBorne_53 : decode cX5_crushBorne 53 = .ok (.iload 4, 2) := by decide +kernel
theorem dX5_crushBorne_55 : decode cX5_crushBorne 55 = .ok (.iconst 2, 1) := by decide +kernel
theorem dX5_crushBorne_56 : decode cX5_crushBorne 56 = .ok (.idiv, 1) := by decide +kernel
theorem dX5_crushBorne_57 : decode cX5_crushBorne 57 = .ok (.goto 5, 3) := by decide +kernel
theorem dX5_crushBorne_60 : decode cX5_crushBorne 60 = .ok (.iload 4, 2) := by decide +kernel
theorem dX5_crushBorne_62 : decode cX5_crushBorne 62 = .ok (.isub, 1) := by decide +kernel
theorem dX5_crushBorne_63 : decode cX5_crushBorne 63 = .ok (.imul, 1) := by decide +kernel
theorem dX5_crushBorne_64 : decode cX5_crushBorne 64 = .ok (.bipush 10, 2) := by decide +kernel
theorem dX5_crushBorne_66 : decode cX5_crushBorne 66 = .ok (.idiv, 1) := by decide +kernel
theorem dX5_crushBorne_67 : decode cX5_crushBorne 67 = .ok (.ireturn, 1) := by decide +kernel
theorem dX5_dent_0 : decode cX5_dent 0 = .ok (.iload_n 1, 1) := by decide +kernel
theorem dX5_dent_1 : decode cX5_dent 1 = .ok (.iconst 1, 1) := by decide +kernel
theorem dX5_dent_2 : decode cX5_dent 2 = .ok (.if_icmp .ge 8, 3) := by decide +kernel
theorem dX5_dent_5 : decode cX5_dent 5 = .ok (.bipush 10, 2) := by decide +kernel
theorem dX5_dent_7 : decode cX5_dent 7 = .ok (.goto 14, 3) := by decide +kernel
theorem dX5_dent_10 : decode cX5_dent 10 = .ok (.bipush 10, 2) := by decide +kernel
theorem dX5_dent_12 : decode cX5_dent 12 = .ok (.bipush 10, 2) := by decide +kernel
theorem dX5_dent_14 : decode cX5_dent 14 = .ok (.iload_n 0, 1) := by decide +kernel
theorem dX5_dent_15 : decode cX5_dent 15 = .ok (.imul, 1) := by decide +kernel
theorem dX5_dent_16 : decode cX5_dent 16 = .ok (.iload_n 1, 1) := by decide +kernel
theorem dX5_dent_17 : decode cX5_dent 17 = .ok (.idiv, 1) := by decide +kernel
theorem dX5_dent_18 : decode cX5_dent 18 = .ok (.invokestatic 56, 3) := by decide +kernel
theorem dX5_dent_21 : decode cX5_dent 21 = .ok (.ireturn, 1) := by decide +kernel
theorem dX5_wouldHold_0 : decode cX5_wouldHold 0 = .ok (.aload_n 0, 1) := by decide +kernel
theorem dX5_wouldHold_1 : decode cX5_wouldHold 1 = .ok (.iload_n 2, 1) := by decide +kernel
theorem dX5_wouldHold_2 : decode cX5_wouldHold 2 = .ok (.invokevirtual 59, 3) := by decide +kernel
theorem dX5_wouldHold_5 : decode cX5_wouldHold 5 = .ok (.aload_n 0, 1) := by decide +kernel
theorem dX5_wouldHold_6 : decode cX5_wouldHold 6 = .ok (.iload_n 1, 1) := by decide +kernel
theorem dX5_wouldHold_7 : decode cX5_wouldHold 7 = .ok (.invokevirtual 62, 3) := by decide +kernel
theorem dX5_wouldHold_10 : decode cX5_wouldHold 10 = .ok (.if_icmp .lt 30, 3) := by decide +kernel
theorem dX5_wouldHold_13 : decode cX5_wouldHold 13 = .ok (.aload_n 0, 1) := by decide +kernel
theorem dX5_wouldHold_14 : decode cX5_wouldHold 14 = .ok (.iload_n 2, 1) := by decide +kernel
theorem dX5_wouldHold_15 : decode cX5_wouldHold 15 = .ok (.invokevirtual 49, 3) := by decide +kernel
theorem dX5_wouldHold_18 : decode cX5_wouldHold 18 = .ok (.iload_n 3, 1) := by decide +kernel
theorem dX5_wouldHold_19 : decode cX5_wouldHold 19 = .ok (.if_icmp .lt 21, 3) := by decide +kernel
theorem dX5_wouldHold_22 : decode cX5_wouldHold 22 = .ok (.aload_n 0, 1) := by decide +kernel
theorem dX5_wouldHold_23 : decode cX5_wouldHold 23 = .ok (.iload_n 2, 1) := by decide +kernel
theorem dX5_wouldHold_24 : decode cX5_wouldHold 24 = .ok (.iload_n 3, 1) := by decide +kernel
theorem dX5_wouldHold_25 : decode cX5_wouldHold 25 = .ok (.invokevirtual 65, 3) := by decide +kernel
theorem dX5_wouldHold_28 : decode cX5_wouldHold 28 = .ok (.aload_n 0, 1) := by decide +kernel
theorem dX5_wouldHold_29 : decode cX5_wouldHold 29 = .ok (.iload_n 1, 1) := by decide +kernel
theorem dX5_wouldHold_30 : decode cX5_wouldHold 30 = .ok (.invokevirtual 68, 3) := by decide +kernel
theorem dX5_wouldHold_33 : decode cX5_wouldHold 33 = .ok (.if_icmp .lt 7, 3) := by decide +kernel
theorem dX5_wouldHold_36 : decode cX5_wouldHold 36 = .ok (.iconst 1, 1) := by decide +kernel
theorem dX5_wouldHold_37 : decode cX5_wouldHold 37 = .ok (.goto 4, 3) := by decide +kernel
theorem dX5_wouldHold_40 : decode cX5_wouldHold 40 = .ok (.iconst 0, 1) := by decide +kernel
theorem dX5_wouldHold_41 : decode cX5_wouldHold 41 = .ok (.ireturn, 1) := by decide +kernel
theorem dX5_holds_0 : decode cX5_holds 0 = .ok (.aload_n 0, 1) := by decide +kernel
theorem dX5_holds_1 : decode cX5_holds 1 = .ok (.getfield 21, 3) := by decide +kernel
theorem dX5_holds_4 : decode cX5_holds 4 = .ok (.iload_n 1, 1) := by decide +kernel
theorem dX5_holds_5 : decode cX5_holds 5 = .ok (.iaload, 1) := by decide +kernel
theorem dX5_holds_6 : decode cX5_holds 6 = .ok (.iconst (-1), 1) := by decide +kernel
theorem dX5_holds_7 : decode cX5_holds 7 = .ok (.if_icmp .eq 26, 3) := by decide +kernel
theorem dX5_holds_10 : decode cX5_holds 10 = .ok (.aload_n 0, 1) := by decide +kernel
theorem dX5_holds_11 : decode cX5_holds 11 = .ok (.iload_n 1, 1) := by decide +kernel
theorem dX5_holds_12 : decode cX5_holds 12 = .ok (.aload_n 0, 1) := by decide +kernel
theorem dX5_holds_13 : decode cX5_holds 13 = .ok (.getfield 21, 3) := by decide +kernel
theorem dX5_holds_16 : decode cX5_holds 16 = .ok (.iload_n 1, 1) := by decide +kernel
theorem dX5_holds_17 : decode cX5_holds 17 = .ok (.iaload, 1) := by decide +kernel
theorem dX5_holds_18 : decode cX5_holds 18 = .ok (.aload_n 0, 1) := by decide +kernel
theorem dX5_holds_19 : decode cX5_holds 19 = .ok (.iload_n 1, 1) := by decide +kernel
theorem dX5_holds_20 : decode cX5_holds 20 = .ok (.invokevirtual 71, 3) := by decide +kernel
theorem dX5_holds_23 : decode cX5_holds 23 = .ok (.invokevirtual 74, 3) := by decide +kernel
theorem dX5_holds_26 : decode cX5_holds 26 = .ok (.ifCond .eq 7, 3) := by decide +kernel
theorem dX5_holds_29 : decode cX5_holds 29 = .ok (.iconst 1, 1) := by decide +kernel
theorem dX5_holds_30 : decode cX5_holds 30 = .ok (.goto 4, 3) := by decide +kernel
theorem dX5_holds_33 : decode cX5_holds 33 = .ok (.iconst 0, 1) := by decide +kernel
theorem dX5_holds_34 : decode cX5_holds 34 = .ok (.ireturn, 1) := by decide +kernel
theorem dX5_holdsFlawed_0 : decode cX5_holdsFlawed 0 = .ok (.aload_n 0, 1) := by decide +kernel
theorem dX5_holdsFlawed_1 : decode cX5_holdsFlawed 1 = .ok (.iload_n 1, 1) := by decide +kernel
theorem dX5_holdsFlawed_2 : decode cX5_holdsFlawed 2 = .ok (.invokevirtual 78, 3) := by decide +kernel
theorem dX5_holdsFlawed_5 : decode cX5_holdsFlawed 5 = .ok (.ifCond .eq 27, 3) := by decide +kernel
theorem dX5_holdsFlawed_8 : decode cX5_holdsFlawed 8 = .ok (.aload_n 0, 1) := by decide +kernel
theorem dX5_holdsFlawed_9 : decode cX5_holdsFlawed 9 = .ok (.aload_n 0, 1) := by decide +kernel
theorem dX5_holdsFlawed_10 : decode cX5_holdsFlawed 10 = .ok (.getfield 21, 3) := by decide +kernel
theorem dX5_holdsFlawed_13 : decode cX5_holdsFlawed 13 = .ok (.iload_n 1, 1) := by decide +kernel
theorem dX5_holdsFlawed_14 : decode cX5_holdsFlawed 14 = .ok (.iaload, 1) := by decide +kernel
theorem dX5_holdsFlawed_15 : decode cX5_holdsFlawed 15 = .ok (.invokevirtual 59, 3) := by decide +kernel
theorem dX5_holdsFlawed_18 : decode cX5_holdsFlawed 18 = .ok (.iconst 2, 1) := by decide +kernel
theorem dX5_holdsFlawed_19 : decode cX5_holdsFlawed 19 = .ok (.idiv, 1) := by decide +kernel
theorem dX5_holdsFlawed_20 : decode cX5_holdsFlawed 20 = .ok (.aload_n 0, 1) := by decide +kernel
theorem dX5_holdsFlawed_21 : decode cX5_holdsFlawed 21 = .ok (.iload_n 1, 1) := by decide +kernel
theorem dX5_holdsFlawed_22 : decode cX5_holdsFlawed 22 = .ok (.invokevirtual 62, 3) := by decide +kernel
theorem dX5_holdsFlawed_25 : decode cX5_holdsFlawed 25 = .ok (.if_icmp .lt 7, 3) := by decide +kernel
theorem dX5_holdsFlawed_28 : decode cX5_holdsFlawed 28 = .ok (.iconst 1, 1) := by decide +kernel
theorem dX5_holdsFlawed_29 : decode cX5_holdsFlawed 29 = .ok (.goto 4, 3) := by decide +kernel
theorem dX5_holdsFlawed_32 : decode cX5_holdsFlawed 32 = .ok (.iconst 0, 1) := by decide +kernel
theorem dX5_holdsFlawed_33 : decode cX5_holdsFlawed 33 = .ok (.ireturn, 1) := by decide +kernel
theorem dX5_howManyHold_0 : decode cX5_howManyHold 0 = .ok (.iconst 0, 1) := by decide +kernel
theorem dX5_howManyHold_1 : decode cX5_howManyHold 1 = .ok (.istore_n 1, 1) := by decide +kernel
theorem dX5_howManyHold_2 : decode cX5_howManyHold 2 = .ok (.iconst 0, 1) := by decide +kernel
theorem dX5_howManyHold_3 : decode cX5_howManyHold 3 = .ok (.istore_n 2, 1) := by decide +kernel
theorem dX5_howManyHold_4 : decode cX5_howManyHold 4 = .ok (.iload_n 2, 1) := by decide +kernel
theorem dX5_howManyHold_5 : decode cX5_howManyHold 5 = .ok (.aload_n 0, 1) := by decide +kernel
theorem dX5_howManyHold_6 : decode cX5_howManyHold 6 = .ok (.getfield 24, 3) := by decide +kernel
theorem dX5_howManyHold_9 : decode cX5_howManyHold 9 = .ok (.if_icmp .ge 20, 3) := by decide +kernel
theorem dX5_howManyHold_12 : decode cX5_howManyHold 12 = .ok (.aload_n 0, 1) := by decide +kernel
theorem dX5_howManyHold_13 : decode cX5_howManyHold 13 = .ok (.iload_n 2, 1) := by decide +kernel
theorem dX5_howManyHold_14 : decode cX5_howManyHold 14 = .ok (.invokevirtual 78, 3) := by decide +kernel
theorem dX5_howManyHold_17 : decode cX5_howManyHold 17 = .ok (.ifCond .eq 6, 3) := by decide +kernel
theorem dX5_howManyHold_20 : decode cX5_howManyHold 20 = .ok (.iinc 1 1, 3) := by decide +kernel
theorem dX5_howManyHold_23 : decode cX5_howManyHold 23 = .ok (.iinc 2 1, 3) := by decide +kernel
theorem dX5_howManyHold_26 : decode cX5_howManyHold 26 = .ok (.goto (-22), 3) := by decide +kernel
theorem dX5_howManyHold_29 : decode cX5_howManyHold 29 = .ok (.iload_n 1, 1) := by decide +kernel
theorem dX5_howManyHold_30 : decode cX5_howManyHold 30 = .ok (.ireturn, 1) := by decide +kernel
theorem dX5_firstThatFails_0 : decode cX5_firstThatFails 0 = .ok (.iconst 0, 1) := by decide +kernel
theorem dX5_firstThatFails_1 : decode cX5_firstThatFails 1 = .ok (.istore_n 1, 1) := by decide +kernel
theorem dX5_firstThatFails_2 : decode cX5_firstThatFails 2 = .ok (.iload_n 1, 1) := by decide +kernel
theorem dX5_firstThatFails_3 : decode cX5_firstThatFails 3 = .ok (.aload_n 0, 1) := by decide +kernel
theorem dX5_firstThatFails_4 : decode cX5_firstThatFails 4 = .ok (.getfield 24, 3) := by decide +kernel
theorem dX5_firstThatFails_7 : decode cX5_firstThatFails 7 = .ok (.if_icmp .ge 19, 3) := by decide +kernel
theorem dX5_firstThatFails_10 : decode cX5_firstThatFails 10 = .ok (.aload_n 0, 1) := by decide +kernel
theorem dX5_firstThatFails_11 : decode cX5_firstThatFails 11 = .ok (.iload_n 1, 1) := by decide +kernel
theorem dX5_firstThatFails_12 : decode cX5_firstThatFails 12 = .ok (.invokevirtual 78, 3) := by decide +kernel
theorem dX5_firstThatFails_15 : decode cX5_firstThatFails 15 = .ok (.ifCond .ne 5, 3) := by decide +kernel
theorem dX5_firstThatFails_18 : decode cX5_firstThatFails 18 = .ok (.iload_n 1, 1) := by decide +kernel
theorem dX5_firstThatFails_19 : decode cX5_firstThatFails 19 = .ok (.ireturn, 1) := by decide +kernel
theorem dX5_firstThatFails_20 : decode cX5_firstThatFails 20 = .ok (.iinc 1 1, 3) := by decide +kernel
theorem dX5_firstThatFails_23 : decode cX5_firstThatFails 23 = .ok (.goto (-21), 3) := by decide +kernel
theorem dX5_firstThatFails_26 : decode cX5_firstThatFails 26 = .ok (.ldc 82, 2) := by decide +kernel
theorem dX5_firstThatFails_28 : decode cX5_firstThatFails 28 = .ok (.ireturn, 1) := by decide +kernel
theorem dX5_isSound_0 : decode cX5_isSound 0 = .ok (.aload_n 0, 1) := by decide +kernel
theorem dX5_isSound_1 : decode cX5_isSound 1 = .ok (.invokevirtual 83, 3) := by decide +kernel
theorem dX5_isSound_4 : decode cX5_isSound 4 = .ok (.ldc 82, 2) := by decide +kernel
theorem dX5_isSound_6 : decode cX5_isSound 6 = .ok (.if_icmp .eq 5, 3) := by decide +kernel
theorem dX5_isSound_9 : decode cX5_isSound 9 = .ok (.iconst 0, 1) := by decide +kernel
theorem dX5_isSound_10 : decode cX5_isSound 10 = .ok (.ireturn, 1) := by decide +kernel
theorem dX5_isSound_11 : decode cX5_isSound 11 = .ok (.iconst 0, 1) := by decide +kernel
theorem dX5_isSound_12 : decode cX5_isSound 12 = .ok (.istore_n 1, 1) := by decide +kernel
theorem dX5_isSound_13 : decode cX5_isSound 13 = .ok (.iload_n 1, 1) := by decide +kernel
theorem dX5_isSound_14 : decode cX5_isSound 14 = .ok (.aload_n 0, 1) := by decide +kernel
theorem dX5_isSound_15 : decode cX5_isSound 15 = .ok (.getfield 24, 3) := by decide +kernel
theorem dX5_isSound_18 : decode cX5_isSound 18 = .ok (.if_icmp .ge 25, 3) := by decide +kernel
theorem dX5_isSound_21 : decode cX5_isSound 21 = .ok (.aload_n 0, 1) := by decide +kernel
theorem dX5_isSound_22 : decode cX5_isSound 22 = .ok (.iload_n 1, 1) := by decide +kernel
theorem dX5_isSound_23 : decode cX5_isSound 23 = .ok (.invokevirtual 87, 3) := by decide +kernel
theorem dX5_isSound_26 : decode cX5_isSound 26 = .ok (.aload_n 0, 1) := by decide +kernel
theorem dX5_isSound_27 : decode cX5_isSound 27 = .ok (.getfield 9, 3) := by decide +kernel
theorem dX5_isSound_30 : decode cX5_isSound 30 = .ok (.iconst 3, 1) := by decide +kernel
theorem dX5_isSound_31 : decode cX5_isSound 31 = .ok (.iaload, 1) := by decide +kernel
theorem dX5_isSound_32 : decode cX5_isSound 32 = .ok (.if_icmp .ge 5, 3) := by decide +kernel
theorem dX5_isSound_35 : decode cX5_isSound 35 = .ok (.iconst 0, 1) := by decide +kernel
theorem dX5_isSound_36 : decode cX5_isSound 36 = .ok (.ireturn, 1) := by decide +kernel
theorem dX5_isSound_37 : decode cX5_isSound 37 = .ok (.iinc 1 1, 3) := by decide +kernel
theorem dX5_isSound_40 : decode cX5_isSound 40 = .ok (.goto (-27), 3) := by decide +kernel
theorem dX5_isSound_43 : decode cX5_isSound 43 = .ok (.iconst 1, 1) := by decide +kernel
theorem dX5_isSound_44 : decode cX5_isSound 44 = .ok (.ireturn, 1) := by decide +kernel
theorem dX5_sectionLength_0 : decode cX5_sectionLength 0 = .ok (.aload_n 0, 1) := by decide +kernel
theorem dX5_sectionLength_1 : decode cX5_sectionLength 1 = .ok (.getfield 21, 3) := by decide +kernel
theorem dX5_sectionLength_4 : decode cX5_sectionLength 4 = .ok (.iload_n 1, 1) := by decide +kernel
theorem dX5_sectionLength_5 : decode cX5_sectionLength 5 = .ok (.iaload, 1) := by decide +kernel
theorem dX5_sectionLength_6 : decode cX5_sectionLength 6 = .ok (.iconst (-1), 1) := by decide +kernel
theorem dX5_sectionLength_7 : decode cX5_sectionLength 7 = .ok (.if_icmp .ne 5, 3) := by decide +kernel
theorem dX5_sectionLength_10 : decode cX5_sectionLength 10 = .ok (.iconst 0, 1) := by decide +kernel
theorem dX5_sectionLength_11 : decode cX5_sectionLength 11 = .ok (.ireturn, 1) := by decide +kernel
theorem dX5_sectionLength_12 : decode cX5_sectionLength 12 = .ok (.iload_n 1, 1) := by decide +kernel
theorem dX5_sectionLength_13 : decode cX5_sectionLength 13 = .ok (.istore_n 2, 1) := by decide +kernel
theorem dX5_sectionLength_14 : decode cX5_sectionLength 14 = .ok (.iload_n 2, 1) := by decide +kernel
theorem dX5_sectionLength_15 : decode cX5_sectionLength 15 = .ok (.ifCond .le 26, 3) := by decide +kernel
theorem dX5_sectionLength_18 : decode cX5_sectionLength 18 = .ok (.aload_n 0, 1) := by decide +kernel
theorem dX5_sectionLength_19 : decode cX5_sectionLength 19 = .ok (.getfield 21, 3) := by decide +kernel
theorem dX5_sectionLength_22 : decode cX5_sectionLength 22 = .ok (.iload_n 2, 1) := by decide +kernel
theorem dX5_sectionLength_23 : decode cX5_sectionLength 23 = .ok (.iconst 1, 1) := by decide +kernel
theorem dX5_sectionLength_24 : decode cX5_sectionLength 24 = .ok (.isub, 1) := by decide +kernel
theorem dX5_sectionLength_25 : decode cX5_sectionLength 25 = .ok (.iaload, 1) := by decide +kernel
theorem dX5_sectionLength_26 : decode cX5_sectionLength 26 = .ok (.aload_n 0, 1) := by decide +kernel
theorem dX5_sectionLength_27 : decode cX5_sectionLength 27 = .ok (.getfield 21, 3) := by decide +kernel
theorem dX5_sectionLength_30 : decode cX5_sectionLength 30 = .ok (.iload_n 1, 1) := by decide +kernel
theorem dX5_sectionLength_31 : decode cX5_sectionLength 31 = .ok (.iaload, 1) := by decide +kernel
theorem dX5_sectionLength_32 : decode cX5_sectionLength 32 = .ok (.if_icmp .ne 9, 3) := by decide +kernel
theorem dX5_sectionLength_35 : decode cX5_sectionLength 35 = .ok (.iinc 2 (-1), 3) := by decide +kernel
theorem dX5_sectionLength_38 : decode cX5_sectionLength 38 = .ok (.goto (-24), 3) := by decide +kernel
theorem dX5_sectionLength_41 : decode cX5_sectionLength 41 = .ok (.iload_n 1, 1) := by decide +kernel
theorem dX5_sectionLength_42 : decode cX5_sectionLength 42 = .ok (.iconst 1, 1) := by decide +kernel
theorem dX5_sectionLength_43 : decode cX5_sectionLength 43 = .ok (.iadd, 1) := by decide +kernel
theorem dX5_sectionLength_44 : decode cX5_sectionLength 44 = .ok (.istore_n 3, 1) := by decide +kernel
theorem dX5_sectionLength_45 : decode cX5_sectionLength 45 = .ok (.iload_n 3, 1) := by decide +kernel
theorem dX5_sectionLength_46 : decode cX5_sectionLength 46 = .ok (.aload_n 0, 1) := by decide +kernel
theorem dX5_sectionLength_47 : decode cX5_sectionLength 47 = .ok (.getfield 24, 3) := by decide +kernel
theorem dX5_sectionLength_50 : decode cX5_sectionLength 50 = .ok (.if_icmp .ge 24, 3) := by decide +kernel
theorem dX5_sectionLength_53 : decode cX5_sectionLength 53 = .ok (.aload_n 0, 1) := by decide +kernel
theorem dX5_sectionLength_54 : decode cX5_sectionLength 54 = .ok (.getfield 21, 3) := by decide +kernel
theorem dX5_sectionLength_57 : decode cX5_sectionLength 57 = .ok (.iload_n 3, 1) := by decide +kernel
theorem dX5_sectionLength_58 : decode cX5_sectionLength 58 = .ok (.iaload, 1) := by decide +kernel
theorem dX5_sectionLength_59 : decode cX5_sectionLength 59 = .ok (.aload_n 0, 1) := by decide +kernel
theorem dX5_sectionLength_60 : decode cX5_sectionLength 60 = .ok (.getfield 21, 3) := by decide +kernel
theorem dX5_sectionLength_63 : decode cX5_sectionLength 63 = .ok (.iload_n 1, 1) := by decide +kernel
theorem dX5_sectionLength_64 : decode cX5_sectionLength 64 = .ok (.iaload, 1) := by decide +kernel
theorem dX5_sectionLength_65 : decode cX5_sectionLength 65 = .ok (.if_icmp .ne 9, 3) := by decide +kernel
theorem dX5_sectionLength_68 : decode cX5_sectionLength 68 = .ok (.iinc 3 1, 3) := by decide +kernel
theorem dX5_sectionLength_71 : decode cX5_sectionLength 71 = .ok (.goto (-26), 3) := by decide +kernel
theorem dX5_sectionLength_74 : decode cX5_sectionLength 74 = .ok (.iload_n 3, 1) := by decide +kernel
theorem dX5_sectionLength_75 : decode cX5_sectionLength 75 = .ok (.iload_n 2, 1) := by decide +kernel
theorem dX5_sectionLength_76 : decode cX5_sectionLength 76 = .ok (.isub, 1) := by decide +kernel
theorem dX5_sectionLength_77 : decode cX5_sectionLength 77 = .ok (.ireturn, 1) := by decide +kernel
theorem dX5_howManySections_0 : decode cX5_howManySections 0 = .ok (.iconst 0, 1) := by decide +kernel
theorem dX5_howManySections_1 : decode cX5_howManySections 1 = .ok (.istore_n 1, 1) := by decide +kernel
theorem dX5_howManySections_2 : decode cX5_howManySections 2 = .ok (.iconst 0, 1) := by decide +kernel
theorem dX5_howManySections_3 : decode cX5_howManySections 3 = .ok (.istore_n 2, 1) := by decide +kernel
theorem dX5_howManySections_4 : decode cX5_howManySections 4 = .ok (.iload_n 2, 1) := by decide +kernel
theorem dX5_howManySections_5 : decode cX5_howManySections 5 = .ok (.aload_n 0, 1) := by decide +kernel
theorem dX5_howManySections_6 : decode cX5_howManySections 6 = .ok (.getfield 24, 3) := by decide +kernel
theorem dX5_howManySections_9 : decode cX5_howManySections 9 = .ok (.if_icmp .ge 43, 3) := by decide +kernel
theorem dX5_howManySections_12 : decode cX5_howManySections 12 = .ok (.aload_n 0, 1) := by decide +kernel
theorem dX5_howManySections_13 : decode cX5_howManySections 13 = .ok (.getfield 21, 3) := by decide +kernel
theorem dX5_howManySections_16 : decode cX5_howManySections 16 = .ok (.iload_n 2, 1) := by decide +kernel
theorem dX5_howManySections_17 : decode cX5_howManySections 17 = .ok (.iaload, 1) := by decide +kernel
theorem dX5_howManySections_18 : decode cX5_howManySections 18 = .ok (.iconst (-1), 1) := by decide +kernel
theorem dX5_howManySections_19 : decode cX5_howManySections 19 = .ok (.if_icmp .eq 27, 3) := by decide +kernel
theorem dX5_howManySections_22 : decode cX5_howManySections 22 = .ok (.iload_n 2, 1) := by decide +kernel
theorem dX5_howManySections_23 : decode cX5_howManySections 23 = .ok (.ifCond .eq 20, 3) := by decide +kernel
theorem dX5_howManySections_26 : decode cX5_howManySections 26 = .ok (.aload_n 0, 1) := by decide +kernel
theorem dX5_howManySections_27 : decode cX5_howManySections 27 = .ok (.getfield 21, 3) := by decide +kernel
theorem dX5_howManySections_30 : decode cX5_howManySections 30 = .ok (.iload_n 2, 1) := by decide +kernel
theorem dX5_howManySections_31 : decode cX5_howManySections 31 = .ok (.iconst 1, 1) := by decide +kernel
theorem dX5_howManySections_32 : decode cX5_howManySections 32 = .ok (.isub, 1) := by decide +kernel
theorem dX5_howManySections_33 : decode cX5_howManySections 33 = .ok (.iaload, 1) := by decide +kernel
theorem dX5_howManySections_34 : decode cX5_howManySections 34 = .ok (.aload_n 0, 1) := by decide +kernel
theorem dX5_howManySections_35 : decode cX5_howManySections 35 = .ok (.getfield 21, 3) := by decide +kernel
theorem dX5_howManySections_38 : decode cX5_howManySections 38 = .ok (.iload_n 2, 1) := by decide +kernel
theorem dX5_howManySections_39 : decode cX5_howManySections 39 = .ok (.iaload, 1) := by decide +kernel
theorem dX5_howManySections_40 : decode cX5_howManySections 40 = .ok (.if_icmp .eq 6, 3) := by decide +kernel
theorem dX5_howManySections_43 : decode cX5_howManySections 43 = .ok (.iinc 1 1, 3) := by decide +kernel
theorem dX5_howManySections_46 : decode cX5_howManySections 46 = .ok (.iinc 2 1, 3) := by decide +kernel
theorem dX5_howManySections_49 : decode cX5_howManySections 49 = .ok (.goto (-45), 3) := by decide +kernel
theorem dX5_howManySections_52 : decode cX5_howManySections 52 = .ok (.iload_n 1, 1) := by decide +kernel
theorem dX5_howManySections_53 : decode cX5_howManySections 53 = .ok (.ireturn, 1) := by decide +kernel
theorem dX5_priceOf_0 : decode cX5_priceOf 0 = .ok (.iconst 0, 1) := by decide +kernel
theorem dX5_priceOf_1 : decode cX5_priceOf 1 = .ok (.istore_n 2, 1) := by decide +kernel
theorem dX5_priceOf_2 : decode cX5_priceOf 2 = .ok (.iconst 0, 1) := by decide +kernel
theorem dX5_priceOf_3 : decode cX5_priceOf 3 = .ok (.istore_n 3, 1) := by decide +kernel
theorem dX5_priceOf_4 : decode cX5_priceOf 4 = .ok (.iload_n 3, 1) := by decide +kernel
theorem dX5_priceOf_5 : decode cX5_priceOf 5 = .ok (.aload_n 0, 1) := by decide +kernel
theorem dX5_priceOf_6 : decode cX5_priceOf 6 = .ok (.getfield 24, 3) := by decide +kernel
theorem dX5_priceOf_9 : decode cX5_priceOf 9 = .ok (.if_icmp .ge 45, 3) := by decide +kernel
theorem dX5_priceOf_12 : decode cX5_priceOf 12 = .ok (.iload_n 1, 1) := by decide +kernel
theorem dX5_priceOf_13 : decode cX5_priceOf 13 = .ok (.iload_n 3, 1) := by decide +kernel
theorem dX5_priceOf_14 : decode cX5_priceOf 14 = .ok (.ishr, 1) := by decide +kernel
theorem dX5_priceOf_15 : decode cX5_priceOf 15 = .ok (.iconst 1, 1) := by decide +kernel
theorem dX5_priceOf_16 : decode cX5_priceOf 16 = .ok (.iand, 1) := by decide +kernel
theorem dX5_priceOf_17 : decode cX5_priceOf 17 = .ok (.iconst 1, 1) := by decide +kernel
theorem dX5_priceOf_18 : decode cX5_priceOf 18 = .ok (.if_icmp .ne 30, 3) := by decide +kernel
theorem dX5_priceOf_21 : decode cX5_priceOf 21 = .ok (.aload_n 0, 1) := by decide +kernel
theorem dX5_priceOf_22 : decode cX5_priceOf 22 = .ok (.getfield 21, 3) := by decide +kernel
theorem dX5_priceOf_25 : decode cX5_priceOf 25 = .ok (.iload_n 3, 1) := by decide +kernel
theorem dX5_priceOf_26 : decode cX5_priceOf 26 = .ok (.iaload, 1) := by decide +kernel
theorem dX5_priceOf_27 : decode cX5_priceOf 27 = .ok (.iconst (-1), 1) := by decide +kernel
theorem dX5_priceOf_28 : decode cX5_priceOf 28 = .ok (.if_icmp .ne 6, 3) := by decide +kernel
theorem dX5_priceOf_31 : decode cX5_priceOf 31 = .ok (.ldc 82, 2) := by decide +kernel
theorem dX5_priceOf_33 : decode cX5_priceOf 33 = .ok (.ireturn, 1) := by decide +kernel
theorem dX5_priceOf_34 : decode cX5_priceOf 34 = .ok (.iload_n 2, 1) := by decide +kernel
theorem dX5_priceOf_35 : decode cX5_priceOf 35 = .ok (.aload_n 0, 1) := by decide +kernel
theorem dX5_priceOf_36 : decode cX5_priceOf 36 = .ok (.aload_n 0, 1) := by decide +kernel
theorem dX5_priceOf_37 : decode cX5_priceOf 37 = .ok (.getfield 21, 3) := by decide +kernel
theorem dX5_priceOf_40 : decode cX5_priceOf 40 = .ok (.iload_n 3, 1) := by decide +kernel
theorem dX5_priceOf_41 : decode cX5_priceOf 41 = .ok (.iaload, 1) := by decide +kernel
theorem dX5_priceOf_42 : decode cX5_priceOf 42 = .ok (.iconst 4, 1) := by decide +kernel
theorem dX5_priceOf_43 : decode cX5_priceOf 43 = .ok (.invokevirtual 37, 3) := by decide +kernel
theorem dX5_priceOf_46 : decode cX5_priceOf 46 = .ok (.iadd, 1) := by decide +kernel
theorem dX5_priceOf_47 : decode cX5_priceOf 47 = .ok (.istore_n 2, 1) := by decide +kernel
theorem dX5_priceOf_48 : decode cX5_priceOf 48 = .ok (.iinc 3 1, 3) := by decide +kernel
theorem dX5_priceOf_51 : decode cX5_priceOf 51 = .ok (.goto (-47), 3) := by decide +kernel
theorem dX5_priceOf_54 : decode cX5_priceOf 54 = .ok (.iload_n 2, 1) := by decide +kernel
theorem dX5_priceOf_55 : decode cX5_priceOf 55 = .ok (.ireturn, 1) := by decide +kernel
theorem dX5_changeByDraw_0 : decode cX5_changeByDraw 0 = .ok (.aload_n 0, 1) := by decide +kernel
theorem dX5_changeByDraw_1 : decode cX5_changeByDraw 1 = .ok (.getfield 24, 3) := by decide +kernel
theorem dX5_changeByDraw_4 : decode cX5_changeByDraw 4 = .ok (.iconst 1, 1) := by decide +kernel
theorem dX5_changeByDraw_5 : decode cX5_changeByDraw 5 = .ok (.if_icmp .lt 11, 3) := by decide +kernel
theorem dX5_changeByDraw_8 : decode cX5_changeByDraw 8 = .ok (.aload_n 0, 1) := by decide +kernel
theorem dX5_changeByDraw_9 : decode cX5_changeByDraw 9 = .ok (.getfield 28, 3) := by decide +kernel
theorem dX5_changeByDraw_12 : decode cX5_changeByDraw 12 = .ok (.iconst 1, 1) := by decide +kernel
theorem dX5_changeByDraw_13 : decode cX5_changeByDraw 13 = .ok (.if_icmp .ge 4, 3) := by decide +kernel
theorem dX5_changeByDraw_16 : decode cX5_changeByDraw 16 = .ok (.return_, 1) := by decide +kernel
theorem dX5_changeByDraw_17 : decode cX5_changeByDraw 17 = .ok (.aload_n 0, 1) := by decide +kernel
theorem dX5_changeByDraw_18 : decode cX5_changeByDraw 18 = .ok (.getfield 21, 3) := by decide +kernel
theorem dX5_changeByDraw_21 : decode cX5_changeByDraw 21 = .ok (.iload_n 1, 1) := by decide +kernel
theorem dX5_changeByDraw_22 : decode cX5_changeByDraw 22 = .ok (.aload_n 0, 1) := by decide +kernel
theorem dX5_changeByDraw_23 : decode cX5_changeByDraw 23 = .ok (.getfield 24, 3) := by decide +kernel
theorem dX5_changeByDraw_26 : decode cX5_changeByDraw 26 = .ok (.irem, 1) := by decide +kernel
theorem dX5_changeByDraw_27 : decode cX5_changeByDraw 27 = .ok (.iload_n 1, 1) := by decide +kernel
theorem dX5_changeByDraw_28 : decode cX5_changeByDraw 28 = .ok (.bipush 16, 2) := by decide +kernel
theorem dX5_changeByDraw_30 : decode cX5_changeByDraw 30 = .ok (.idiv, 1) := by decide +kernel
theorem dX5_changeByDraw_31 : decode cX5_changeByDraw 31 = .ok (.aload_n 0, 1) := by decide +kernel
theorem dX5_changeByDraw_32 : decode cX5_changeByDraw 32 = .ok (.getfield 28, 3) := by decide +kernel
theorem dX5_changeByDraw_35 : decode cX5_changeByDraw 35 = .ok (.irem, 1) := by decide +kernel
theorem dX5_changeByDraw_36 : decode cX5_changeByDraw 36 = .ok (.iastore, 1) := by decide +kernel
theorem dX5_changeByDraw_37 : decode cX5_changeByDraw 37 = .ok (.iload_n 1, 1) := by decide +kernel
theorem dX5_changeByDraw_38 : decode cX5_changeByDraw 38 = .ok (.iconst 5, 1) := by decide +kernel
theorem dX5_changeByDraw_39 : decode cX5_changeByDraw 39 = .ok (.irem, 1) := by decide +kernel
theorem dX5_changeByDraw_40 : decode cX5_changeByDraw 40 = .ok (.ifCond .ne 17, 3) := by decide +kernel
theorem dX5_changeByDraw_43 : decode cX5_changeByDraw 43 = .ok (.aload_n 0, 1) := by decide +kernel
theorem dX5_changeByDraw_44 : decode cX5_changeByDraw 44 = .ok (.getfield 9, 3) := by decide +kernel
theorem dX5_changeByDraw_47 : decode cX5_changeByDraw 47 = .ok (.iconst 0, 1) := by decide +kernel
theorem dX5_changeByDraw_48 : decode cX5_changeByDraw 48 = .ok (.iload_n 1, 1) := by decide +kernel
theorem dX5_changeByDraw_49 : decode cX5_changeByDraw 49 = .ok (.sipush 256, 3) := by decide +kernel
theorem dX5_changeByDraw_52 : decode cX5_changeByDraw 52 = .ok (.idiv, 1) := by decide +kernel
theorem dX5_changeByDraw_53 : decode cX5_changeByDraw 53 = .ok (.bipush 21, 2) := by decide +kernel
theorem dX5_changeByDraw_55 : decode cX5_changeByDraw 55 = .ok (.irem, 1) := by decide +kernel
theorem dX5_changeByDraw_56 : decode cX5_changeByDraw 56 = .ok (.iastore, 1) := by decide +kernel
theorem dX5_changeByDraw_57 : decode cX5_changeByDraw 57 = .ok (.return_, 1) := by decide +kernel
theorem dX5_stringCode_0 : decode cX5_stringCode 0 = .ok (.iconst 0, 1) := by decide +kernel
theorem dX5_stringCode_1 : decode cX5_stringCode 1 = .ok (.istore_n 1, 1) := by decide +kernel
theorem dX5_stringCode_2 : decode cX5_stringCode 2 = .ok (.bipush 7, 2) := by decide +kernel
theorem dX5_stringCode_4 : decode cX5_stringCode 4 = .ok (.istore_n 2, 1) := by decide +kernel
theorem dX5_stringCode_5 : decode cX5_stringCode 5 = .ok (.iload_n 2, 1) := by decide +kernel
theorem dX5_stringCode_6 : decode cX5_stringCode 6 = .ok (.ifCond .lt 23, 3) := by decide +kernel
theorem dX5_stringCode_9 : decode cX5_stringCode 9 = .ok (.iload_n 1, 1) := by decide +kernel
theorem dX5_stringCode_10 : decode cX5_stringCode 10 = .ok (.bipush 6, 2) := by decide +kernel
theorem dX5_stringCode_12 : decode cX5_stringCode 12 = .ok (.imul, 1) := by decide +kernel
theorem dX5_stringCode_13 : decode cX5_stringCode 13 = .ok (.aload_n 0, 1) := by decide +kernel
theorem dX5_stringCode_14 : decode cX5_stringCode 14 = .ok (.getfield 21, 3) := by decide +kernel
theorem dX5_stringCode_17 : decode cX5_stringCode 17 = .ok (.iload_n 2, 1) := by decide +kernel
theorem dX5_stringCode_18 : decode cX5_stringCode 18 = .ok (.iaload, 1) := by decide +kernel
theorem dX5_stringCode_19 : decode cX5_stringCode 19 = .ok (.iadd, 1) := by decide +kernel
theorem dX5_stringCode_20 : decode cX5_stringCode 20 = .ok (.iconst 1, 1) := by decide +kernel
theorem dX5_stringCode_21 : decode cX5_stringCode 21 = .ok (.iadd, 1) := by decide +kernel
theorem dX5_stringCode_22 : decode cX5_stringCode 22 = .ok (.istore_n 1, 1) := by decide +kernel
theorem dX5_stringCode_23 : decode cX5_stringCode 23 = .ok (.iinc 2 (-1), 3) := by decide +kernel
theorem dX5_stringCode_26 : decode cX5_stringCode 26 = .ok (.goto (-21), 3) := by decide +kernel
theorem dX5_stringCode_29 : decode cX5_stringCode 29 = .ok (.iload_n 1, 1) := by decide +kernel
theorem dX5_stringCode_30 : decode cX5_stringCode 30 = .ok (.ireturn, 1) := by decide +kernel
theorem dX5_layString_0 : decode cX5_layString 0 = .ok (.iload_n 1, 1) := by decide +kernel
theorem dX5_layString_1 : decode cX5_layString 1 = .ok (.istore_n 2, 1) := by decide +kernel
theorem dX5_layString_2 : decode cX5_layString 2 = .ok (.iconst 0, 1) := by decide +kernel
theorem dX5_layString_3 : decode cX5_layString 3 = .ok (.istore_n 3, 1) := by decide +kernel
theorem dX5_layString_4 : decode cX5_layString 4 = .ok (.iload_n 3, 1) := by decide +kernel
theorem dX5_layString_5 : decode cX5_layString 5 = .ok (.bipush 8, 2) := by decide +kernel
theorem dX5_layString_7 : decode cX5_layString 7 = .ok (.if_icmp .ge 26, 3) := by decide +kernel
theorem dX5_layString_10 : decode cX5_layString 10 = .ok (.aload_n 0, 1) := by decide +kernel
theorem dX5_layString_11 : decode cX5_layString 11 = .ok (.getfield 21, 3) := by decide +kernel
theorem dX5_layString_14 : decode cX5_layString 14 = .ok (.iload_n 3, 1) := by decide +kernel
theorem dX5_layString_15 : decode cX5_layString 15 = .ok (.iload_n 2, 1) := by decide +kernel
theorem dX5_layString_16 : decode cX5_layString 16 = .ok (.bipush 6, 2) := by decide +kernel
theorem dX5_layString_18 : decode cX5_layString 18 = .ok (.irem, 1) := by decide +kernel
theorem dX5_layString_19 : decode cX5_layString 19 = .ok (.iconst 1, 1) := by decide +kernel
theorem dX5_layString_20 : decode cX5_layString 20 = .ok (.isub, 1) := by decide +kernel
theorem dX5_layString_21 : decode cX5_layString 21 = .ok (.iastore, 1) := by decide +kernel
theorem dX5_layString_22 : decode cX5_layString 22 = .ok (.iload_n 2, 1) := by decide +kernel
theorem dX5_layString_23 : decode cX5_layString 23 = .ok (.bipush 6, 2) := by decide +kernel
theorem dX5_layString_25 : decode cX5_layString 25 = .ok (.idiv, 1) := by decide +kernel
theorem dX5_layString_26 : decode cX5_layString 26 = .ok (.istore_n 2, 1) := by decide +kernel
theorem dX5_layString_27 : decode cX5_layString 27 = .ok (.iinc 3 1, 3) := by decide +kernel
theorem dX5_layString_30 : decode cX5_layString 30 = .ok (.goto (-26), 3) := by decide +kernel
theorem dX5_layString_33 : decode cX5_layString 33 = .ok (.return_, 1) := by decide +kernel
theorem dX6_init_0 : decode cX6_init 0 = .ok (.aload_n 0, 1) := by decide +kernel
theorem dX6_init_1 : decode cX6_init 1 = .ok (.invokespecial 1, 3) := by decide +kernel
theorem dX6_init_4 : decode cX6_init 4 = .ok (.aload_n 0, 1) := by decide +kernel
theorem dX6_init_5 : decode cX6_init 5 = .ok (.bipush 8, 2) := by decide +kernel
theorem dX6_init_7 : decode cX6_init 7 = .ok (.anewarray 9, 3) := by decide +kernel
theorem dX6_init_10 : decode cX6_init 10 = .ok (.putfield 11, 3) := by decide +kernel
theorem dX6_init_13 : decode cX6_init 13 = .ok (.aload_n 0, 1) := by decide +kernel
theorem dX6_init_14 : decode cX6_init 14 = .ok (.new 15, 3) := by decide +kernel
theorem dX6_init_17 : decode cX6_init 17 = .ok (.dup, 1) := by decide +kernel
theorem dX6_init_18 : decode cX6_init 18 = .ok (.invokespecial 17, 3) := by decide +kernel
theorem dX6_init_21 : decode cX6_init 21 = .ok (.putfield 18, 3) := by decide +kernel
theorem dX6_init_24 : decode cX6_init 24 = .ok (.aload_n 0, 1) := by decide +kernel
theorem dX6_init_25 : decode cX6_init 25 = .ok (.new 22, 3) := by decide +kernel
theorem dX6_init_28 : decode cX6_init 28 = .ok (.dup, 1) := by decide +kernel
theorem dX6_init_29 : decode cX6_init 29 = .ok (.invokespecial 24, 3) := by decide +kernel
theorem dX6_init_32 : decode cX6_init 32 = .ok (.putfield 25, 3) := by decide +kernel
theorem dX6_init_35 : decode cX6_init 35 = .ok (.aload_n 0, 1) := by decide +kernel
theorem dX6_init_36 : decode cX6_init 36 = .ok (.new 22, 3) := by decide +kernel
theorem dX6_init_39 : decode cX6_init 39 = .ok (.dup, 1) := by decide +kernel
theorem dX6_init_40 : decode cX6_init 40 = .ok (.invokespecial 24, 3) := by decide +kernel
theorem dX6_init_43 : decode cX6_init 43 = .ok (.putfield 29, 3) := by decide +kernel
theorem dX6_init_46 : decode cX6_init 46 = .ok (.aload_n 0, 1) := by decide +kernel
theorem dX6_init_47 : decode cX6_init 47 = .ok (.iconst 2, 1) := by decide +kernel
theorem dX6_init_48 : decode cX6_init 48 = .ok (.anewarray 22, 3) := by decide +kernel
theorem dX6_init_51 : decode cX6_init 51 = .ok (.putfield 32, 3) := by decide +kernel
theorem dX6_init_54 : decode cX6_init 54 = .ok (.aload_n 0, 1) := by decide +kernel
theorem dX6_init_55 : decode cX6_init 55 = .ok (.new 36, 3) := by decide +kernel
theorem dX6_init_58 : decode cX6_init 58 = .ok (.dup, 1) := by decide +kernel
theorem dX6_init_59 : decode cX6_init 59 = .ok (.invokespecial 38, 3) := by decide +kernel
theorem dX6_init_62 : decode cX6_init 62 = .ok (.putfield 39, 3) := by decide +kernel
theorem dX6_init_65 : decode cX6_init 65 = .ok (.aload_n 0, 1) := by decide +kernel
theorem dX6_init_66 : decode cX6_init 66 = .ok (.new 43, 3) := by decide +kernel
theorem dX6_init_69 : decode cX6_init 69 = .ok (.dup, 1) := by decide +kernel
theorem dX6_init_70 : decode cX6_init 70 = .ok (.invokespecial 45, 3) := by decide +kernel
theorem dX6_init_73 : decode cX6_init 73 = .ok (.putfield 46, 3) := by decide +kernel
theorem dX6_init_76 : decode cX6_init 76 = .ok (.aload_n 0, 1) := by decide +kernel
theorem dX6_init_77 : decode cX6_init 77 = .ok (.new 50, 3) := by decide +kernel
theorem dX6_init_80 : decode cX6_init 80 = .ok (.dup, 1) := by decide +kernel
theorem dX6_init_81 : decode cX6_init 81 = .ok (.invokespecial 52, 3) := by decide +kernel
theorem dX6_init_84 : decode cX6_init 84 = .ok (.putfield 53, 3) := by decide +kernel
theorem dX6_init_87 : decode cX6_init 87 = .ok (.iconst 0, 1) := by decide +kernel
theorem dX6_init_88 : decode cX6_init 88 = .ok (.istore_n 1, 1) := by decide +kernel
theorem dX6_init_89 : decode cX6_init 89 = .ok (.iload_n 1, 1) := by decide +kernel
theorem dX6_init_90 : decode cX6_init 90 = .ok (.bipush 8, 2) := by decide +kernel
theorem dX6_init_92 : decode cX6_init 92 = .ok (.if_icmp .ge 22, 3) := by decide +kernel
theorem dX6_init_95 : decode cX6_init 95 = .ok (.aload_n 0, 1) := by decide +kernel
theorem dX6_init_96 : decode cX6_init 96 = .ok (.getfield 11, 3) := by decide +kernel
theorem dX6_init_99 : decode cX6_init 99 = .ok (.iload_n 1, 1) := by decide +kernel
theorem dX6_init_100 : decode cX6_init 100 = .ok (.new 9, 3) := by decide +kernel
theorem dX6_init_103 : decode cX6_init 103 = .ok (.dup, 1) := by decide +kernel
theorem dX6_init_104 : decode cX6_init 104 = .ok (.invokespecial 57, 3) := by decide +kernel
theorem dX6_init_107 : decode cX6_init 107 = .ok (.aastore, 1) := by decide +kernel
theorem dX6_init_108 : decode cX6_init 108 = .ok (.iinc 1 1, 3) := by decide +kernel
theorem dX6_init_111 : decode cX6_init 111 = .ok (.goto (-22), 3) := by decide +kernel
theorem dX6_init_114 : decode cX6_init 114 = .ok (.iconst 0, 1) := by decide +kernel
theorem dX6_init_115 : decode cX6_init 115 = .ok (.istore_n 1, 1) := by decide +kernel
theorem dX6_init_116 : decode cX6_init 116 = .ok (.iload_n 1, 1) := by decide +kernel
theorem dX6_init_117 : decode cX6_init 117 = .ok (.iconst 2, 1) := by decide +kernel
theorem dX6_init_118 : decode cX6_init 118 = .ok (.if_icmp .ge 22, 3) := by decide +kernel
theorem dX6_init_121 : decode cX6_init 121 = .ok (.aload_n 0, 1) := by decide +kernel
theorem dX6_init_122 : decode cX6_init 122 = .ok (.getfield 32, 3) := by decide +kernel
theorem dX6_init_125 : decode cX6_init 125 = .ok (.iload_n 1, 1) := by decide +kernel
theorem dX6_init_126 : decode cX6_init 126 = .ok (.new 22, 3) := by decide +kernel
theorem dX6_init_129 : decode cX6_init 129 = .ok (.dup, 1) := by decide +kernel
theorem dX6_init_130 : decode cX6_init 130 = .ok (.invokespecial 24, 3) := by decide +kernel
theorem dX6_init_133 : decode cX6_init 133 = .ok (.aastore, 1) := by decide +kernel
theorem dX6_init_134 : decode cX6_init 134 = .ok (.iinc 1 1, 3) := by decide +kernel
theorem dX6_init_137 : decode cX6_init 137 = .ok (.goto (-21), 3) := by decide +kernel
theorem dX6_init_140 : decode cX6_init 140 = .ok (.return_, 1) := by decide +kernel
theorem dX6_row_0 : decode cX6_row 0 = .ok (.iload_n 1, 1) := by decide +kernel
theorem dX6_row_1 : decode cX6_row 1 = .ok (.invokestatic 58, 3) := by decide +kernel
theorem dX6_row_4 : decode cX6_row 4 = .ok (.ifCond .eq 18, 3) := by decide +kernel
theorem dX6_row_7 : decode cX6_row 7 = .ok (.iload_n 2, 1) := by decide +kernel
theorem dX6_row_8 : decode cX6_row 8 = .ok (.ifCond .lt 14, 3) := by decide +kernel
theorem dX6_row_11 : decode cX6_row 11 = .ok (.iload_n 2, 1) := by decide +kernel
theorem dX6_row_12 : decode cX6_row 12 = .ok (.iconst 3, 1) := by decide +kernel
theorem dX6_row_13 : decode cX6_row 13 = .ok (.if_icmp .ge 9, 3) := by decide +kernel
theorem dX6_row_16 : decode cX6_row 16 = .ok (.iload_n 3, 1) := by decide +kernel
theorem dX6_row_17 : decode cX6_row 17 = .ok (.bipush 40, 2) := by decide +kernel
theorem dX6_row_19 : decode cX6_row 19 = .ok (.if_icmp .le 6, 3) := by decide +kernel
theorem dX6_row_22 : decode cX6_row 22 = .ok (.ldc 62, 2) := by decide +kernel
theorem dX6_row_24 : decode cX6_row 24 = .ok (.ireturn, 1) := by decide +kernel
theorem dX6_row_25 : decode cX6_row 25 = .ok (.iload_n 3, 1) := by decide +kernel
theorem dX6_row_26 : decode cX6_row 26 = .ok (.ifCond .ge 9, 3) := by decide +kernel
theorem dX6_row_29 : decode cX6_row 29 = .ok (.aload_n 0, 1) := by decide +kernel
theorem dX6_row_30 : decode cX6_row 30 = .ok (.iconst 4, 1) := by decide +kernel
theorem dX6_row_31 : decode cX6_row 31 = .ok (.invokevirtual 63, 3) := by decide +kernel
theorem dX6_row_34 : decode cX6_row 34 = .ok (.ireturn, 1) := by decide +kernel
theorem dX6_row_35 : decode cX6_row 35 = .ok (.aload_n 0, 1) := by decide +kernel
theorem dX6_row_36 : decode cX6_row 36 = .ok (.getfield 11, 3) := by decide +kernel
theorem dX6_row_39 : decode cX6_row 39 = .ok (.iload_n 1, 1) := by decide +kernel
theorem dX6_row_40 : decode cX6_row 40 = .ok (.aaload, 1) := by decide +kernel
theorem dX6_row_41 : decode cX6_row 41 = .ok (.iload_n 2, 1) := by decide +kernel
theorem dX6_row_42 : decode cX6_row 42 = .ok (.iload_n 3, 1) := by decide +kernel
theorem dX6_row_43 : decode cX6_row 43 = .ok (.invokevirtual 67, 3) := by decide +kernel
theorem dX6_row_46 : decode cX6_row 46 = .ok (.aload_n 0, 1) := by decide +kernel
theorem dX6_row_47 : decode cX6_row 47 = .ok (.iload_n 3, 1) := by decide +kernel
theorem dX6_row_48 : decode cX6_row 48 = .ok (.invokevirtual 71, 3) := by decide +kernel
theorem dX6_row_51 : decode cX6_row 51 = .ok (.ireturn, 1) := by decide +kernel
theorem dX6_set_0 : decode cX6_set 0 = .ok (.iload_n 1, 1) := by decide +kernel
theorem dX6_set_1 : decode cX6_set 1 = .ok (.invokestatic 58, 3) := by decide +kernel
theorem dX6_set_4 : decode cX6_set 4 = .ok (.ifCond .ne 6, 3) := by decide +kernel
theorem dX6_set_7 : decode cX6_set 7 = .ok (.ldc 62, 2) := by decide +kernel
theorem dX6_set_9 : decode cX6_set 9 = .ok (.ireturn, 1) := by decide +kernel
theorem dX6_set_10 : decode cX6_set 10 = .ok (.aload_n 0, 1) := by decide +kernel
theorem dX6_set_11 : decode cX6_set 11 = .ok (.getfield 11, 3) := by decide +kernel
theorem dX6_set_14 : decode cX6_set 14 = .ok (.iload_n 1, 1) := by decide +kernel
theorem dX6_set_15 : decode cX6_set 15 = .ok (.aaload, 1) := by decide +kernel
theorem dX6_set_16 : decode cX6_set 16 = .ok (.astore 4, 2) := by decide +kernel
theorem dX6_set_18 : decode cX6_set 18 = .ok (.aload 4, 2) := by decide +kernel
theorem dX6_set_20 : decode cX6_set 20 = .ok (.invokevirtual 74, 3) := by decide +kernel
theorem dX6_set_23 : decode cX6_set 23 = .ok (.ifCond .eq 9, 3) := by decide +kernel
theorem dX6_set_26 : decode cX6_set 26 = .ok (.aload_n 0, 1) := by decide +kernel
theorem dX6_set_27 : decode cX6_set 27 = .ok (.iconst 1, 1) := by decide +kernel
theorem dX6_set_28 : decode cX6_set 28 = .ok (.invokevirtual 63, 3) := by decide +kernel
theorem dX6_set_31 : decode cX6_set 31 = .ok (.ireturn, 1) := by decide +kernel
theorem dX6_set_32 : decode cX6_set 32 = .ok (.aload 4, 2) := by decide +kernel
theorem dX6_set_34 : decode cX6_set 34 = .ok (.iload_n 2, 1) := by decide +kernel
theorem dX6_set_35 : decode cX6_set 35 = .ok (.iconst 1, 1) := by decide +kernel
theorem dX6_set_36 : decode cX6_set 36 = .ok (.invokevirtual 78, 3) := by decide +kernel
theorem dX6_set_39 : decode cX6_set 39 = .ok (.ifCond .ne 9, 3) := by decide +kernel
theorem dX6_set_42 : decode cX6_set 42 = .ok (.aload_n 0, 1) := by decide +kernel
theorem dX6_set_43 : decode cX6_set 43 = .ok (.iconst 2, 1) := by decide +kernel
theorem dX6_set_44 : decode cX6_set 44 = .ok (.invokevirtual 63, 3) := by decide +kernel
theorem dX6_set_47 : decode cX6_set 47 = .ok (.ireturn, 1) := by decide +kernel
theorem dX6_set_48 : decode cX6_set 48 = .ok (.aload_n 0, 1) := by decide +kernel
theorem dX6_set_49 : decode cX6_set 49 = .ok (.aload 4, 2) := by decide +kernel
theorem dX6_set_51 : decode cX6_set 51 = .ok (.iload_n 2, 1) := by decide +kernel
theorem dX6_set_52 : decode cX6_set 52 = .ok (.iload_n 3, 1) := by decide +kernel
theorem dX6_set_53 : decode cX6_set 53 = .ok (.invokevirtual 82, 3) := by decide +kernel
theorem dX6_set_56 : decode cX6_set 56 = .ok (.invokevirtual 71, 3) := by decide +kernel
theorem dX6_set_59 : decode cX6_set 59 = .ok (.ireturn, 1) := by decide +kernel
theorem dX6_copy_0 : decode cX6_copy 0 = .ok (.iload_n 1, 1) := by decide +kernel
theorem dX6_copy_1 : decode cX6_copy 1 = .ok (.invokestatic 58, 3) := by decide +kernel
theorem dX6_copy_4 : decode cX6_copy 4 = .ok (.ifCond .eq 10, 3) := by decide +kernel
theorem dX6_copy_7 : decode cX6_copy 7 = .ok (.iload_n 3, 1) := by decide +kernel
theorem dX6_copy_8 : decode cX6_copy 8 = .ok (.invokestatic 58, 3) := by decide +kernel
theorem dX6_copy_11 : decode cX6_copy 11 = .ok (.ifCond .ne 6, 3) := by decide +kernel
theorem dX6_copy_14 : decode cX6_copy 14 = .ok (.ldc 62, 2) := by decide +kernel
theorem dX6_copy_16 : decode cX6_copy 16 = .ok (.ireturn, 1) := by decide +kernel
theorem dX6_copy_17 : decode cX6_copy 17 = .ok (.aload_n 0, 1) := by decide +kernel
theorem dX6_copy_18 : decode cX6_copy 18 = .ok (.getfield 11, 3) := by decide +kernel
theorem dX6_copy_21 : decode cX6_copy 21 = .ok (.iload_n 1, 1) := by decide +kernel
theorem dX6_copy_22 : decode cX6_copy 22 = .ok (.aaload, 1) := by decide +kernel
theorem dX6_copy_23 : decode cX6_copy 23 = .ok (.astore 6, 2) := by decide +kernel
theorem dX6_copy_25 : decode cX6_copy 25 = .ok (.aload_n 0, 1) := by decide +kernel
theorem dX6_copy_26 : decode cX6_copy 26 = .ok (.getfield 11, 3) := by decide +kernel
theorem dX6_copy_29 : decode cX6_copy 29 = .ok (.iload_n 3, 1) := by decide +kernel
theorem dX6_copy_30 : decode cX6_copy 30 = .ok (.aaload, 1) := by decide +kernel
theorem dX6_copy_31 : decode cX6_copy 31 = .ok (.astore 7, 2) := by decide +kernel
theorem dX6_copy_33 : decode cX6_copy 33 = .ok (.aload 6, 2) := by decide +kernel
theorem dX6_copy_35 : decode cX6_copy 35 = .ok (.invokevirtual 74, 3) := by decide +kernel
theorem dX6_copy_38 : decode cX6_copy 38 = .ok (.ifCond .ne 11, 3) := by decide +kernel
theorem dX6_copy_41 : decode cX6_copy 41 = .ok (.aload 7, 2) := by decide +kernel
theorem dX6_copy_43 : decode cX6_copy 43 = .ok (.invokevirtual 74, 3) := by decide +kernel
theorem dX6_copy_46 : decode cX6_copy 46 = .ok (.ifCond .eq 9, 3) := by decide +kernel
theorem dX6_copy_49 : decode cX6_copy 49 = .ok (.aload_n 0, 1) := by decide +kernel
theorem dX6_copy_50 : decode cX6_copy 50 = .ok (.iconst 1, 1) := by decide +kernel
theorem dX6_copy_51 : decode cX6_copy 51 = .ok (.invokevirtual 63, 3) := by decide +kernel
theorem dX6_copy_54 : decode cX6_copy 54 = .ok (.ireturn, 1) := by decide +kernel
theorem dX6_copy_55 : decode cX6_copy 55 = .ok (.aload 6, 2) := by decide +kernel
theorem dX6_copy_57 : decode cX6_copy 57 = .ok (.getfield 86, 3) := by decide +kernel
theorem dX6_copy_60 : decode cX6_copy 60 = .ok (.aload 7, 2) := by decide +kernel
theorem dX6_copy_62 : decode cX6_copy 62 = .ok (.getfield 86, 3) := by decide +kernel
theorem dX6_copy_65 : decode cX6_copy 65 = .ok (.if_icmp .eq 9, 3) := by decide +kernel
theorem dX6_copy_68 : decode cX6_copy 68 = .ok (.aload_n 0, 1) := by decide +kernel
theorem dX6_copy_69 : decode cX6_copy 69 = .ok (.iconst 5, 1) := by decide +kernel
theorem dX6_copy_70 : decode cX6_copy 70 = .ok (.invokevirtual 63, 3) := by decide +kernel
theorem dX6_copy_73 : decode cX6_copy 73 = .ok (.ireturn, 1) := by decide +kernel
theorem dX6_copy_74 : decode cX6_copy 74 = .ok (.aload 6, 2) := by decide +kernel
theorem dX6_copy_76 : decode cX6_copy 76 = .ok (.iload_n 2, 1) := by decide +kernel
theorem dX6_copy_77 : decode cX6_copy 77 = .ok (.iload 5, 2) := by decide +kernel
theorem dX6_copy_79 : decode cX6_copy 79 = .ok (.invokevirtual 78, 3) := by decide +kernel
theorem dX6_copy_82 : decode cX6_copy 82 = .ok (.ifCond .eq 15, 3) := by decide +kernel
theorem dX6_copy_85 : decode cX6_copy 85 = .ok (.aload 7, 2) := by decide +kernel
theorem dX6_copy_87 : decode cX6_copy 87 = .ok (.iload 4, 2) := by decide +kernel
theorem dX6_copy_89 : decode cX6_copy 89 = .ok (.iload 5, 2) := by decide +kernel
theorem dX6_copy_91 : decode cX6_copy 91 = .ok (.invokevirtual 78, 3) := by decide +kernel
theorem dX6_copy_94 : decode cX6_copy 94 = .ok (.ifCond .ne 9, 3) := by decide +kernel
theorem dX6_copy_97 : decode cX6_copy 97 = .ok (.aload_n 0, 1) := by decide +kernel
theorem dX6_copy_98 : decode cX6_copy 98 = .ok (.iconst 2, 1) := by decide +kernel
theorem dX6_copy_99 : decode cX6_copy 99 = .ok (.invokevirtual 63, 3) := by decide +kernel
theorem dX6_copy_102 : decode cX6_copy 102 = .ok (.ireturn, 1) := by decide +kernel
theorem dX6_copy_103 : decode cX6_copy 103 = .ok (.aload 6, 2) := by decide +kernel
theorem dX6_copy_105 : decode cX6_copy 105 = .ok (.getfield 90, 3) := by decide +kernel
theorem dX6_copy_108 : decode cX6_copy 108 = .ok (.iload_n 2, 1) := by decide +kernel
theorem dX6_copy_109 : decode cX6_copy 109 = .ok (.aload 7, 2) := by decide +kernel
theorem dX6_copy_111 : decode cX6_copy 111 = .ok (.getfield 90, 3) := by decide +kernel
theorem dX6_copy_114 : decode cX6_copy 114 = .ok (.iload 4, 2) := by decide +kernel
theorem dX6_copy_116 : decode cX6_copy 116 = .ok (.iload 5, 2) := by decide +kernel
theorem dX6_copy_118 : decode cX6_copy 118 = .ok (.invokestatic 94, 3) := by decide +kernel
theorem dX6_copy_121 : decode cX6_copy 121 = .ok (.aload_n 0, 1) := by decide +kernel
theorem dX6_copy_122 : decode cX6_copy 122 = .ok (.iload 5, 2) := by decide +kernel
theorem dX6_copy_124 : decode cX6_copy 124 = .ok (.invokevirtual 71, 3) := by decide +kernel
theorem dX6_copy_127 : decode cX6_copy 127 = .ok (.ireturn, 1) := by decide +kernel
theorem dX6_drop_0 : decode cX6_drop 0 = .ok (.iload_n 1, 1) := by decide +kernel
theorem dX6_drop_1 : decode cX6_drop 1 = .ok (.invokestatic 58, 3) := by decide +kernel
theorem dX6_drop_4 : decode cX6_drop 4 = .ok (.ifCond .ne 6, 3) := by decide +kernel
theorem dX6_drop_7 : decode cX6_drop 7 = .ok (.ldc 62, 2) := by decide +kernel
theorem dX6_drop_9 : decode cX6_drop 9 = .ok (.ireturn, 1) := by decide +kernel
theorem dX6_drop_10 : decode cX6_drop 10 = .ok (.aload_n 0, 1) := by decide +kernel
theorem dX6_drop_11 : decode cX6_drop 11 = .ok (.getfield 11, 3) := by decide +kernel
theorem dX6_drop_14 : decode cX6_drop 14 = .ok (.iload_n 1, 1) := by decide +kernel
theorem dX6_drop_15 : decode cX6_drop 15 = .ok (.aaload, 1) := by decide +kernel
theorem dX6_drop_16 : decode cX6_drop 16 = .ok (.astore_n 2, 1) := by decide +kernel
theorem dX6_drop_17 : decode cX6_drop 17 = .ok (.aload_n 2, 1) := by decide +kernel
theorem dX6_drop_18 : decode cX6_drop 18 = .ok (.invokevirtual 74, 3) := by decide +kernel
theorem dX6_drop_21 : decode cX6_drop 21 = .ok (.ifCond .eq 9, 3) := by decide +kernel
theorem dX6_drop_24 : decode cX6_drop 24 = .ok (.aload_n 0, 1) := by decide +kernel
theorem dX6_drop_25 : decode cX6_drop 25 = .ok (.iconst 1, 1) := by decide +kernel
theorem dX6_drop_26 : decode cX6_drop 26 = .ok (.invokevirtual 63, 3) := by decide +kernel
theorem dX6_drop_29 : decode cX6_drop 29 = .ok (.ireturn, 1) := by decide +kernel
theorem dX6_drop_30 : decode cX6_drop 30 = .ok (.aload_n 2, 1) := by decide +kernel
theorem dX6_drop_31 : decode cX6_drop 31 = .ok (.getfield 100, 3) := by decide +kernel
theorem dX6_drop_34 : decode cX6_drop 34 = .ok (.istore_n 3, 1) := by decide +kernel
theorem dX6_drop_35 : decode cX6_drop 35 = .ok (.aload_n 2, 1) := by decide +kernel
theorem dX6_drop_36 : decode cX6_drop 36 = .ok (.iconst (-1), 1) := by decide +kernel
theorem dX6_drop_37 : decode cX6_drop 37 = .ok (.putfield 100, 3) := by decide +kernel
theorem dX6_drop_40 : decode cX6_drop 40 = .ok (.aload_n 0, 1) := by decide +kernel
theorem dX6_drop_41 : decode cX6_drop 41 = .ok (.iload_n 3, 1) := by decide +kernel
theorem dX6_drop_42 : decode cX6_drop 42 = .ok (.invokevirtual 71, 3) := by decide +kernel
theorem dX6_drop_45 : decode cX6_drop 45 = .ok (.ireturn, 1) := by decide +kernel
theorem dX6_feed_0 : decode cX6_feed 0 = .ok (.iload_n 1, 1) := by decide +kernel
theorem dX6_feed_1 : decode cX6_feed 1 = .ok (.ifCond .lt 10, 3) := by decide +kernel
theorem dX6_feed_4 : decode cX6_feed 4 = .ok (.iload_n 1, 1) := by decide +kernel
theorem dX6_feed_5 : decode cX6_feed 5 = .ok (.sipush 255, 3) := by decide +kernel
theorem dX6_feed_8 : decode cX6_feed 8 = .ok (.if_icmp .le 6, 3) := by decide +kernel
theorem dX6_feed_11 : decode cX6_feed 11 = .ok (.ldc 62, 2) := by decide +kernel
theorem dX6_feed_13 : decode cX6_feed 13 = .ok (.ireturn, 1) := by decide +kernel
theorem dX6_feed_14 : decode cX6_feed 14 = .ok (.aload_n 0, 1) := by decide +kernel
theorem dX6_feed_15 : decode cX6_feed 15 = .ok (.getfield 18, 3) := by decide +kernel
theorem dX6_feed_18 : decode cX6_feed 18 = .ok (.iload_n 1, 1) := by decide +kernel
theorem dX6_feed_19 : decode cX6_feed 19 = .ok (.invokevirtual 103, 3) := by decide +kernel
theorem dX6_feed_22 : decode cX6_feed 22 = .ok (.ifCond .eq 13, 3) := by decide +kernel
theorem dX6_feed_25 : decode cX6_feed 25 = .ok (.aload_n 0, 1) := by decide +kernel
theorem dX6_feed_26 : decode cX6_feed 26 = .ok (.getfield 18, 3) := by decide +kernel
theorem dX6_feed_29 : decode cX6_feed 29 = .ok (.getfield 106, 3) := by decide +kernel
theorem dX6_feed_32 : decode cX6_feed 32 = .ok (.goto 5, 3) := by decide +kernel
theorem dX6_feed_35 : decode cX6_feed 35 = .ok (.ldc 109, 2) := by decide +kernel
theorem dX6_feed_37 : decode cX6_feed 37 = .ok (.ireturn, 1) := by decide +kernel
theorem dX6_well_0 : decode cX6_well 0 = .ok (.aload_n 0, 1) := by decide +kernel
theorem dX6_well_1 : decode cX6_well 1 = .ok (.getfield 18, 3) := by decide +kernel
theorem dX6_well_4 : decode cX6_well 4 = .ok (.aload_n 0, 1) := by decide +kernel
theorem dX6_well_5 : decode cX6_well 5 = .ok (.getfield 29, 3) := by decide +kernel
theorem dX6_well_8 : decode cX6_well 8 = .ok (.invokevirtual 110, 3) := by decide +kernel
theorem dX6_well_11 : decode cX6_well 11 = .ok (.ifCond .ne 14, 3) := by decide +kernel
theorem dX6_well_14 : decode cX6_well 14 = .ok (.ldc 114, 2) := by decide +kernel
theorem dX6_well_16 : decode cX6_well 16 = .ok (.aload_n 0, 1) := by decide +kernel
theorem dX6_well_17 : decode cX6_well 17 = .ok (.getfield 18, 3) := by decide +kernel
theorem dX6_well_20 : decode cX6_well 20 = .ok (.getfield 115, 3) := by decide +kernel
theorem dX6_well_23 : decode cX6_well 23 = .ok (.isub, 1) := by decide +kernel
theorem dX6_well_24 : decode cX6_well 24 = .ok (.ireturn, 1) := by decide +kernel
theorem dX6_well_25 : decode cX6_well 25 = .ok (.aload_n 0, 1) := by decide +kernel
theorem dX6_well_26 : decode cX6_well 26 = .ok (.getfield 25, 3) := by decide +kernel
theorem dX6_well_29 : decode cX6_well 29 = .ok (.aload_n 0, 1) := by decide +kernel
theorem dX6_well_30 : decode cX6_well 30 = .ok (.getfield 29, 3) := by decide +kernel
theorem dX6_well_33 : decode cX6_well 33 = .ok (.invokevirtual 118, 3) := by decide +kernel
theorem dX6_well_36 : decode cX6_well 36 = .ok (.aload_n 0, 1) := by decide +kernel
theorem dX6_well_37 : decode cX6_well 37 = .ok (.getfield 46, 3) := by decide +kernel
theorem dX6_well_40 : decode cX6_well 40 = .ok (.invokevirtual 122, 3) := by decide +kernel
theorem dX6_well_43 : decode cX6_well 43 = .ok (.aload_n 0, 1) := by decide +kernel
theorem dX6_well_44 : decode cX6_well 44 = .ok (.getfield 25, 3) := by decide +kernel
theorem dX6_well_47 : decode cX6_well 47 = .ok (.getfield 125, 3) := by decide +kernel
theorem dX6_well_50 : decode cX6_well 50 = .ok (.ireturn, 1) := by decide +kernel
theorem dX6_fault_0 : decode cX6_fault 0 = .ok (.aload_n 0, 1) := by decide +kernel
theorem dX6_fault_1 : decode cX6_fault 1 = .ok (.getfield 18, 3) := by decide +kernel
theorem dX6_fault_4 : decode cX6_fault 4 = .ok (.getfield 128, 3) := by decide +kernel
theorem dX6_fault_7 : decode cX6_fault 7 = .ok (.ireturn, 1) := by decide +kernel
theorem dX6_undo_0 : decode cX6_undo 0 = .ok (.aload_n 0, 1) := by decide +kernel
theorem dX6_undo_1 : decode cX6_undo 1 = .ok (.getfield 46, 3) := by decide +kernel
theorem dX6_undo_4 : decode cX6_undo 4 = .ok (.getfield 131, 3) := by decide +kernel
theorem dX6_undo_7 : decode cX6_undo 7 = .ok (.ifCond .ne 6, 3) := by decide +kernel
theorem dX6_undo_10 : decode cX6_undo 10 = .ok (.ldc 134, 2) := by decide +kernel
theorem dX6_undo_12 : decode cX6_undo 12 = .ok (.ireturn, 1) := by decide +kernel
theorem dX6_undo_13 : decode cX6_undo 13 = .ok (.aload_n 0, 1) := by decide +kernel
theorem dX6_undo_14 : decode cX6_undo 14 = .ok (.getfield 46, 3) := by decide +kernel
theorem dX6_undo_17 : decode cX6_undo 17 = .ok (.aload_n 0, 1) := by decide +kernel
theorem dX6_undo_18 : decode cX6_undo 18 = .ok (.getfield 25, 3) := by decide +kernel
theorem dX6_undo_21 : decode cX6_undo 21 = .ok (.invokevirtual 135, 3) := by decide +kernel
theorem dX6_undo_24 : decode cX6_undo 24 = .ok (.aload_n 0, 1) := by decide +kernel
theorem dX6_undo_25 : decode cX6_undo 25 = .ok (.getfield 46, 3) := by decide +kernel
theorem dX6_undo_28 : decode cX6_undo 28 = .ok (.getfield 131, 3) := by decide +kernel
theorem dX6_undo_31 : decode cX6_undo 31 = .ok (.ireturn, 1) := by decide +kernel
theorem dX6_lay_0 : decode cX6_lay 0 = .ok (.aload_n 0, 1) := by decide +kernel
theorem dX6_lay_1 : decode cX6_lay 1 = .ok (.iload_n 1, 1) := by decide +kernel
theorem dX6_lay_2 : decode cX6_lay 2 = .ok (.invokevirtual 138, 3) := by decide +kernel
theorem dX6_lay_5 : decode cX6_lay 5 = .ok (.ifCond .eq 16, 3) := by decide +kernel
theorem dX6_lay_8 : decode cX6_lay 8 = .ok (.iload_n 2, 1) := by decide +kernel
theorem dX6_lay_9 : decode cX6_lay 9 = .ok (.iconst (-1), 1) := by decide +kernel
theorem dX6_lay_10 : decode cX6_lay 10 = .ok (.if_icmp .eq 14, 3) := by decide +kernel
theorem dX6_lay_13 : decode cX6_lay 13 = .ok (.aload_n 0, 1) := by decide +kernel
theorem dX6_lay_14 : decode cX6_lay 14 = .ok (.iload_n 2, 1) := by decide +kernel
theorem dX6_lay_15 : decode cX6_lay 15 = .ok (.invokevirtual 141, 3) := by decide +kernel
theorem dX6_lay_18 : decode cX6_lay 18 = .ok (.ifCond .ne 6, 3) := by decide +kernel
theorem dX6_lay_21 : decode cX6_lay 21 = .ok (.ldc 62, 2) := by decide +kernel
theorem dX6_lay_23 : decode cX6_lay 23 = .ok (.ireturn, 1) := by decide +kernel
theorem dX6_lay_24 : decode cX6_lay 24 = .ok (.aload_n 0, 1) := by decide +kernel
theorem dX6_lay_25 : decode cX6_lay 25 = .ok (.getfield 25, 3) := by decide +kernel
theorem dX6_lay_28 : decode cX6_lay 28 = .ok (.getfield 144, 3) := by decide +kernel
theorem dX6_lay_31 : decode cX6_lay 31 = .ok (.iload_n 1, 1) := by decide +kernel
theorem dX6_lay_32 : decode cX6_lay 32 = .ok (.iaload, 1) := by decide +kernel
theorem dX6_lay_33 : decode cX6_lay 33 = .ok (.istore_n 3, 1) := by decide +kernel
theorem dX6_lay_34 : decode cX6_lay 34 = .ok (.iload_n 3, 1) := by decide +kernel
theorem dX6_lay_35 : decode cX6_lay 35 = .ok (.iload_n 2, 1) := by decide +kernel
theorem dX6_lay_36 : decode cX6_lay 36 = .ok (.if_icmp .ne 6, 3) := by decide +kernel
theorem dX6_lay_39 : decode cX6_lay 39 = .ok (.ldc 134, 2) := by decide +kernel
theorem dX6_lay_41 : decode cX6_lay 41 = .ok (.ireturn, 1) := by decide +kernel
theorem dX6_lay_42 : decode cX6_lay 42 = .ok (.aload_n 0, 1) := by decide +kernel
theorem dX6_lay_43 : decode cX6_lay 43 = .ok (.getfield 46, 3) := by decide +kernel
theorem dX6_lay_46 : decode cX6_lay 46 = .ok (.bipush 9, 2) := by decide +kernel
theorem dX6_lay_48 : decode cX6_lay 48 = .ok (.aload_n 0, 1) := by decide +kernel
theorem dX6_lay_49 : decode cX6_lay 49 = .ok (.getfield 25, 3) := by decide +kernel
theorem dX6_lay_52 : decode cX6_lay 52 = .ok (.invokevirtual 147, 3) := by decide +kernel
theorem dX6_lay_55 : decode cX6_lay 55 = .ok (.invokevirtual 151, 3) := by decide +kernel
theorem dX6_lay_58 : decode cX6_lay 58 = .ok (.aload_n 0, 1) := by decide +kernel
theorem dX6_lay_59 : decode cX6_lay 59 = .ok (.getfield 25, 3) := by decide +kernel
theorem dX6_lay_62 : decode cX6_lay 62 = .ok (.getfield 144, 3) := by decide +kernel
theorem dX6_lay_65 : decode cX6_lay 65 = .ok (.iload_n 1, 1) := by decide +kernel
theorem dX6_lay_66 : decode cX6_lay 66 = .ok (.iload_n 2, 1) := by decide +kernel
theorem dX6_lay_67 : decode cX6_lay 67 = .ok (.iastore, 1) := by decide +kernel
theorem dX6_lay_68 : decode cX6_lay 68 = .ok (.iload_n 3, 1) := by decide +kernel
theorem dX6_lay_69 : decode cX6_lay 69 = .ok (.ireturn, 1) := by decide +kernel
theorem dX6_layBest_0 : decode cX6_layBest 0 = .ok (.aload_n 0, 1) := by decide +kernel
theorem dX6_layBest_1 : decode cX6_layBest 1 = .ok (.invokevirtual 154, 3) := by decide +kernel
theorem dX6_layBest_4 : decode cX6_layBest 4 = .ok (.ifCond .eq 6, 3) := by decide +kernel
theorem dX6_layBest_7 : decode cX6_layBest 7 = .ok (.ldc 134, 2) := by decide +kernel
theorem dX6_layBest_9 : decode cX6_layBest 9 = .ok (.ireturn, 1) := by decide +kernel
theorem dX6_layBest_10 : decode cX6_layBest 10 = .ok (.aload_n 0, 1) := by decide +kernel
theorem dX6_layBest_11 : decode cX6_layBest 11 = .ok (.getfield 39, 3) := by decide +kernel
theorem dX6_layBest_14 : decode cX6_layBest 14 = .ok (.aload_n 0, 1) := by decide +kernel
theorem dX6_layBest_15 : decode cX6_layBest 15 = .ok (.getfield 25, 3) := by decide +kernel
theorem dX6_layBest_18 : decode cX6_layBest 18 = .ok (.ldc 157, 2) := by decide +kernel
theorem dX6_layBest_20 : decode cX6_layBest 20 = .ok (.invokevirtual 158, 3) := by decide +kernel
theorem dX6_layBest_23 : decode cX6_layBest 23 = .ok (.ifCond .ne 6, 3) := by decide +kernel
theorem dX6_layBest_26 : decode cX6_layBest 26 = .ok (.ldc 157, 2) := by decide +kernel
theorem dX6_layBest_28 : decode cX6_layBest 28 = .ok (.ireturn, 1) := by decide +kernel
theorem dX6_layBest_29 : decode cX6_layBest 29 = .ok (.aload_n 0, 1) := by decide +kernel
theorem dX6_layBest_30 : decode cX6_layBest 30 = .ok (.getfield 46, 3) := by decide +kernel
theorem dX6_layBest_33 : decode cX6_layBest 33 = .ok (.bipush 9, 2) := by decide +kernel
theorem dX6_layBest_35 : decode cX6_layBest 35 = .ok (.aload_n 0, 1) := by decide +kernel
theorem dX6_layBest_36 : decode cX6_layBest 36 = .ok (.getfield 25, 3) := by decide +kernel
theorem dX6_layBest_39 : decode cX6_layBest 39 = .ok (.invokevirtual 147, 3) := by decide +kernel
theorem dX6_layBest_42 : decode cX6_layBest 42 = .ok (.invokevirtual 151, 3) := by decide +kernel
theorem dX6_layBest_45 : decode cX6_layBest 45 = .ok (.aload_n 0, 1) := by decide +kernel
theorem dX6_layBest_46 : decode cX6_layBest 46 = .ok (.getfield 39, 3) := by decide +kernel
theorem dX6_layBest_49 : decode cX6_layBest 49 = .ok (.getfield 162, 3) := by decide +kernel
theorem dX6_layBest_52 : decode cX6_layBest 52 = .ok (.iconst 0, 1) := by decide +kernel
theorem dX6_layBest_53 : decode cX6_layBest 53 = .ok (.aload_n 0, 1) := by decide +kernel
theorem dX6_layBest_54 : decode cX6_layBest 54 = .ok (.getfield 25, 3) := by decide +kernel
theorem dX6_layBest_57 : decode cX6_layBest 57 = .ok (.getfield 144, 3) := by decide +kernel
theorem dX6_layBest_60 : decode cX6_layBest 60 = .ok (.iconst 0, 1) := by decide +kernel
theorem dX6_layBest_61 : decode cX6_layBest 61 = .ok (.bipush 8, 2) := by decide +kernel
theorem dX6_layBest_63 : decode cX6_layBest 63 = .ok (.invokestatic 94, 3) := by decide +kernel
theorem dX6_layBest_66 : decode cX6_layBest 66 = .ok (.aload_n 0, 1) := by decide +kernel
theorem dX6_layBest_67 : decode cX6_layBest 67 = .ok (.getfield 39, 3) := by decide +kernel
theorem dX6_layBest_70 : decode cX6_layBest 70 = .ok (.getfield 165, 3) := by decide +kernel
theorem dX6_layBest_73 : decode cX6_layBest 73 = .ok (.ireturn, 1) := by decide +kernel
theorem dX6_rule_0 : decode cX6_rule 0 = .ok (.aload_n 0, 1) := by decide +kernel
theorem dX6_rule_1 : decode cX6_rule 1 = .ok (.invokevirtual 154, 3) := by decide +kernel
theorem dX6_rule_4 : decode cX6_rule 4 = .ok (.ifCond .eq 6, 3) := by decide +kernel
theorem dX6_rule_7 : decode cX6_rule 7 = .ok (.ldc 134, 2) := by decide +kernel
theorem dX6_rule_9 : decode cX6_rule 9 = .ok (.ireturn, 1) := by decide +kernel
theorem dX6_rule_10 : decode cX6_rule 10 = .ok (.iload_n 1, 1) := by decide +kernel
theorem dX6_rule_11 : decode cX6_rule 11 = .ok (.ifCond .lt 26, 3) := by decide +kernel
theorem dX6_rule_14 : decode cX6_rule 14 = .ok (.iload_n 1, 1) := by decide +kernel
theorem dX6_rule_15 : decode cX6_rule 15 = .ok (.iconst 4, 1) := by decide +kernel
theorem dX6_rule_16 : decode cX6_rule 16 = .ok (.if_icmp .ge 21, 3) := by decide +kernel
theorem dX6_rule_19 : decode cX6_rule 19 = .ok (.iload_n 2, 1) := by decide +kernel
theorem dX6_rule_20 : decode cX6_rule 20 = .ok (.getstatic 168, 3) := by decide +kernel
theorem dX6_rule_23 : decode cX6_rule 23 = .ok (.iload_n 1, 1) := by decide +kernel
theorem dX6_rule_24 : decode cX6_rule 24 = .ok (.iaload, 1) := by decide +kernel
theorem dX6_rule_25 : decode cX6_rule 25 = .ok (.if_icmp .lt 12, 3) := by decide +kernel
theorem dX6_rule_28 : decode cX6_rule 28 = .ok (.iload_n 2, 1) := by decide +kernel
theorem dX6_rule_29 : decode cX6_rule 29 = .ok (.getstatic 171, 3) := by decide +kernel
theorem dX6_rule_32 : decode cX6_rule 32 = .ok (.iload_n 1, 1) := by decide +kernel
theorem dX6_rule_33 : decode cX6_rule 33 = .ok (.iaload, 1) := by decide +kernel
theorem dX6_rule_34 : decode cX6_rule 34 = .ok (.if_icmp .le 6, 3) := by decide +kernel
theorem dX6_rule_37 : decode cX6_rule 37 = .ok (.ldc 62, 2) := by decide +kernel
theorem dX6_rule_39 : decode cX6_rule 39 = .ok (.ireturn, 1) := by decide +kernel
theorem dX6_rule_40 : decode cX6_rule 40 = .ok (.aload_n 0, 1) := by decide +kernel
theorem dX6_rule_41 : decode cX6_rule 41 = .ok (.getfield 25, 3) := by decide +kernel
theorem dX6_rule_44 : decode cX6_rule 44 = .ok (.getfield 174, 3) := by decide +kernel
theorem dX6_rule_47 : decode cX6_rule 47 = .ok (.iload_n 1, 1) := by decide +kernel
theorem dX6_rule_48 : decode cX6_rule 48 = .ok (.iaload, 1) := by decide +kernel
theorem dX6_rule_49 : decode cX6_rule 49 = .ok (.istore_n 3, 1) := by decide +kernel
theorem dX6_rule_50 : decode cX6_rule 50 = .ok (.aload_n 0, 1) := by decide +kernel
theorem dX6_rule_51 : decode cX6_rule 51 = .ok (.getfield 46, 3) := by decide +kernel
theorem dX6_rule_54 : decode cX6_rule 54 = .ok (.iload_n 1, 1) := by decide +kernel
theorem dX6_rule_55 : decode cX6_rule 55 = .ok (.iload_n 3, 1) := by decide +kernel
theorem dX6_rule_56 : decode cX6_rule 56 = .ok (.invokevirtual 151, 3) := by decide +kernel
theorem dX6_rule_59 : decode cX6_rule 59 = .ok (.aload_n 0, 1) := by decide +kernel
theorem dX6_rule_60 : decode cX6_rule 60 = .ok (.getfield 25, 3) := by decide +kernel
theorem dX6_rule_63 : decode cX6_rule 63 = .ok (.getfield 174, 3) := by decide +kernel
theorem dX6_rule_66 : decode cX6_rule 66 = .ok (.iload_n 1, 1) := by decide +kernel
theorem dX6_rule_67 : decode cX6_rule 67 = .ok (.iload_n 2, 1) := by decide +kernel
theorem dX6_rule_68 : decode cX6_rule 68 = .ok (.iastore, 1) := by decide +kernel
theorem dX6_rule_69 : decode cX6_rule 69 = .ok (.iload_n 3, 1) := by decide +kernel
theorem dX6_rule_70 : decode cX6_rule 70 = .ok (.ireturn, 1) := by decide +kernel
theorem dX6_price_0 : decode cX6_price 0 = .ok (.aload_n 0, 1) := by decide +kernel
theorem dX6_price_1 : decode cX6_price 1 = .ok (.iload_n 1, 1) := by decide +kernel
theorem dX6_price_2 : decode cX6_price 2 = .ok (.invokevirtual 141, 3) := by decide +kernel
theorem dX6_price_5 : decode cX6_price 5 = .ok (.ifCond .eq 17, 3) := by decide +kernel
theorem dX6_price_8 : decode cX6_price 8 = .ok (.iload_n 2, 1) := by decide +kernel
theorem dX6_price_9 : decode cX6_price 9 = .ok (.iconst 1, 1) := by decide +kernel
theorem dX6_price_10 : decode cX6_price 10 = .ok (.if_icmp .lt 12, 3) := by decide +kernel
theorem dX6_price_13 : decode cX6_price 13 = .ok (.iload_n 2, 1) := by decide +kernel
theorem dX6_price_14 : decode cX6_price 14 = .ok (.getstatic 177, 3) := by decide +kernel
theorem dX6_price_17 : decode cX6_price 17 = .ok (.iconst 4, 1) := by decide +kernel
theorem dX6_price_18 : decode cX6_price 18 = .ok (.iaload, 1) := by decide +kernel
theorem dX6_price_19 : decode cX6_price 19 = .ok (.if_icmp .le 6, 3) := by decide +kernel
theorem dX6_price_22 : decode cX6_price 22 = .ok (.ldc 62, 2) := by decide +kernel
theorem dX6_price_24 : decode cX6_price 24 = .ok (.ireturn, 1) := by decide +kernel
theorem dX6_price_25 : decode cX6_price 25 = .ok (.aload_n 0, 1) := by decide +kernel
theorem dX6_price_26 : decode cX6_price 26 = .ok (.getfield 25, 3) := by decide +kernel
theorem dX6_price_29 : decode cX6_price 29 = .ok (.iload_n 1, 1) := by decide +kernel
theorem dX6_price_30 : decode cX6_price 30 = .ok (.iconst 4, 1) := by decide +kernel
theorem dX6_price_31 : decode cX6_price 31 = .ok (.invokevirtual 180, 3) := by decide +kernel
theorem dX6_price_34 : decode cX6_price 34 = .ok (.istore_n 3, 1) := by decide +kernel
theorem dX6_price_35 : decode cX6_price 35 = .ok (.aload_n 0, 1) := by decide +kernel
theorem dX6_price_36 : decode cX6_price 36 = .ok (.getfield 46, 3) := by decide +kernel
theorem dX6_price_39 : decode cX6_price 39 = .ok (.iconst 4, 1) := by decide +kernel
theorem dX6_price_40 : decode cX6_price 40 = .ok (.iload_n 1, 1) := by decide +kernel
theorem dX6_price_41 : decode cX6_price 41 = .ok (.iadd, 1) := by decide +kernel
theorem dX6_price_42 : decode cX6_price 42 = .ok (.iload_n 3, 1) := by decide +kernel
theorem dX6_price_43 : decode cX6_price 43 = .ok (.invokevirtual 151, 3) := by decide +kernel
theorem dX6_price_46 : decode cX6_price 46 = .ok (.aload_n 0, 1) := by decide +kernel
theorem dX6_price_47 : decode cX6_price 47 = .ok (.getfield 25, 3) := by decide +kernel
theorem dX6_price_50 : decode cX6_price 50 = .ok (.iload_n 1, 1) := by decide +kernel
theorem dX6_price_51 : decode cX6_price 51 = .ok (.iconst 4, 1) := by decide +kernel
theorem dX6_price_52 : decode cX6_price 52 = .ok (.iload_n 2, 1) := by decide +kernel
theorem dX6_price_53 : decode cX6_price 53 = .ok (.invokevirtual 183, 3) := by decide +kernel
theorem dX6_price_56 : decode cX6_price 56 = .ok (.iload_n 3, 1) := by decide +kernel
theorem dX6_price_57 : decode cX6_price 57 = .ok (.ireturn, 1) := by decide +kernel
theorem dX6_grade_0 : decode cX6_grade 0 = .ok (.aload_n 0, 1) := by decide +kernel
theorem dX6_grade_1 : decode cX6_grade 1 = .ok (.iload_n 1, 1) := by decide +kernel
theorem dX6_grade_2 : decode cX6_grade 2 = .ok (.invokevirtual 141, 3) := by decide +kernel
theorem dX6_grade_5 : decode cX6_grade 5 = .ok (.ifCond .eq 12, 3) := by decide +kernel
theorem dX6_grade_8 : decode cX6_grade 8 = .ok (.iload_n 2, 1) := by decide +kernel
theorem dX6_grade_9 : decode cX6_grade 9 = .ok (.ifCond .lt 8, 3) := by decide +kernel
theorem dX6_grade_12 : decode cX6_grade 12 = .ok (.iload_n 2, 1) := by decide +kernel
theorem dX6_grade_13 : decode cX6_grade 13 = .ok (.iconst 5, 1) := by decide +kernel
theorem dX6_grade_14 : decode cX6_grade 14 = .ok (.if_icmp .lt 6, 3) := by decide +kernel
theorem dX6_grade_17 : decode cX6_grade 17 = .ok (.ldc 62, 2) := by decide +kernel
theorem dX6_grade_19 : decode cX6_grade 19 = .ok (.ireturn, 1) := by decide +kernel
theorem dX6_grade_20 : decode cX6_grade 20 = .ok (.aload_n 0, 1) := by decide +kernel
theorem dX6_grade_21 : decode cX6_grade 21 = .ok (.getfield 25, 3) := by decide +kernel
theorem dX6_grade_24 : decode cX6_grade 24 = .ok (.iload_n 1, 1) := by decide +kernel
theorem dX6_grade_25 : decode cX6_grade 25 = .ok (.iload_n 2, 1) := by decide +kernel
theorem dX6_grade_26 : decode cX6_grade 26 = .ok (.invokevirtual 180, 3) := by decide +kernel
theorem dX6_grade_29 : decode cX6_grade 29 = .ok (.ireturn, 1) := by decide +kernel
theorem dX6_step_0 : decode cX6_step 0 = .ok (.aload_n 0, 1) := by decide +kernel
theorem dX6_step_1 : decode cX6_step 1 = .ok (.iload_n 1, 1) := by decide +kernel
theorem dX6_step_2 : decode cX6_step 2 = .ok (.invokevirtual 138, 3) := by decide +kernel
theorem dX6_step_5 : decode cX6_step 5 = .ok (.ifCond .ne 6, 3) := by decide +kernel
theorem dX6_step_8 : decode cX6_step 8 = .ok (.ldc 62, 2) := by decide +kernel
theorem dX6_step_10 : decode cX6_step 10 = .ok (.ireturn, 1) := by decide +kernel
theorem dX6_step_11 : decode cX6_step 11 = .ok (.iload_n 2, 1) := by decide +kernel
theorem dX6_step_12 : decode cX6_step 12 = .ok (.tableswitch 103 0 5 #[40, 50, 59, 68, 77, 94], 40) := by decide +kernel
theorem dX6_step_52 : decode cX6_step 52 = .ok (.aload_n 0, 1) := by decide +kernel
theorem dX6_step_53 : decode cX6_step 53 = .ok (.getfield 25, 3) := by decide +kernel
theorem dX6_step_56 : decode cX6_step 56 = .ok (.getfield 144, 3) := by decide +kernel
theorem dX6_step_59 : decode cX6_step 59 = .ok (.iload_n 1, 1) := by decide +kernel
theorem dX6_step_60 : decode cX6_step 60 = .ok (.iaload, 1) := by decide +kernel
theorem dX6_step_61 : decode cX6_step 61 = .ok (.ireturn, 1) := by decide +kernel
theorem dX6_step_62 : decode cX6_step 62 = .ok (.aload_n 0, 1) := by decide +kernel
theorem dX6_step_63 : decode cX6_step 63 = .ok (.getfield 25, 3) := by decide +kernel
theorem dX6_step_66 : decode cX6_step 66 = .ok (.iload_n 1, 1) := by decide +kernel
theorem dX6_step_67 : decode cX6_step 67 = .ok (.invokevirtual 187, 3) := by decide +kernel
theorem dX6_step_70 : decode cX6_step 70 = .ok (.ireturn, 1) := by decide +kernel
theorem dX6_step_71 : decode cX6_step 71 = .ok (.aload_n 0, 1) := by decide +kernel
theorem dX6_step_72 : decode cX6_step 72 = .ok (.getfield 25, 3) := by decide +kernel
theorem dX6_step_75 : decode cX6_step 75 = .ok (.iload_n 1, 1) := by decide +kernel
theorem dX6_step_76 : decode cX6_step 76 = .ok (.invokevirtual 190, 3) := by decide +kernel
theorem dX6_step_79 : decode cX6_step 79 = .ok (.ireturn, 1) := by decide +kernel
theorem dX6_step_80 : decode cX6_step 80 = .ok (.aload_n 0, 1) := by decide +kernel
theorem dX6_step_81 : decode cX6_step 81 = .ok (.getfield 25, 3) := by decide +kernel
theorem dX6_step_84 : decode cX6_step 84 = .ok (.iload_n 1, 1) := by decide +kernel
theorem dX6_step_85 : decode cX6_step 85 = .ok (.invokevirtual 193, 3) := by decide +kernel
theorem dX6_step_88 : decode cX6_step 88 = .ok (.ireturn, 1) := by decide +kernel
theorem dX6_step_89 : decode cX6_step 89 = .ok (.aload_n 0, 1) := by decide +kernel
theorem dX6_step_90 : decode cX6_step 90 = .ok (.getfield 25, 3) := by decide +kernel
theorem dX6_step_93 : decode cX6_step 93 = .ok (.iload_n 1, 1) := by decide +kernel
theorem dX6_step_94 : decode cX6_step 94 = .ok (.invokevirtual 196, 3) := by decide +kernel
theorem dX6_step_97 : decode cX6_step 97 = .ok (.ifCond .eq 7, 3) := by decide +kernel
theorem dX6_step_100 : decode cX6_step 100 = .ok (.iconst 1, 1) := by decide +kernel
theorem dX6_step_101 : decode cX6_step 101 = .ok (.goto 4, 3) := by decide +kernel
theorem dX6_step_104 : decode cX6_step 104 = .ok (.iconst 0, 1) := by decide +kernel
theorem dX6_step_105 : decode cX6_step 105 = .ok (.ireturn, 1) := by decide +kernel
theorem dX6_step_106 : decode cX6_step 106 = .ok (.aload_n 0, 1) := by decide +kernel
theorem dX6_step_107 : decode cX6_step 107 = .ok (.getfield 25, 3) := by decide +kernel
theorem dX6_step_110 : decode cX6_step 110 = .ok (.iload_n 1, 1) := by decide +kernel
theorem dX6_step_111 : decode cX6_step 111 = .ok (.invokevirtual 199, 3) := by decide +kernel
theorem dX6_step_114 : decode cX6_step 114 = .ok (.ireturn, 1) := by decide +kernel
theorem dX6_step_115 : decode cX6_step 115 = .ok (.ldc 62, 2) := by decide +kernel
theorem dX6_step_117 : decode cX6_step 117 = .ok (.ireturn, 1) := by decide +kernel
theorem dX6_bears_0 : decode cX6_bears 0 = .ok (.aload_n 0, 1) := by decide +kernel
theorem dX6_bears_1 : decode cX6_bears 1 = .ok (.iload_n 1, 1) := by decide +kernel
theorem dX6_bears_2 : decode cX6_bears 2 = .ok (.invokevirtual 138, 3) := by decide +kernel
theorem dX6_bears_5 : decode cX6_bears 5 = .ok (.ifCond .eq 12, 3) := by decide +kernel
theorem dX6_bears_8 : decode cX6_bears 8 = .ok (.iload_n 2, 1) := by decide +kernel
theorem dX6_bears_9 : decode cX6_bears 9 = .ok (.ifCond .lt 8, 3) := by decide +kernel
theorem dX6_bears_12 : decode cX6_bears 12 = .ok (.iload_n 2, 1) := by decide +kernel
theorem dX6_bears_13 : decode cX6_bears 13 = .ok (.iconst 2, 1) := by decide +kernel
theorem dX6_bears_14 : decode cX6_bears 14 = .ok (.if_icmp .le 6, 3) := by decide +kernel
theorem dX6_bears_17 : decode cX6_bears 17 = .ok (.ldc 62, 2) := by decide +kernel
theorem dX6_bears_19 : decode cX6_bears 19 = .ok (.ireturn, 1) := by decide +kernel
theorem dX6_bears_20 : decode cX6_bears 20 = .ok (.aload_n 0, 1) := by decide +kernel
theorem dX6_bears_21 : decode cX6_bears 21 = .ok (.getfield 25, 3) := by decide +kernel
theorem dX6_bears_24 : decode cX6_bears 24 = .ok (.getfield 144, 3) := by decide +kernel
theorem dX6_bears_27 : decode cX6_bears 27 = .ok (.iload_n 1, 1) := by decide +kernel
theorem dX6_bears_28 : decode cX6_bears 28 = .ok (.iaload, 1) := by decide +kernel
theorem dX6_bears_29 : decode cX6_bears 29 = .ok (.istore_n 3, 1) := by decide +kernel
theorem dX6_bears_30 : decode cX6_bears 30 = .ok (.iload_n 3, 1) := by decide +kernel
theorem dX6_bears_31 : decode cX6_bears 31 = .ok (.iconst (-1), 1) := by decide +kernel
theorem dX6_bears_32 : decode cX6_bears 32 = .ok (.if_icmp .ne 6, 3) := by decide +kernel
theorem dX6_bears_35 : decode cX6_bears 35 = .ok (.ldc 134, 2) := by decide +kernel
theorem dX6_bears_37 : decode cX6_bears 37 = .ok (.ireturn, 1) := by decide +kernel
theorem dX6_bears_38 : decode cX6_bears 38 = .ok (.iload_n 2, 1) := by decide +kernel
theorem dX6_bears_39 : decode cX6_bears 39 = .ok (.lookupswitch 51 #[(0, 25), (1, 34)], 25) := by decide +kernel
theorem dX6_bears_64 : decode cX6_bears 64 = .ok (.aload_n 0, 1) := by decide +kernel
theorem dX6_bears_65 : decode cX6_bears 65 = .ok (.getfield 25, 3) := by decide +kernel
theorem dX6_bears_68 : decode cX6_bears 68 = .ok (.iload_n 3, 1) := by decide +kernel
theorem dX6_bears_69 : decode cX6_bears 69 = .ok (.invokevirtual 202, 3) := by decide +kernel
theorem dX6_bears_72 : decode cX6_bears 72 = .ok (.ireturn, 1) := by decide +kernel
theorem dX6_bears_73 : decode cX6_bears 73 = .ok (.aload_n 0, 1) := by decide +kernel
theorem dX6_bears_74 : decode cX6_bears 74 = .ok (.getfield 25, 3) := by decide +kernel
theorem dX6_bears_77 : decode cX6_bears 77 = .ok (.iload_n 3, 1) := by decide +kernel
theorem dX6_bears_78 : decode cX6_bears 78 = .ok (.aload_n 0, 1) := by decide +kernel
theorem dX6_bears_79 : decode cX6_bears 79 = .ok (.getfield 25, 3) := by decide +kernel
theorem dX6_bears_82 : decode cX6_bears 82 = .ok (.iload_n 1, 1) := by decide +kernel
theorem dX6_bears_83 : decode cX6_bears 83 = .ok (.invokevirtual 193, 3) := by decide +kernel
theorem dX6_bears_86 : decode cX6_bears 86 = .ok (.invokevirtual 205, 3) := by decide +kernel
theorem dX6_bears_89 : decode cX6_bears 89 = .ok (.ireturn, 1) := by decide +kernel
theorem dX6_bears_90 : decode cX6_bears 90 = .ok (.aload_n 0, 1) := by decide +kernel
theorem dX6_bears_91 : decode cX6_bears 91 = .ok (.getfield 25, 3) := by decide +kernel
theorem dX6_bears_94 : decode cX6_bears 94 = .ok (.iload_n 3, 1) := by decide +kernel
theorem dX6_bears_95 : decode cX6_bears 95 = .ok (.invokevirtual 208, 3) := by decide +kernel
theorem dX6_bears_98 : decode cX6_bears 98 = .ok (.ireturn, 1) := by decide +kernel
theorem dX6_stand_0 : decode cX6_stand 0 = .ok (.aload_n 0, 1) := by decide +kernel
theorem dX6_stand_1 : decode cX6_stand 1 = .ok (.invokevirtual 154, 3) := by decide +kernel
theorem dX6_stand_4 : decode cX6_stand 4 = .ok (.ifCond .eq 6, 3) := by decide +kernel
theorem dX6_stand_7 : decode cX6_stand 7 = .ok (.ldc 134, 2) := by decide +kernel
theorem dX6_stand_9 : decode cX6_stand 9 = .ok (.ireturn, 1) := by decide +kernel
theorem dX6_stand_10 : decode cX6_stand 10 = .ok (.iload_n 1, 1) := by decide +kernel
theorem dX6_stand_11 : decode cX6_stand 11 = .ok (.tableswitch 139 0 8 #[49, 57, 67, 77, 87, 97, 106, 115, 123], 49) := by decide +kernel
theorem dX6_stand_60 : decode cX6_stand 60 = .ok (.aload_n 0, 1) := by decide +kernel
theorem dX6_stand_61 : decode cX6_stand 61 = .ok (.getfield 25, 3) := by decide +kernel
theorem dX6_stand_64 : decode cX6_stand 64 = .ok (.getfield 211, 3) := by decide +kernel
theorem dX6_stand_67 : decode cX6_stand 67 = .ok (.ireturn, 1) := by decide +kernel
theorem dX6_stand_68 : decode cX6_stand 68 = .ok (.aload_n 0, 1) := by decide +kernel
theorem dX6_stand_69 : decode cX6_stand 69 = .ok (.getfield 25, 3) := by decide +kernel
theorem dX6_stand_72 : decode cX6_stand 72 = .ok (.getfield 174, 3) := by decide +kernel
theorem dX6_stand_75 : decode cX6_stand 75 = .ok (.iconst 3, 1) := by decide +kernel
theorem dX6_stand_76 : decode cX6_stand 76 = .ok (.iaload, 1) := by decide +kernel
theorem dX6_stand_77 : decode cX6_stand 77 = .ok (.ireturn, 1) := by decide +kernel
theorem dX6_stand_78 : decode cX6_stand 78 = .ok (.aload_n 0, 1) := by decide +kernel
theorem dX6_stand_79 : decode cX6_stand 79 = .ok (.getfield 25, 3) := by decide +kernel
theorem dX6_stand_82 : decode cX6_stand 82 = .ok (.getfield 174, 3) := by decide +kernel
theorem dX6_stand_85 : decode cX6_stand 85 = .ok (.iconst 0, 1) := by decide +kernel
theorem dX6_stand_86 : decode cX6_stand 86 = .ok (.iaload, 1) := by decide +kernel
theorem dX6_stand_87 : decode cX6_stand 87 = .ok (.ireturn, 1) := by decide +kernel
theorem dX6_stand_88 : decode cX6_stand 88 = .ok (.aload_n 0, 1) := by decide +kernel
theorem dX6_stand_89 : decode cX6_stand 89 = .ok (.getfield 25, 3) := by decide +kernel
theorem dX6_stand_92 : decode cX6_stand 92 = .ok (.getfield 174, 3) := by decide +kernel
theorem dX6_stand_95 : decode cX6_stand 95 = .ok (.iconst 1, 1) := by decide +kernel
theorem dX6_stand_96 : decode cX6_stand 96 = .ok (.iaload, 1) := by decide +kernel
theorem dX6_stand_97 : decode cX6_stand 97 = .ok (.ireturn, 1) := by decide +kernel
theorem dX6_stand_98 : decode cX6_stand 98 = .ok (.aload_n 0, 1) := by decide +kernel
theorem dX6_stand_99 : decode cX6_stand 99 = .ok (.getfield 25, 3) := by decide +kernel
theorem dX6_stand_102 : decode cX6_stand 102 = .ok (.getfield 174, 3) := by decide +kernel
theorem dX6_stand_105 : decode cX6_stand 105 = .ok (.iconst 2, 1) := by decide +kernel
theorem dX6_stand_106 : decode cX6_stand 106 = .ok (.iaload, 1) := by decide +kernel
theorem dX6_stand_107 : decode cX6_stand 107 = .ok (.ireturn, 1) := by decide +kernel
theorem dX6_stand_108 : decode cX6_stand 108 = .ok (.aload_n 0, 1) := by decide +kernel
theorem dX6_stand_109 : decode cX6_stand 109 = .ok (.getfield 25, 3) := by decide +kernel
theorem dX6_stand_112 : decode cX6_stand 112 = .ok (.iconst 4, 1) := by decide +kernel
theorem dX6_stand_113 : decode cX6_stand 113 = .ok (.invokevirtual 214, 3) := by decide +kernel
theorem dX6_stand_116 : decode cX6_stand 116 = .ok (.ireturn, 1) := by decide +kernel
theorem dX6_stand_117 : decode cX6_stand 117 = .ok (.aload_n 0, 1) := by decide +kernel
theorem dX6_stand_118 : decode cX6_stand 118 = .ok (.getfield 25, 3) := by decide +kernel
theorem dX6_stand_121 : decode cX6_stand 121 = .ok (.iconst 3, 1) := by decide +kernel
theorem dX6_stand_122 : decode cX6_stand 122 = .ok (.invokevirtual 214, 3) := by decide +kernel
theorem dX6_stand_125 : decode cX6_stand 125 = .ok (.ireturn, 1) := by decide +kernel
theorem dX6_stand_126 : decode cX6_stand 126 = .ok (.aload_n 0, 1) := by decide +kernel
theorem dX6_stand_127 : decode cX6_stand 127 = .ok (.getfield 25, 3) := by decide +kernel
theorem dX6_stand_130 : decode cX6_stand 130 = .ok (.invokevirtual 217, 3) := by decide +kernel
theorem dX6_stand_133 : decode cX6_stand 133 = .ok (.ireturn, 1) := by decide +kernel
theorem dX6_stand_134 : decode cX6_stand 134 = .ok (.aload_n 0, 1) := by decide +kernel
theorem dX6_stand_135 : decode cX6_stand 135 = .ok (.getfield 25, 3) := by decide +kernel
theorem dX6_stand_138 : decode cX6_stand 138 = .ok (.invokevirtual 220, 3) := by decide +kernel
theorem dX6_stand_141 : decode cX6_stand 141 = .ok (.ifCond .eq 7, 3) := by decide +kernel
theorem dX6_stand_144 : decode cX6_stand 144 = .ok (.iconst 1, 1) := by decide +kernel
theorem dX6_stand_145 : decode cX6_stand 145 = .ok (.goto 4, 3) := by decide +kernel
theorem dX6_stand_148 : decode cX6_stand 148 = .ok (.iconst 0, 1) := by decide +kernel
theorem dX6_stand_149 : decode cX6_stand 149 = .ok (.ireturn, 1) := by decide +kernel
theorem dX6_stand_150 : decode cX6_stand 150 = .ok (.ldc 62, 2) := by decide +kernel
theorem dX6_stand_152 : decode cX6_stand 152 = .ok (.ireturn, 1) := by decide +kernel
theorem dX6_best_0 : decode cX6_best 0 = .ok (.aload_n 0, 1) := by decide +kernel
theorem dX6_best_1 : decode cX6_best 1 = .ok (.invokevirtual 154, 3) := by decide +kernel
theorem dX6_best_4 : decode cX6_best 4 = .ok (.ifCond .eq 6, 3) := by decide +kernel
theorem dX6_best_7 : decode cX6_best 7 = .ok (.ldc 134, 2) := by decide +kernel
theorem dX6_best_9 : decode cX6_best 9 = .ok (.ireturn, 1) := by decide +kernel
theorem dX6_best_10 : decode cX6_best 10 = .ok (.iload_n 1, 1) := by decide +kernel
theorem dX6_best_11 : decode cX6_best 11 = .ok (.ifCond .eq 31, 3) := by decide +kernel
theorem dX6_best_14 : decode cX6_best 14 = .ok (.iload_n 1, 1) := by decide +kernel
theorem dX6_best_15 : decode cX6_best 15 = .ok (.iconst 1, 1) := by decide +kernel
theorem dX6_best_16 : decode cX6_best 16 = .ok (.if_icmp .eq 26, 3) := by decide +kernel
theorem dX6_best_19 : decode cX6_best 19 = .ok (.iload_n 1, 1) := by decide +kernel
theorem dX6_best_20 : decode cX6_best 20 = .ok (.bipush 10, 2) := by decide +kernel
theorem dX6_best_22 : decode cX6_best 22 = .ok (.if_icmp .lt 17, 3) := by decide +kernel
theorem dX6_best_25 : decode cX6_best 25 = .ok (.iload_n 1, 1) := by decide +kernel
theorem dX6_best_26 : decode cX6_best 26 = .ok (.bipush 10, 2) := by decide +kernel
theorem dX6_best_28 : decode cX6_best 28 = .ok (.isub, 1) := by decide +kernel
theorem dX6_best_29 : decode cX6_best 29 = .ok (.aload_n 0, 1) := by decide +kernel
theorem dX6_best_30 : decode cX6_best 30 = .ok (.getfield 25, 3) := by decide +kernel
theorem dX6_best_33 : decode cX6_best 33 = .ok (.getfield 211, 3) := by decide +kernel
theorem dX6_best_36 : decode cX6_best 36 = .ok (.if_icmp .lt 6, 3) := by decide +kernel
theorem dX6_best_39 : decode cX6_best 39 = .ok (.ldc 62, 2) := by decide +kernel
theorem dX6_best_41 : decode cX6_best 41 = .ok (.ireturn, 1) := by decide +kernel
theorem dX6_best_42 : decode cX6_best 42 = .ok (.aload_n 0, 1) := by decide +kernel
theorem dX6_best_43 : decode cX6_best 43 = .ok (.getfield 39, 3) := by decide +kernel
theorem dX6_best_46 : decode cX6_best 46 = .ok (.aload_n 0, 1) := by decide +kernel
theorem dX6_best_47 : decode cX6_best 47 = .ok (.getfield 25, 3) := by decide +kernel
theorem dX6_best_50 : decode cX6_best 50 = .ok (.ldc 157, 2) := by decide +kernel
theorem dX6_best_52 : decode cX6_best 52 = .ok (.invokevirtual 158, 3) := by decide +kernel
theorem dX6_best_55 : decode cX6_best 55 = .ok (.ifCond .ne 6, 3) := by decide +kernel
theorem dX6_best_58 : decode cX6_best 58 = .ok (.ldc 157, 2) := by decide +kernel
theorem dX6_best_60 : decode cX6_best 60 = .ok (.ireturn, 1) := by decide +kernel
theorem dX6_best_61 : decode cX6_best 61 = .ok (.iload_n 1, 1) := by decide +kernel
theorem dX6_best_62 : decode cX6_best 62 = .ok (.lookupswitch 42 #[(0, 26), (1, 34)], 26) := by decide +kernel
theorem dX6_best_88 : decode cX6_best 88 = .ok (.aload_n 0, 1) := by decide +kernel
theorem dX6_best_89 : decode cX6_best 89 = .ok (.getfield 39, 3) := by decide +kernel
theorem dX6_best_92 : decode cX6_best 92 = .ok (.getfield 165, 3) := by decide +kernel
theorem dX6_best_95 : decode cX6_best 95 = .ok (.ireturn, 1) := by decide +kernel
theorem dX6_best_96 : decode cX6_best 96 = .ok (.aload_n 0, 1) := by decide +kernel
theorem dX6_best_97 : decode cX6_best 97 = .ok (.getfield 39, 3) := by decide +kernel
theorem dX6_best_100 : decode cX6_best 100 = .ok (.getfield 223, 3) := by decide +kernel
theorem dX6_best_103 : decode cX6_best 103 = .ok (.ireturn, 1) := by decide +kernel
theorem dX6_best_104 : decode cX6_best 104 = .ok (.aload_n 0, 1) := by decide +kernel
theorem dX6_best_105 : decode cX6_best 105 = .ok (.getfield 39, 3) := by decide +kernel
theorem dX6_best_108 : decode cX6_best 108 = .ok (.getfield 162, 3) := by decide +kernel
theorem dX6_best_111 : decode cX6_best 111 = .ok (.iload_n 1, 1) := by decide +kernel
theorem dX6_best_112 : decode cX6_best 112 = .ok (.bipush 10, 2) := by decide +kernel
theorem dX6_best_114 : decode cX6_best 114 = .ok (.isub, 1) := by decide +kernel
theorem dX6_best_115 : decode cX6_best 115 = .ok (.iaload, 1) := by decide +kernel
theorem dX6_best_116 : decode cX6_best 116 = .ok (.ireturn, 1) := by decide +kernel
theorem dX6_without_0 : decode cX6_without 0 = .ok (.aload_n 0, 1) := by decide +kernel
theorem dX6_without_1 : decode cX6_without 1 = .ok (.iload_n 1, 1) := by decide +kernel
theorem dX6_without_2 : decode cX6_without 2 = .ok (.invokevirtual 141, 3) := by decide +kernel
theorem dX6_without_5 : decode cX6_without 5 = .ok (.ifCond .ne 6, 3) := by decide +kernel
theorem dX6_without_8 : decode cX6_without 8 = .ok (.ldc 62, 2) := by decide +kernel
theorem dX6_without_10 : decode cX6_without 10 = .ok (.ireturn, 1) := by decide +kernel
theorem dX6_without_11 : decode cX6_without 11 = .ok (.aload_n 0, 1) := by decide +kernel
theorem dX6_without_12 : decode cX6_without 12 = .ok (.getfield 39, 3) := by decide +kernel
theorem dX6_without_15 : decode cX6_without 15 = .ok (.aload_n 0, 1) := by decide +kernel
theorem dX6_without_16 : decode cX6_without 16 = .ok (.getfield 25, 3) := by decide +kernel
theorem dX6_without_19 : decode cX6_without 19 = .ok (.iload_n 1, 1) := by decide +kernel
theorem dX6_without_20 : decode cX6_without 20 = .ok (.invokevirtual 158, 3) := by decide +kernel
theorem dX6_without_23 : decode cX6_without 23 = .ok (.ifCond .eq 13, 3) := by decide +kernel
theorem dX6_without_26 : decode cX6_without 26 = .ok (.aload_n 0, 1) := by decide +kernel
theorem dX6_without_27 : decode cX6_without 27 = .ok (.getfield 39, 3) := by decide +kernel
theorem dX6_without_30 : decode cX6_without 30 = .ok (.getfield 165, 3) := by decide +kernel
theorem dX6_without_33 : decode cX6_without 33 = .ok (.goto 5, 3) := by decide +kernel
theorem dX6_without_36 : decode cX6_without 36 = .ok (.ldc 157, 2) := by decide +kernel
theorem dX6_without_38 : decode cX6_without 38 = .ok (.ireturn, 1) := by decide +kernel
theorem dX6_most_0 : decode cX6_most 0 = .ok (.aload_n 0, 1) := by decide +kernel
theorem dX6_most_1 : decode cX6_most 1 = .ok (.invokevirtual 154, 3) := by decide +kernel
theorem dX6_most_4 : decode cX6_most 4 = .ok (.ifCond .eq 6, 3) := by decide +kernel
theorem dX6_most_7 : decode cX6_most 7 = .ok (.ldc 134, 2) := by decide +kernel
theorem dX6_most_9 : decode cX6_most 9 = .ok (.ireturn, 1) := by decide +kernel
theorem dX6_most_10 : decode cX6_most 10 = .ok (.iload_n 1, 1) := by decide +kernel
theorem dX6_most_11 : decode cX6_most 11 = .ok (.ifCond .eq 11, 3) := by decide +kernel
theorem dX6_most_14 : decode cX6_most 14 = .ok (.iload_n 1, 1) := by decide +kernel
theorem dX6_most_15 : decode cX6_most 15 = .ok (.iconst 1, 1) := by decide +kernel
theorem dX6_most_16 : decode cX6_most 16 = .ok (.if_icmp .eq 6, 3) := by decide +kernel
theorem dX6_most_19 : decode cX6_most 19 = .ok (.ldc 62, 2) := by decide +kernel
theorem dX6_most_21 : decode cX6_most 21 = .ok (.ireturn, 1) := by decide +kernel
theorem dX6_most_22 : decode cX6_most 22 = .ok (.aload_n 0, 1) := by decide +kernel
theorem dX6_most_23 : decode cX6_most 23 = .ok (.getfield 29, 3) := by decide +kernel
theorem dX6_most_26 : decode cX6_most 26 = .ok (.aload_n 0, 1) := by decide +kernel
theorem dX6_most_27 : decode cX6_most 27 = .ok (.getfield 25, 3) := by decide +kernel
theorem dX6_most_30 : decode cX6_most 30 = .ok (.invokevirtual 118, 3) := by decide +kernel
theorem dX6_most_33 : decode cX6_most 33 = .ok (.iload_n 1, 1) := by decide +kernel
theorem dX6_most_34 : decode cX6_most 34 = .ok (.ifCond .ne 8, 3) := by decide +kernel
theorem dX6_most_37 : decode cX6_most 37 = .ok (.bipush 40, 2) := by decide +kernel
theorem dX6_most_39 : decode cX6_most 39 = .ok (.goto 5, 3) := by decide +kernel
theorem dX6_most_42 : decode cX6_most 42 = .ok (.bipush 99, 2) := by decide +kernel
theorem dX6_most_44 : decode cX6_most 44 = .ok (.istore_n 2, 1) := by decide +kernel
theorem dX6_most_45 : decode cX6_most 45 = .ok (.iload_n 2, 1) := by decide +kernel
theorem dX6_most_46 : decode cX6_most 46 = .ok (.ifCond .lt 33, 3) := by decide +kernel
theorem dX6_most_49 : decode cX6_most 49 = .ok (.aload_n 0, 1) := by decide +kernel
theorem dX6_most_50 : decode cX6_most 50 = .ok (.getfield 29, 3) := by decide +kernel
theorem dX6_most_53 : decode cX6_most 53 = .ok (.getfield 174, 3) := by decide +kernel
theorem dX6_most_56 : decode cX6_most 56 = .ok (.iload_n 1, 1) := by decide +kernel
theorem dX6_most_57 : decode cX6_most 57 = .ok (.iload_n 2, 1) := by decide +kernel
theorem dX6_most_58 : decode cX6_most 58 = .ok (.iastore, 1) := by decide +kernel
theorem dX6_most_59 : decode cX6_most 59 = .ok (.aload_n 0, 1) := by decide +kernel
theorem dX6_most_60 : decode cX6_most 60 = .ok (.getfield 29, 3) := by decide +kernel
theorem dX6_most_63 : decode cX6_most 63 = .ok (.invokevirtual 217, 3) := by decide +kernel
theorem dX6_most_66 : decode cX6_most 66 = .ok (.ldc 157, 2) := by decide +kernel
theorem dX6_most_68 : decode cX6_most 68 = .ok (.if_icmp .ne 5, 3) := by decide +kernel
theorem dX6_most_71 : decode cX6_most 71 = .ok (.iload_n 2, 1) := by decide +kernel
theorem dX6_most_72 : decode cX6_most 72 = .ok (.ireturn, 1) := by decide +kernel
theorem dX6_most_73 : decode cX6_most 73 = .ok (.iinc 2 (-1), 3) := by decide +kernel
theorem dX6_most_76 : decode cX6_most 76 = .ok (.goto (-31), 3) := by decide +kernel
theorem dX6_most_79 : decode cX6_most 79 = .ok (.ldc 157, 2) := by decide +kernel
theorem dX6_most_81 : decode cX6_most 81 = .ok (.ireturn, 1) := by decide +kernel
theorem dX6_need_0 : decode cX6_need 0 = .ok (.aload_n 0, 1) := by decide +kernel
theorem dX6_need_1 : decode cX6_need 1 = .ok (.iload_n 1, 1) := by decide +kernel
theorem dX6_need_2 : decode cX6_need 2 = .ok (.invokevirtual 138, 3) := by decide +kernel
theorem dX6_need_5 : decode cX6_need 5 = .ok (.ifCond .ne 6, 3) := by decide +kernel
theorem dX6_need_8 : decode cX6_need 8 = .ok (.ldc 62, 2) := by decide +kernel
theorem dX6_need_10 : decode cX6_need 10 = .ok (.ireturn, 1) := by decide +kernel
theorem dX6_need_11 : decode cX6_need 11 = .ok (.aload_n 0, 1) := by decide +kernel
theorem dX6_need_12 : decode cX6_need 12 = .ok (.getfield 29, 3) := by decide +kernel
theorem dX6_need_15 : decode cX6_need 15 = .ok (.aload_n 0, 1) := by decide +kernel
theorem dX6_need_16 : decode cX6_need 16 = .ok (.getfield 25, 3) := by decide +kernel
theorem dX6_need_19 : decode cX6_need 19 = .ok (.invokevirtual 118, 3) := by decide +kernel
theorem dX6_need_22 : decode cX6_need 22 = .ok (.iconst 0, 1) := by decide +kernel
theorem dX6_need_23 : decode cX6_need 23 = .ok (.istore_n 2, 1) := by decide +kernel
theorem dX6_need_24 : decode cX6_need 24 = .ok (.iconst 0, 1) := by decide +kernel
theorem dX6_need_25 : decode cX6_need 25 = .ok (.istore_n 3, 1) := by decide +kernel
theorem dX6_need_26 : decode cX6_need 26 = .ok (.iload_n 3, 1) := by decide +kernel
theorem dX6_need_27 : decode cX6_need 27 = .ok (.aload_n 0, 1) := by decide +kernel
theorem dX6_need_28 : decode cX6_need 28 = .ok (.getfield 25, 3) := by decide +kernel
theorem dX6_need_31 : decode cX6_need 31 = .ok (.getfield 125, 3) := by decide +kernel
theorem dX6_need_34 : decode cX6_need 34 = .ok (.if_icmp .ge 36, 3) := by decide +kernel
theorem dX6_need_37 : decode cX6_need 37 = .ok (.aload_n 0, 1) := by decide +kernel
theorem dX6_need_38 : decode cX6_need 38 = .ok (.getfield 29, 3) := by decide +kernel
theorem dX6_need_41 : decode cX6_need 41 = .ok (.getfield 144, 3) := by decide +kernel
theorem dX6_need_44 : decode cX6_need 44 = .ok (.iload_n 1, 1) := by decide +kernel
theorem dX6_need_45 : decode cX6_need 45 = .ok (.iload_n 3, 1) := by decide +kernel
theorem dX6_need_46 : decode cX6_need 46 = .ok (.iastore, 1) := by decide +kernel
theorem dX6_need_47 : decode cX6_need 47 = .ok (.aload_n 0, 1) := by decide +kernel
theorem dX6_need_48 : decode cX6_need 48 = .ok (.getfield 29, 3) := by decide +kernel
theorem dX6_need_51 : decode cX6_need 51 = .ok (.iload_n 1, 1) := by decide +kernel
theorem dX6_need_52 : decode cX6_need 52 = .ok (.invokevirtual 196, 3) := by decide +kernel
theorem dX6_need_55 : decode cX6_need 55 = .ok (.ifCond .eq 9, 3) := by decide +kernel
theorem dX6_need_58 : decode cX6_need 58 = .ok (.iload_n 2, 1) := by decide +kernel
theorem dX6_need_59 : decode cX6_need 59 = .ok (.iconst 1, 1) := by decide +kernel
theorem dX6_need_60 : decode cX6_need 60 = .ok (.iload_n 3, 1) := by decide +kernel
theorem dX6_need_61 : decode cX6_need 61 = .ok (.ishl, 1) := by decide +kernel
theorem dX6_need_62 : decode cX6_need 62 = .ok (.ior, 1) := by decide +kernel
theorem dX6_need_63 : decode cX6_need 63 = .ok (.istore_n 2, 1) := by decide +kernel
theorem dX6_need_64 : decode cX6_need 64 = .ok (.iinc 3 1, 3) := by decide +kernel
theorem dX6_need_67 : decode cX6_need 67 = .ok (.goto (-41), 3) := by decide +kernel
theorem dX6_need_70 : decode cX6_need 70 = .ok (.iload_n 2, 1) := by decide +kernel
theorem dX6_need_71 : decode cX6_need 71 = .ok (.ireturn, 1) := by decide +kernel
theorem dX6_sets_0 : decode cX6_sets 0 = .ok (.aload_n 0, 1) := by decide +kernel
theorem dX6_sets_1 : decode cX6_sets 1 = .ok (.invokevirtual 154, 3) := by decide +kernel
theorem dX6_sets_4 : decode cX6_sets 4 = .ok (.ifCond .eq 6, 3) := by decide +kernel
theorem dX6_sets_7 : decode cX6_sets 7 = .ok (.ldc 134, 2) := by decide +kernel
theorem dX6_sets_9 : decode cX6_sets 9 = .ok (.ireturn, 1) := by decide +kernel
theorem dX6_sets_10 : decode cX6_sets 10 = .ok (.iload_n 1, 1) := by decide +kernel
theorem dX6_sets_11 : decode cX6_sets 11 = .ok (.ifCond .lt 19, 3) := by decide +kernel
theorem dX6_sets_14 : decode cX6_sets 14 = .ok (.iload_n 1, 1) := by decide +kernel
theorem dX6_sets_15 : decode cX6_sets 15 = .ok (.sipush 792, 3) := by decide +kernel
theorem dX6_sets_18 : decode cX6_sets 18 = .ok (.if_icmp .gt 12, 3) := by decide +kernel
theorem dX6_sets_21 : decode cX6_sets 21 = .ok (.iload_n 2, 1) := by decide +kernel
theorem dX6_sets_22 : decode cX6_sets 22 = .ok (.ifCond .lt 8, 3) := by decide +kernel
theorem dX6_sets_25 : decode cX6_sets 25 = .ok (.iload_n 2, 1) := by decide +kernel
theorem dX6_sets_26 : decode cX6_sets 26 = .ok (.iconst 2, 1) := by decide +kernel
theorem dX6_sets_27 : decode cX6_sets 27 = .ok (.if_icmp .le 6, 3) := by decide +kernel
theorem dX6_sets_30 : decode cX6_sets 30 = .ok (.ldc 62, 2) := by decide +kernel
theorem dX6_sets_32 : decode cX6_sets 32 = .ok (.ireturn, 1) := by decide +kernel
theorem dX6_sets_33 : decode cX6_sets 33 = .ok (.iconst 0, 1) := by decide +kernel
theorem dX6_sets_34 : decode cX6_sets 34 = .ok (.istore_n 3, 1) := by decide +kernel
theorem dX6_sets_35 : decode cX6_sets 35 = .ok (.iconst (-1), 1) := by decide +kernel
theorem dX6_sets_36 : decode cX6_sets 36 = .ok (.istore 4, 2) := by decide +kernel
theorem dX6_sets_38 : decode cX6_sets 38 = .ok (.iconst 0, 1) := by decide +kernel
theorem dX6_sets_39 : decode cX6_sets 39 = .ok (.istore 5, 2) := by decide +kernel
theorem dX6_sets_41 : decode cX6_sets 41 = .ok (.iconst 0, 1) := by decide +kernel
theorem dX6_sets_42 : decode cX6_sets 42 = .ok (.istore 6, 2) := by decide +kernel
theorem dX6_sets_44 : decode cX6_sets 44 = .ok (.iload 6, 2) := by decide +kernel
theorem dX6_sets_46 : decode cX6_sets 46 = .ok (.iconst 1, 1) := by decide +kernel
theorem dX6_sets_47 : decode cX6_sets 47 = .ok (.aload_n 0, 1) := by decide +kernel
theorem dX6_sets_48 : decode cX6_sets 48 = .ok (.getfield 25, 3) := by decide +kernel
theorem dX6_sets_51 : decode cX6_sets 51 = .ok (.getfield 211, 3) := by decide +kernel
theorem dX6_sets_54 : decode cX6_sets 54 = .ok (.ishl, 1) := by decide +kernel
theorem dX6_sets_55 : decode cX6_sets 55 = .ok (.if_icmp .ge 39, 3) := by decide +kernel
theorem dX6_sets_58 : decode cX6_sets 58 = .ok (.aload_n 0, 1) := by decide +kernel
theorem dX6_sets_59 : decode cX6_sets 59 = .ok (.getfield 25, 3) := by decide +kernel
theorem dX6_sets_62 : decode cX6_sets 62 = .ok (.iload 6, 2) := by decide +kernel
theorem dX6_sets_64 : decode cX6_sets 64 = .ok (.invokevirtual 226, 3) := by decide +kernel
theorem dX6_sets_67 : decode cX6_sets 67 = .ok (.iload_n 1, 1) := by decide +kernel
theorem dX6_sets_68 : decode cX6_sets 68 = .ok (.if_icmp .ne 20, 3) := by decide +kernel
theorem dX6_sets_71 : decode cX6_sets 71 = .ok (.iinc 3 1, 3) := by decide +kernel
theorem dX6_sets_74 : decode cX6_sets 74 = .ok (.iload 4, 2) := by decide +kernel
theorem dX6_sets_76 : decode cX6_sets 76 = .ok (.iload 6, 2) := by decide +kernel
theorem dX6_sets_78 : decode cX6_sets 78 = .ok (.iand, 1) := by decide +kernel
theorem dX6_sets_79 : decode cX6_sets 79 = .ok (.istore 4, 2) := by decide +kernel
theorem dX6_sets_81 : decode cX6_sets 81 = .ok (.iload 5, 2) := by decide +kernel
theorem dX6_sets_83 : decode cX6_sets 83 = .ok (.iload 6, 2) := by decide +kernel
theorem dX6_sets_85 : decode cX6_sets 85 = .ok (.ior, 1) := by decide +kernel
theorem dX6_sets_86 : decode cX6_sets 86 = .ok (.istore 5, 2) := by decide +kernel
theorem dX6_sets_88 : decode cX6_sets 88 = .ok (.iinc 6 1, 3) := by decide +kernel
theorem dX6_sets_91 : decode cX6_sets 91 = .ok (.goto (-47), 3) := by decide +kernel
theorem dX6_sets_94 : decode cX6_sets 94 = .ok (.iload_n 2, 1) := by decide +kernel
theorem dX6_sets_95 : decode cX6_sets 95 = .ok (.lookupswitch 38 #[(0, 25), (1, 27)], 25) := by decide +kernel
theorem dX6_sets_120 : decode cX6_sets 120 = .ok (.iload_n 3, 1) := by decide +kernel
theorem dX6_sets_121 : decode cX6_sets 121 = .ok (.ireturn, 1) := by decide +kernel
theorem dX6_sets_122 : decode cX6_sets 122 = .ok (.iload_n 3, 1) := by decide +kernel
theorem dX6_sets_123 : decode cX6_sets 123 = .ok (.ifCond .ne 7, 3) := by decide +kernel
theorem dX6_sets_126 : decode cX6_sets 126 = .ok (.iconst 0, 1) := by decide +kernel
theorem dX6_sets_127 : decode cX6_sets 127 = .ok (.goto 5, 3) := by decide +kernel
theorem dX6_sets_130 : decode cX6_sets 130 = .ok (.iload 4, 2) := by decide +kernel
theorem dX6_sets_132 : decode cX6_sets 132 = .ok (.ireturn, 1) := by decide +kernel
theorem dX6_sets_133 : decode cX6_sets 133 = .ok (.iload 5, 2) := by decide +kernel
theorem dX6_sets_135 : decode cX6_sets 135 = .ok (.ireturn, 1) := by decide +kernel
theorem dX6_share_0 : decode cX6_share 0 = .ok (.aload_n 0, 1) := by decide +kernel
theorem dX6_share_1 : decode cX6_share 1 = .ok (.iload_n 1, 1) := by decide +kernel
theorem dX6_share_2 : decode cX6_share 2 = .ok (.invokevirtual 138, 3) := by decide +kernel
theorem dX6_share_5 : decode cX6_share 5 = .ok (.ifCond .eq 14, 3) := by decide +kernel
theorem dX6_share_8 : decode cX6_share 8 = .ok (.iload_n 2, 1) := by decide +kernel
theorem dX6_share_9 : decode cX6_share 9 = .ok (.ifCond .lt 10, 3) := by decide +kernel
theorem dX6_share_12 : decode cX6_share 12 = .ok (.iload_n 2, 1) := by decide +kernel
theorem dX6_share_13 : decode cX6_share 13 = .ok (.sipush 999, 3) := by decide +kernel
theorem dX6_share_16 : decode cX6_share 16 = .ok (.if_icmp .le 6, 3) := by decide +kernel
theorem dX6_share_19 : decode cX6_share 19 = .ok (.ldc 62, 2) := by decide +kernel
theorem dX6_share_21 : decode cX6_share 21 = .ok (.ireturn, 1) := by decide +kernel
theorem dX6_share_22 : decode cX6_share 22 = .ok (.aload_n 0, 1) := by decide +kernel
theorem dX6_share_23 : decode cX6_share 23 = .ok (.getfield 25, 3) := by decide +kernel
theorem dX6_share_26 : decode cX6_share 26 = .ok (.iconst 3, 1) := by decide +kernel
theorem dX6_share_27 : decode cX6_share 27 = .ok (.invokevirtual 214, 3) := by decide +kernel
theorem dX6_share_30 : decode cX6_share 30 = .ok (.istore_n 3, 1) := by decide +kernel
theorem dX6_share_31 : decode cX6_share 31 = .ok (.iload_n 3, 1) := by decide +kernel
theorem dX6_share_32 : decode cX6_share 32 = .ok (.ifCond .eq 16, 3) := by decide +kernel
theorem dX6_share_35 : decode cX6_share 35 = .ok (.aload_n 0, 1) := by decide +kernel
theorem dX6_share_36 : decode cX6_share 36 = .ok (.getfield 25, 3) := by decide +kernel
theorem dX6_share_39 : decode cX6_share 39 = .ok (.getfield 144, 3) := by decide +kernel
theorem dX6_share_42 : decode cX6_share 42 = .ok (.iload_n 1, 1) := by decide +kernel
theorem dX6_share_43 : decode cX6_share 43 = .ok (.iaload, 1) := by decide +kernel
theorem dX6_share_44 : decode cX6_share 44 = .ok (.iconst (-1), 1) := by decide +kernel
theorem dX6_share_45 : decode cX6_share 45 = .ok (.if_icmp .ne 5, 3) := by decide +kernel
theorem dX6_share_48 : decode cX6_share 48 = .ok (.iconst 0, 1) := by decide +kernel
theorem dX6_share_49 : decode cX6_share 49 = .ok (.ireturn, 1) := by decide +kernel
theorem dX6_share_50 : decode cX6_share 50 = .ok (.iload_n 2, 1) := by decide +kernel
theorem dX6_share_51 : decode cX6_share 51 = .ok (.istore 4, 2) := by decide +kernel
theorem dX6_share_53 : decode cX6_share 53 = .ok (.iconst 0, 1) := by decide +kernel
theorem dX6_share_54 : decode cX6_share 54 = .ok (.istore 5, 2) := by decide +kernel
theorem dX6_share_56 : decode cX6_share 56 = .ok (.iconst 0, 1) := by decide +kernel
theorem dX6_share_57 : decode cX6_share 57 = .ok (.istore 6, 2) := by decide +kernel
theorem dX6_share_59 : decode cX6_share 59 = .ok (.iload 6, 2) := by decide +kernel
theorem dX6_share_61 : decode cX6_share 61 = .ok (.aload_n 0, 1) := by decide +kernel
theorem dX6_share_62 : decode cX6_share 62 = .ok (.getfield 25, 3) := by decide +kernel
theorem dX6_share_65 : decode cX6_share 65 = .ok (.getfield 211, 3) := by decide +kernel
theorem dX6_share_68 : decode cX6_share 68 = .ok (.if_icmp .ge 51, 3) := by decide +kernel
theorem dX6_share_71 : decode cX6_share 71 = .ok (.iload 4, 2) := by decide +kernel
theorem dX6_share_73 : decode cX6_share 73 = .ok (.iload_n 2, 1) := by decide +kernel
theorem dX6_share_74 : decode cX6_share 74 = .ok (.aload_n 0, 1) := by decide +kernel
theorem dX6_share_75 : decode cX6_share 75 = .ok (.getfield 25, 3) := by decide +kernel
theorem dX6_share_78 : decode cX6_share 78 = .ok (.iload 6, 2) := by decide +kernel
theorem dX6_share_80 : decode cX6_share 80 = .ok (.iconst 3, 1) := by decide +kernel
theorem dX6_share_81 : decode cX6_share 81 = .ok (.invokevirtual 229, 3) := by decide +kernel
theorem dX6_share_84 : decode cX6_share 84 = .ok (.imul, 1) := by decide +kernel
theorem dX6_share_85 : decode cX6_share 85 = .ok (.iload_n 3, 1) := by decide +kernel
theorem dX6_share_86 : decode cX6_share 86 = .ok (.idiv, 1) := by decide +kernel
theorem dX6_share_87 : decode cX6_share 87 = .ok (.isub, 1) := by decide +kernel
theorem dX6_share_88 : decode cX6_share 88 = .ok (.istore 4, 2) := by decide +kernel
theorem dX6_share_90 : decode cX6_share 90 = .ok (.iload 6, 2) := by decide +kernel
theorem dX6_share_92 : decode cX6_share 92 = .ok (.iload_n 1, 1) := by decide +kernel
theorem dX6_share_93 : decode cX6_share 93 = .ok (.if_icmp .ge 20, 3) := by decide +kernel
theorem dX6_share_96 : decode cX6_share 96 = .ok (.aload_n 0, 1) := by decide +kernel
theorem dX6_share_97 : decode cX6_share 97 = .ok (.getfield 25, 3) := by decide +kernel
theorem dX6_share_100 : decode cX6_share 100 = .ok (.getfield 144, 3) := by decide +kernel
theorem dX6_share_103 : decode cX6_share 103 = .ok (.iload 6, 2) := by decide +kernel
theorem dX6_share_105 : decode cX6_share 105 = .ok (.iaload, 1) := by decide +kernel
theorem dX6_share_106 : decode cX6_share 106 = .ok (.iconst (-1), 1) := by decide +kernel
theorem dX6_share_107 : decode cX6_share 107 = .ok (.if_icmp .eq 6, 3) := by decide +kernel
theorem dX6_share_110 : decode cX6_share 110 = .ok (.iinc 5 1, 3) := by decide +kernel
theorem dX6_share_113 : decode cX6_share 113 = .ok (.iinc 6 1, 3) := by decide +kernel
theorem dX6_share_116 : decode cX6_share 116 = .ok (.goto (-57), 3) := by decide +kernel
theorem dX6_share_119 : decode cX6_share 119 = .ok (.iload_n 2, 1) := by decide +kernel
theorem dX6_share_120 : decode cX6_share 120 = .ok (.aload_n 0, 1) := by decide +kernel
theorem dX6_share_121 : decode cX6_share 121 = .ok (.getfield 25, 3) := by decide +kernel
theorem dX6_share_124 : decode cX6_share 124 = .ok (.iload_n 1, 1) := by decide +kernel
theorem dX6_share_125 : decode cX6_share 125 = .ok (.iconst 3, 1) := by decide +kernel
theorem dX6_share_126 : decode cX6_share 126 = .ok (.invokevirtual 229, 3) := by decide +kernel
theorem dX6_share_129 : decode cX6_share 129 = .ok (.imul, 1) := by decide +kernel
theorem dX6_share_130 : decode cX6_share 130 = .ok (.iload_n 3, 1) := by decide +kernel
theorem dX6_share_131 : decode cX6_share 131 = .ok (.idiv, 1) := by decide +kernel
theorem dX6_share_132 : decode cX6_share 132 = .ok (.iload 5, 2) := by decide +kernel
theorem dX6_share_134 : decode cX6_share 134 = .ok (.iload 4, 2) := by decide +kernel
theorem dX6_share_136 : decode cX6_share 136 = .ok (.if_icmp .ge 7, 3) := by decide +kernel
theorem dX6_share_139 : decode cX6_share 139 = .ok (.iconst 1, 1) := by decide +kernel
theorem dX6_share_140 : decode cX6_share 140 = .ok (.goto 4, 3) := by decide +kernel
theorem dX6_share_143 : decode cX6_share 143 = .ok (.iconst 0, 1) := by decide +kernel
theorem dX6_share_144 : decode cX6_share 144 = .ok (.iadd, 1) := by decide +kernel
theorem dX6_share_145 : decode cX6_share 145 = .ok (.ireturn, 1) := by decide +kernel
theorem dX6_byTurns_0 : decode cX6_byTurns 0 = .ok (.aload_n 0, 1) := by decide +kernel
theorem dX6_byTurns_1 : decode cX6_byTurns 1 = .ok (.invokevirtual 154, 3) := by decide +kernel
theorem dX6_byTurns_4 : decode cX6_byTurns 4 = .ok (.ifCond .eq 6, 3) := by decide +kernel
theorem dX6_byTurns_7 : decode cX6_byTurns 7 = .ok (.ldc 134, 2) := by decide +kernel
theorem dX6_byTurns_9 : decode cX6_byTurns 9 = .ok (.ireturn, 1) := by decide +kernel
theorem dX6_byTurns_10 : decode cX6_byTurns 10 = .ok (.iload_n 1, 1) := by decide +kernel
theorem dX6_byTurns_11 : decode cX6_byTurns 11 = .ok (.ifCond .lt 19, 3) := by decide +kernel
theorem dX6_byTurns_14 : decode cX6_byTurns 14 = .ok (.iload_n 1, 1) := by decide +kernel
theorem dX6_byTurns_15 : decode cX6_byTurns 15 = .ok (.iconst 4, 1) := by decide +kernel
theorem dX6_byTurns_16 : decode cX6_byTurns 16 = .ok (.if_icmp .gt 14, 3) := by decide +kernel
theorem dX6_byTurns_19 : decode cX6_byTurns 19 = .ok (.iload_n 1, 1) := by decide +kernel
theorem dX6_byTurns_20 : decode cX6_byTurns 20 = .ok (.aload_n 0, 1) := by decide +kernel
theorem dX6_byTurns_21 : decode cX6_byTurns 21 = .ok (.getfield 25, 3) := by decide +kernel
theorem dX6_byTurns_24 : decode cX6_byTurns 24 = .ok (.getfield 211, 3) := by decide +kernel
theorem dX6_byTurns_27 : decode cX6_byTurns 27 = .ok (.if_icmp .le 6, 3) := by decide +kernel
theorem dX6_byTurns_30 : decode cX6_byTurns 30 = .ok (.ldc 62, 2) := by decide +kernel
theorem dX6_byTurns_32 : decode cX6_byTurns 32 = .ok (.ireturn, 1) := by decide +kernel
theorem dX6_byTurns_33 : decode cX6_byTurns 33 = .ok (.aload_n 0, 1) := by decide +kernel
theorem dX6_byTurns_34 : decode cX6_byTurns 34 = .ok (.getfield 25, 3) := by decide +kernel
theorem dX6_byTurns_37 : decode cX6_byTurns 37 = .ok (.iload_n 1, 1) := by decide +kernel
theorem dX6_byTurns_38 : decode cX6_byTurns 38 = .ok (.aload_n 0, 1) := by decide +kernel
theorem dX6_byTurns_39 : decode cX6_byTurns 39 = .ok (.getfield 25, 3) := by decide +kernel
theorem dX6_byTurns_42 : decode cX6_byTurns 42 = .ok (.getfield 211, 3) := by decide +kernel
theorem dX6_byTurns_45 : decode cX6_byTurns 45 = .ok (.iconst 1, 1) := by decide +kernel
theorem dX6_byTurns_46 : decode cX6_byTurns 46 = .ok (.isub, 1) := by decide +kernel
theorem dX6_byTurns_47 : decode cX6_byTurns 47 = .ok (.iconst 0, 1) := by decide +kernel
theorem dX6_byTurns_48 : decode cX6_byTurns 48 = .ok (.iconst 1, 1) := by decide +kernel
theorem dX6_byTurns_49 : decode cX6_byTurns 49 = .ok (.invokestatic 232, 3) := by decide +kernel
theorem dX6_byTurns_52 : decode cX6_byTurns 52 = .ok (.ireturn, 1) := by decide +kernel
theorem dX6_who_0 : decode cX6_who 0 = .ok (.aload_n 0, 1) := by decide +kernel
theorem dX6_who_1 : decode cX6_who 1 = .ok (.iload_n 1, 1) := by decide +kernel
theorem dX6_who_2 : decode cX6_who 2 = .ok (.invokevirtual 141, 3) := by decide +kernel
theorem dX6_who_5 : decode cX6_who 5 = .ok (.ifCond .eq 19, 3) := by decide +kernel
theorem dX6_who_8 : decode cX6_who 8 = .ok (.iload_n 2, 1) := by decide +kernel
theorem dX6_who_9 : decode cX6_who 9 = .ok (.ifCond .lt 15, 3) := by decide +kernel
theorem dX6_who_12 : decode cX6_who 12 = .ok (.iload_n 2, 1) := by decide +kernel
theorem dX6_who_13 : decode cX6_who 13 = .ok (.iconst 1, 1) := by decide +kernel
theorem dX6_who_14 : decode cX6_who 14 = .ok (.if_icmp .gt 10, 3) := by decide +kernel
theorem dX6_who_17 : decode cX6_who 17 = .ok (.iload_n 3, 1) := by decide +kernel
theorem dX6_who_18 : decode cX6_who 18 = .ok (.invokestatic 58, 3) := by decide +kernel
theorem dX6_who_21 : decode cX6_who 21 = .ok (.ifCond .ne 6, 3) := by decide +kernel
theorem dX6_who_24 : decode cX6_who 24 = .ok (.ldc 62, 2) := by decide +kernel
theorem dX6_who_26 : decode cX6_who 26 = .ok (.ireturn, 1) := by decide +kernel
theorem dX6_who_27 : decode cX6_who 27 = .ok (.aload_n 0, 1) := by decide +kernel
theorem dX6_who_28 : decode cX6_who 28 = .ok (.getfield 11, 3) := by decide +kernel
theorem dX6_who_31 : decode cX6_who 31 = .ok (.iload_n 3, 1) := by decide +kernel
theorem dX6_who_32 : decode cX6_who 32 = .ok (.aaload, 1) := by decide +kernel
theorem dX6_who_33 : decode cX6_who 33 = .ok (.astore 5, 2) := by decide +kernel
theorem dX6_who_35 : decode cX6_who 35 = .ok (.aload 5, 2) := by decide +kernel
theorem dX6_who_37 : decode cX6_who 37 = .ok (.invokevirtual 74, 3) := by decide +kernel
theorem dX6_who_40 : decode cX6_who 40 = .ok (.ifCond .eq 9, 3) := by decide +kernel
theorem dX6_who_43 : decode cX6_who 43 = .ok (.aload_n 0, 1) := by decide +kernel
theorem dX6_who_44 : decode cX6_who 44 = .ok (.iconst 1, 1) := by decide +kernel
theorem dX6_who_45 : decode cX6_who 45 = .ok (.invokevirtual 63, 3) := by decide +kernel
theorem dX6_who_48 : decode cX6_who 48 = .ok (.ireturn, 1) := by decide +kernel
theorem dX6_who_49 : decode cX6_who 49 = .ok (.aload 5, 2) := by decide +kernel
theorem dX6_who_51 : decode cX6_who 51 = .ok (.iload 4, 2) := by decide +kernel
theorem dX6_who_53 : decode cX6_who 53 = .ok (.aload_n 0, 1) := by decide +kernel
theorem dX6_who_54 : decode cX6_who 54 = .ok (.getfield 25, 3) := by decide +kernel
theorem dX6_who_57 : decode cX6_who 57 = .ok (.getfield 211, 3) := by decide +kernel
theorem dX6_who_60 : decode cX6_who 60 = .ok (.invokevirtual 78, 3) := by decide +kernel
theorem dX6_who_63 : decode cX6_who 63 = .ok (.ifCond .ne 9, 3) := by decide +kernel
theorem dX6_who_66 : decode cX6_who 66 = .ok (.aload_n 0, 1) := by decide +kernel
theorem dX6_who_67 : decode cX6_who 67 = .ok (.iconst 2, 1) := by decide +kernel
theorem dX6_who_68 : decode cX6_who 68 = .ok (.invokevirtual 63, 3) := by decide +kernel
theorem dX6_who_71 : decode cX6_who 71 = .ok (.ireturn, 1) := by decide +kernel
theorem dX6_who_72 : decode cX6_who 72 = .ok (.aload_n 0, 1) := by decide +kernel
theorem dX6_who_73 : decode cX6_who 73 = .ok (.getfield 29, 3) := by decide +kernel
theorem dX6_who_76 : decode cX6_who 76 = .ok (.aload_n 0, 1) := by decide +kernel
theorem dX6_who_77 : decode cX6_who 77 = .ok (.getfield 25, 3) := by decide +kernel
theorem dX6_who_80 : decode cX6_who 80 = .ok (.invokevirtual 118, 3) := by decide +kernel
theorem dX6_who_83 : decode cX6_who 83 = .ok (.iconst 0, 1) := by decide +kernel
theorem dX6_who_84 : decode cX6_who 84 = .ok (.istore 6, 2) := by decide +kernel
theorem dX6_who_86 : decode cX6_who 86 = .ok (.iconst 1, 1) := by decide +kernel
theorem dX6_who_87 : decode cX6_who 87 = .ok (.istore 7, 2) := by decide +kernel
theorem dX6_who_89 : decode cX6_who 89 = .ok (.iload 7, 2) := by decide +kernel
theorem dX6_who_91 : decode cX6_who 91 = .ok (.iload_n 2, 1) := by decide +kernel
theorem dX6_who_92 : decode cX6_who 92 = .ok (.ifCond .ne 7, 3) := by decide +kernel
theorem dX6_who_95 : decode cX6_who 95 = .ok (.iconst 5, 1) := by decide +kernel
theorem dX6_who_96 : decode cX6_who 96 = .ok (.goto 8, 3) := by decide +kernel
theorem dX6_who_99 : decode cX6_who 99 = .ok (.getstatic 171, 3) := by decide +kernel
theorem dX6_who_102 : decode cX6_who 102 = .ok (.iconst 3, 1) := by decide +kernel
theorem dX6_who_103 : decode cX6_who 103 = .ok (.iaload, 1) := by decide +kernel
theorem dX6_who_104 : decode cX6_who 104 = .ok (.if_icmp .gt 62, 3) := by decide +kernel
theorem dX6_who_107 : decode cX6_who 107 = .ok (.iload_n 2, 1) := by decide +kernel
theorem dX6_who_108 : decode cX6_who 108 = .ok (.ifCond .ne 17, 3) := by decide +kernel
theorem dX6_who_111 : decode cX6_who 111 = .ok (.aload_n 0, 1) := by decide +kernel
theorem dX6_who_112 : decode cX6_who 112 = .ok (.getfield 29, 3) := by decide +kernel
theorem dX6_who_115 : decode cX6_who 115 = .ok (.getfield 236, 3) := by decide +kernel
theorem dX6_who_118 : decode cX6_who 118 = .ok (.iload_n 1, 1) := by decide +kernel
theorem dX6_who_119 : decode cX6_who 119 = .ok (.iload 7, 2) := by decide +kernel
theorem dX6_who_121 : decode cX6_who 121 = .ok (.iastore, 1) := by decide +kernel
theorem dX6_who_122 : decode cX6_who 122 = .ok (.goto 14, 3) := by decide +kernel
theorem dX6_who_125 : decode cX6_who 125 = .ok (.aload_n 0, 1) := by decide +kernel
theorem dX6_who_126 : decode cX6_who 126 = .ok (.getfield 29, 3) := by decide +kernel
theorem dX6_who_129 : decode cX6_who 129 = .ok (.getfield 174, 3) := by decide +kernel
theorem dX6_who_132 : decode cX6_who 132 = .ok (.iconst 3, 1) := by decide +kernel
theorem dX6_who_133 : decode cX6_who 133 = .ok (.iload 7, 2) := by decide +kernel
theorem dX6_who_135 : decode cX6_who 135 = .ok (.iastore, 1) := by decide +kernel
theorem dX6_who_136 : decode cX6_who 136 = .ok (.aload_n 0, 1) := by decide +kernel
theorem dX6_who_137 : decode cX6_who 137 = .ok (.aload_n 0, 1) := by decide +kernel
theorem dX6_who_138 : decode cX6_who 138 = .ok (.getfield 29, 3) := by decide +kernel
theorem dX6_who_141 : decode cX6_who 141 = .ok (.aload 5, 2) := by decide +kernel
theorem dX6_who_143 : decode cX6_who 143 = .ok (.iload 4, 2) := by decide +kernel
theorem dX6_who_145 : decode cX6_who 145 = .ok (.invokevirtual 239, 3) := by decide +kernel
theorem dX6_who_148 : decode cX6_who 148 = .ok (.ifCond .eq 12, 3) := by decide +kernel
theorem dX6_who_151 : decode cX6_who 151 = .ok (.iload 6, 2) := by decide +kernel
theorem dX6_who_153 : decode cX6_who 153 = .ok (.iconst 1, 1) := by decide +kernel
theorem dX6_who_154 : decode cX6_who 154 = .ok (.iload 7, 2) := by decide +kernel
theorem dX6_who_156 : decode cX6_who 156 = .ok (.ishl, 1) := by decide +kernel
theorem dX6_who_157 : decode cX6_who 157 = .ok (.ior, 1) := by decide +kernel
theorem dX6_who_158 : decode cX6_who 158 = .ok (.istore 6, 2) := by decide +kernel
theorem dX6_who_160 : decode cX6_who 160 = .ok (.iinc 7 1, 3) := by decide +kernel
theorem dX6_who_163 : decode cX6_who 163 = .ok (.goto (-74), 3) := by decide +kernel
theorem dX6_who_166 : decode cX6_who 166 = .ok (.aload_n 0, 1) := by decide +kernel
theorem dX6_who_167 : decode cX6_who 167 = .ok (.iload 6, 2) := by decide +kernel
theorem dX6_who_169 : decode cX6_who 169 = .ok (.invokevirtual 71, 3) := by decide +kernel
theorem dX6_who_172 : decode cX6_who 172 = .ok (.ireturn, 1) := by decide +kernel
theorem dX6_flaws_0 : decode cX6_flaws 0 = .ok (.aload_n 0, 1) := by decide +kernel
theorem dX6_flaws_1 : decode cX6_flaws 1 = .ok (.invokevirtual 154, 3) := by decide +kernel
theorem dX6_flaws_4 : decode cX6_flaws 4 = .ok (.ifCond .eq 7, 3) := by decide +kernel
theorem dX6_flaws_7 : decode cX6_flaws 7 = .ok (.ldc2_w 243, 3) := by decide +kernel
theorem dX6_flaws_10 : decode cX6_flaws 10 = .ok (.lreturn, 1) := by decide +kernel
theorem dX6_flaws_11 : decode cX6_flaws 11 = .ok (.iload_n 1, 1) := by decide +kernel
theorem dX6_flaws_12 : decode cX6_flaws 12 = .ok (.ifCond .lt 18, 3) := by decide +kernel
theorem dX6_flaws_15 : decode cX6_flaws 15 = .ok (.iload_n 1, 1) := by decide +kernel
theorem dX6_flaws_16 : decode cX6_flaws 16 = .ok (.bipush 10, 2) := by decide +kernel
theorem dX6_flaws_18 : decode cX6_flaws 18 = .ok (.if_icmp .gt 12, 3) := by decide +kernel
theorem dX6_flaws_21 : decode cX6_flaws 21 = .ok (.iload_n 2, 1) := by decide +kernel
theorem dX6_flaws_22 : decode cX6_flaws 22 = .ok (.ifCond .lt 8, 3) := by decide +kernel
theorem dX6_flaws_25 : decode cX6_flaws 25 = .ok (.iload_n 2, 1) := by decide +kernel
theorem dX6_flaws_26 : decode cX6_flaws 26 = .ok (.iconst 1, 1) := by decide +kernel
theorem dX6_flaws_27 : decode cX6_flaws 27 = .ok (.if_icmp .le 7, 3) := by decide +kernel
theorem dX6_flaws_30 : decode cX6_flaws 30 = .ok (.ldc2_w 245, 3) := by decide +kernel
theorem dX6_flaws_33 : decode cX6_flaws 33 = .ok (.lreturn, 1) := by decide +kernel
theorem dX6_flaws_34 : decode cX6_flaws 34 = .ok (.aload_n 0, 1) := by decide +kernel
theorem dX6_flaws_35 : decode cX6_flaws 35 = .ok (.getfield 25, 3) := by decide +kernel
theorem dX6_flaws_38 : decode cX6_flaws 38 = .ok (.invokevirtual 217, 3) := by decide +kernel
theorem dX6_flaws_41 : decode cX6_flaws 41 = .ok (.ldc 157, 2) := by decide +kernel
theorem dX6_flaws_43 : decode cX6_flaws 43 = .ok (.if_icmp .ne 7, 3) := by decide +kernel
theorem dX6_flaws_46 : decode cX6_flaws 46 = .ok (.lconst 1, 1) := by decide +kernel
theorem dX6_flaws_47 : decode cX6_flaws 47 = .ok (.goto 4, 3) := by decide +kernel
theorem dX6_flaws_50 : decode cX6_flaws 50 = .ok (.lconst 0, 1) := by decide +kernel
theorem dX6_flaws_51 : decode cX6_flaws 51 = .ok (.lstore_n 3, 1) := by decide +kernel
theorem dX6_flaws_52 : decode cX6_flaws 52 = .ok (.lconst 1, 1) := by decide +kernel
theorem dX6_flaws_53 : decode cX6_flaws 53 = .ok (.lstore 5, 2) := by decide +kernel
theorem dX6_flaws_55 : decode cX6_flaws 55 = .ok (.iconst 0, 1) := by decide +kernel
theorem dX6_flaws_56 : decode cX6_flaws 56 = .ok (.istore 7, 2) := by decide +kernel
theorem dX6_flaws_58 : decode cX6_flaws 58 = .ok (.iload 7, 2) := by decide +kernel
theorem dX6_flaws_60 : decode cX6_flaws 60 = .ok (.aload_n 0, 1) := by decide +kernel
theorem dX6_flaws_61 : decode cX6_flaws 61 = .ok (.getfield 25, 3) := by decide +kernel
theorem dX6_flaws_64 : decode cX6_flaws 64 = .ok (.getfield 211, 3) := by decide +kernel
theorem dX6_flaws_67 : decode cX6_flaws 67 = .ok (.if_icmp .ge 43, 3) := by decide +kernel
theorem dX6_flaws_70 : decode cX6_flaws 70 = .ok (.lload_n 3, 1) := by decide +kernel
theorem dX6_flaws_71 : decode cX6_flaws 71 = .ok (.lconst 0, 1) := by decide +kernel
theorem dX6_flaws_72 : decode cX6_flaws 72 = .ok (.lcmp, 1) := by decide +kernel
theorem dX6_flaws_73 : decode cX6_flaws 73 = .ok (.ifCond .eq 31, 3) := by decide +kernel
theorem dX6_flaws_76 : decode cX6_flaws 76 = .ok (.aload_n 0, 1) := by decide +kernel
theorem dX6_flaws_77 : decode cX6_flaws 77 = .ok (.getfield 25, 3) := by decide +kernel
theorem dX6_flaws_80 : decode cX6_flaws 80 = .ok (.iload 7, 2) := by decide +kernel
theorem dX6_flaws_82 : decode cX6_flaws 82 = .ok (.invokevirtual 247, 3) := by decide +kernel
theorem dX6_flaws_85 : decode cX6_flaws 85 = .ok (.ifCond .ne 19, 3) := by decide +kernel
theorem dX6_flaws_88 : decode cX6_flaws 88 = .ok (.lload_n 3, 1) := by decide +kernel
theorem dX6_flaws_89 : decode cX6_flaws 89 = .ok (.bipush 10, 2) := by decide +kernel
theorem dX6_flaws_91 : decode cX6_flaws 91 = .ok (.iload_n 1, 1) := by decide +kernel
theorem dX6_flaws_92 : decode cX6_flaws 92 = .ok (.isub, 1) := by decide +kernel
theorem dX6_flaws_93 : decode cX6_flaws 93 = .ok (.i2l, 1) := by decide +kernel
theorem dX6_flaws_94 : decode cX6_flaws 94 = .ok (.lmul, 1) := by decide +kernel
theorem dX6_flaws_95 : decode cX6_flaws 95 = .ok (.lstore_n 3, 1) := by decide +kernel
theorem dX6_flaws_96 : decode cX6_flaws 96 = .ok (.lload 5, 2) := by decide +kernel
theorem dX6_flaws_98 : decode cX6_flaws 98 = .ok (.ldc2_w 250, 3) := by decide +kernel
theorem dX6_flaws_101 : decode cX6_flaws 101 = .ok (.lmul, 1) := by decide +kernel
theorem dX6_flaws_102 : decode cX6_flaws 102 = .ok (.lstore 5, 2) := by decide +kernel
theorem dX6_flaws_104 : decode cX6_flaws 104 = .ok (.iinc 7 1, 3) := by decide +kernel
theorem dX6_flaws_107 : decode cX6_flaws 107 = .ok (.goto (-49), 3) := by decide +kernel
theorem dX6_flaws_110 : decode cX6_flaws 110 = .ok (.lconst 1, 1) := by decide +kernel
theorem dX6_flaws_111 : decode cX6_flaws 111 = .ok (.lload_n 3, 1) := by decide +kernel
theorem dX6_flaws_112 : decode cX6_flaws 112 = .ok (.lload 5, 2) := by decide +kernel
theorem dX6_flaws_114 : decode cX6_flaws 114 = .ok (.invokestatic 252, 3) := by decide +kernel
theorem dX6_flaws_117 : decode cX6_flaws 117 = .ok (.invokestatic 256, 3) := by decide +kernel
theorem dX6_flaws_120 : decode cX6_flaws 120 = .ok (.lstore 7, 2) := by decide +kernel
theorem dX6_flaws_122 : decode cX6_flaws 122 = .ok (.iload_n 2, 1) := by decide +kernel
theorem dX6_flaws_123 : decode cX6_flaws 123 = .ok (.ifCond .ne 7, 3) := by decide +kernel
theorem dX6_flaws_126 : decode cX6_flaws 126 = .ok (.lload_n 3, 1) := by decide +kernel
theorem dX6_flaws_127 : decode cX6_flaws 127 = .ok (.goto 5, 3) := by decide +kernel
theorem dX6_flaws_130 : decode cX6_flaws 130 = .ok (.lload 5, 2) := by decide +kernel
theorem dX6_flaws_132 : decode cX6_flaws 132 = .ok (.lload 7, 2) := by decide +kernel
theorem dX6_flaws_134 : decode cX6_flaws 134 = .ok (.ldiv, 1) := by decide +kernel
theorem dX6_flaws_135 : decode cX6_flaws 135 = .ok (.lreturn, 1) := by decide +kernel
theorem dX6_drawn_0 : decode cX6_drawn 0 = .ok (.aload_n 0, 1) := by decide +kernel
theorem dX6_drawn_1 : decode cX6_drawn 1 = .ok (.invokevirtual 154, 3) := by decide +kernel
theorem dX6_drawn_4 : decode cX6_drawn 4 = .ok (.ifCond .eq 6, 3) := by decide +kernel
theorem dX6_drawn_7 : decode cX6_drawn 7 = .ok (.ldc 134, 2) := by decide +kernel
theorem dX6_drawn_9 : decode cX6_drawn 9 = .ok (.ireturn, 1) := by decide +kernel
theorem dX6_drawn_10 : decode cX6_drawn 10 = .ok (.iload_n 1, 1) := by decide +kernel
theorem dX6_drawn_11 : decode cX6_drawn 11 = .ok (.ifCond .lt 30, 3) := by decide +kernel
theorem dX6_drawn_14 : decode cX6_drawn 14 = .ok (.iload_n 1, 1) := by decide +kernel
theorem dX6_drawn_15 : decode cX6_drawn 15 = .ok (.bipush 60, 2) := by decide +kernel
theorem dX6_drawn_17 : decode cX6_drawn 17 = .ok (.if_icmp .gt 24, 3) := by decide +kernel
theorem dX6_drawn_20 : decode cX6_drawn 20 = .ok (.iload_n 2, 1) := by decide +kernel
theorem dX6_drawn_21 : decode cX6_drawn 21 = .ok (.iconst 1, 1) := by decide +kernel
theorem dX6_drawn_22 : decode cX6_drawn 22 = .ok (.if_icmp .lt 19, 3) := by decide +kernel
theorem dX6_drawn_25 : decode cX6_drawn 25 = .ok (.iload_n 2, 1) := by decide +kernel
theorem dX6_drawn_26 : decode cX6_drawn 26 = .ok (.ldc_w 261, 3) := by decide +kernel
theorem dX6_drawn_29 : decode cX6_drawn 29 = .ok (.if_icmp .gt 12, 3) := by decide +kernel
theorem dX6_drawn_32 : decode cX6_drawn 32 = .ok (.iload_n 3, 1) := by decide +kernel
theorem dX6_drawn_33 : decode cX6_drawn 33 = .ok (.ifCond .lt 8, 3) := by decide +kernel
theorem dX6_drawn_36 : decode cX6_drawn 36 = .ok (.iload_n 3, 1) := by decide +kernel
theorem dX6_drawn_37 : decode cX6_drawn 37 = .ok (.iconst 1, 1) := by decide +kernel
theorem dX6_drawn_38 : decode cX6_drawn 38 = .ok (.if_icmp .le 6, 3) := by decide +kernel
theorem dX6_drawn_41 : decode cX6_drawn 41 = .ok (.ldc 62, 2) := by decide +kernel
theorem dX6_drawn_43 : decode cX6_drawn 43 = .ok (.ireturn, 1) := by decide +kernel
theorem dX6_drawn_44 : decode cX6_drawn 44 = .ok (.aload_n 0, 1) := by decide +kernel
theorem dX6_drawn_45 : decode cX6_drawn 45 = .ok (.getfield 29, 3) := by decide +kernel
theorem dX6_drawn_48 : decode cX6_drawn 48 = .ok (.aload_n 0, 1) := by decide +kernel
theorem dX6_drawn_49 : decode cX6_drawn 49 = .ok (.getfield 25, 3) := by decide +kernel
theorem dX6_drawn_52 : decode cX6_drawn 52 = .ok (.invokevirtual 118, 3) := by decide +kernel
theorem dX6_drawn_55 : decode cX6_drawn 55 = .ok (.iload_n 2, 1) := by decide +kernel
theorem dX6_drawn_56 : decode cX6_drawn 56 = .ok (.istore 4, 2) := by decide +kernel
theorem dX6_drawn_58 : decode cX6_drawn 58 = .ok (.iconst 0, 1) := by decide +kernel
theorem dX6_drawn_59 : decode cX6_drawn 59 = .ok (.istore 5, 2) := by decide +kernel
theorem dX6_drawn_61 : decode cX6_drawn 61 = .ok (.iconst 0, 1) := by decide +kernel
theorem dX6_drawn_62 : decode cX6_drawn 62 = .ok (.istore 6, 2) := by decide +kernel
theorem dX6_drawn_64 : decode cX6_drawn 64 = .ok (.iload 6, 2) := by decide +kernel
theorem dX6_drawn_66 : decode cX6_drawn 66 = .ok (.iload_n 1, 1) := by decide +kernel
theorem dX6_drawn_67 : decode cX6_drawn 67 = .ok (.if_icmp .ge 44, 3) := by decide +kernel
theorem dX6_drawn_70 : decode cX6_drawn 70 = .ok (.iload 4, 2) := by decide +kernel
theorem dX6_drawn_72 : decode cX6_drawn 72 = .ok (.i2l, 1) := by decide +kernel
theorem dX6_drawn_73 : decode cX6_drawn 73 = .ok (.ldc2_w 262, 3) := by decide +kernel
theorem dX6_drawn_76 : decode cX6_drawn 76 = .ok (.lmul, 1) := by decide +kernel
theorem dX6_drawn_77 : decode cX6_drawn 77 = .ok (.ldc2_w 264, 3) := by decide +kernel
theorem dX6_drawn_80 : decode cX6_drawn 80 = .ok (.lrem, 1) := by decide +kernel
theorem dX6_drawn_81 : decode cX6_drawn 81 = .ok (.l2i, 1) := by decide +kernel
theorem dX6_drawn_82 : decode cX6_drawn 82 = .ok (.istore 4, 2) := by decide +kernel
theorem dX6_drawn_84 : decode cX6_drawn 84 = .ok (.aload_n 0, 1) := by decide +kernel
theorem dX6_drawn_85 : decode cX6_drawn 85 = .ok (.getfield 29, 3) := by decide +kernel
theorem dX6_drawn_88 : decode cX6_drawn 88 = .ok (.iload 4, 2) := by decide +kernel
theorem dX6_drawn_90 : decode cX6_drawn 90 = .ok (.invokevirtual 266, 3) := by decide +kernel
theorem dX6_drawn_93 : decode cX6_drawn 93 = .ok (.iload 5, 2) := by decide +kernel
theorem dX6_drawn_95 : decode cX6_drawn 95 = .ok (.aload_n 0, 1) := by decide +kernel
theorem dX6_drawn_96 : decode cX6_drawn 96 = .ok (.getfield 29, 3) := by decide +kernel
theorem dX6_drawn_99 : decode cX6_drawn 99 = .ok (.invokevirtual 270, 3) := by decide +kernel
theorem dX6_drawn_102 : decode cX6_drawn 102 = .ok (.iadd, 1) := by decide +kernel
theorem dX6_drawn_103 : decode cX6_drawn 103 = .ok (.istore 5, 2) := by decide +kernel
theorem dX6_drawn_105 : decode cX6_drawn 105 = .ok (.iinc 6 1, 3) := by decide +kernel
theorem dX6_drawn_108 : decode cX6_drawn 108 = .ok (.goto (-44), 3) := by decide +kernel
theorem dX6_drawn_111 : decode cX6_drawn 111 = .ok (.iload_n 3, 1) := by decide +kernel
theorem dX6_drawn_112 : decode cX6_drawn 112 = .ok (.ifCond .ne 8, 3) := by decide +kernel
theorem dX6_drawn_115 : decode cX6_drawn 115 = .ok (.iload 5, 2) := by decide +kernel
theorem dX6_drawn_117 : decode cX6_drawn 117 = .ok (.goto 11, 3) := by decide +kernel
theorem dX6_drawn_120 : decode cX6_drawn 120 = .ok (.aload_n 0, 1) := by decide +kernel
theorem dX6_drawn_121 : decode cX6_drawn 121 = .ok (.getfield 29, 3) := by decide +kernel
theorem dX6_drawn_124 : decode cX6_drawn 124 = .ok (.iconst 4, 1) := by decide +kernel
theorem dX6_drawn_125 : decode cX6_drawn 125 = .ok (.invokevirtual 214, 3) := by decide +kernel
theorem dX6_drawn_128 : decode cX6_drawn 128 = .ok (.ireturn, 1) := by decide +kernel
theorem dX6_image_0 : decode cX6_image 0 = .ok (.iload_n 1, 1) := by decide +kernel
theorem dX6_image_1 : decode cX6_image 1 = .ok (.ifCond .lt 8, 3) := by decide +kernel
theorem dX6_image_4 : decode cX6_image 4 = .ok (.iload_n 1, 1) := by decide +kernel
theorem dX6_image_5 : decode cX6_image 5 = .ok (.iconst 2, 1) := by decide +kernel
theorem dX6_image_6 : decode cX6_image 6 = .ok (.if_icmp .lt 6, 3) := by decide +kernel
theorem dX6_image_9 : decode cX6_image 9 = .ok (.ldc 62, 2) := by decide +kernel
theorem dX6_image_11 : decode cX6_image 11 = .ok (.ireturn, 1) := by decide +kernel
theorem dX6_image_12 : decode cX6_image 12 = .ok (.aload_n 0, 1) := by decide +kernel
theorem dX6_image_13 : decode cX6_image 13 = .ok (.invokevirtual 154, 3) := by decide +kernel
theorem dX6_image_16 : decode cX6_image 16 = .ok (.ifCond .eq 6, 3) := by decide +kernel
theorem dX6_image_19 : decode cX6_image 19 = .ok (.ldc 134, 2) := by decide +kernel
theorem dX6_image_21 : decode cX6_image 21 = .ok (.ireturn, 1) := by decide +kernel
theorem dX6_image_22 : decode cX6_image 22 = .ok (.aload_n 0, 1) := by decide +kernel
theorem dX6_image_23 : decode cX6_image 23 = .ok (.getfield 32, 3) := by decide +kernel
theorem dX6_image_26 : decode cX6_image 26 = .ok (.iload_n 1, 1) := by decide +kernel
theorem dX6_image_27 : decode cX6_image 27 = .ok (.aaload, 1) := by decide +kernel
theorem dX6_image_28 : decode cX6_image 28 = .ok (.aload_n 0, 1) := by decide +kernel
theorem dX6_image_29 : decode cX6_image 29 = .ok (.getfield 25, 3) := by decide +kernel
theorem dX6_image_32 : decode cX6_image 32 = .ok (.invokevirtual 118, 3) := by decide +kernel
theorem dX6_image_35 : decode cX6_image 35 = .ok (.iconst 1, 1) := by decide +kernel
theorem dX6_image_36 : decode cX6_image 36 = .ok (.ireturn, 1) := by decide +kernel
theorem dX6_restore_0 : decode cX6_restore 0 = .ok (.iload_n 1, 1) := by decide +kernel
theorem dX6_restore_1 : decode cX6_restore 1 = .ok (.ifCond .lt 8, 3) := by decide +kernel
theorem dX6_restore_4 : decode cX6_restore 4 = .ok (.iload_n 1, 1) := by decide +kernel
theorem dX6_restore_5 : decode cX6_restore 5 = .ok (.iconst 2, 1) := by decide +kernel
theorem dX6_restore_6 : decode cX6_restore 6 = .ok (.if_icmp .lt 6, 3) := by decide +kernel
theorem dX6_restore_9 : decode cX6_restore 9 = .ok (.ldc 62, 2) := by decide +kernel
theorem dX6_restore_11 : decode cX6_restore 11 = .ok (.ireturn, 1) := by decide +kernel
theorem dX6_restore_12 : decode cX6_restore 12 = .ok (.aload_n 0, 1) := by decide +kernel
theorem dX6_restore_13 : decode cX6_restore 13 = .ok (.getfield 32, 3) := by decide +kernel
theorem dX6_restore_16 : decode cX6_restore 16 = .ok (.iload_n 1, 1) := by decide +kernel
theorem dX6_restore_17 : decode cX6_restore 17 = .ok (.aaload, 1) := by decide +kernel
theorem dX6_restore_18 : decode cX6_restore 18 = .ok (.getfield 211, 3) := by decide +kernel
theorem dX6_restore_21 : decode cX6_restore 21 = .ok (.ifCond .ne 6, 3) := by decide +kernel
theorem dX6_restore_24 : decode cX6_restore 24 = .ok (.ldc 134, 2) := by decide +kernel
theorem dX6_restore_26 : decode cX6_restore 26 = .ok (.ireturn, 1) := by decide +kernel
theorem dX6_restore_27 : decode cX6_restore 27 = .ok (.aload_n 0, 1) := by decide +kernel
theorem dX6_restore_28 : decode cX6_restore 28 = .ok (.getfield 25, 3) := by decide +kernel
theorem dX6_restore_31 : decode cX6_restore 31 = .ok (.aload_n 0, 1) := by decide +kernel
theorem dX6_restore_32 : decode cX6_restore 32 = .ok (.getfield 32, 3) := by decide +kernel
theorem dX6_restore_35 : decode cX6_restore 35 = .ok (.iload_n 1, 1) := by decide +kernel
theorem dX6_restore_36 : decode cX6_restore 36 = .ok (.aaload, 1) := by decide +kernel
theorem dX6_restore_37 : decode cX6_restore 37 = .ok (.invokevirtual 118, 3) := by decide +kernel
theorem dX6_restore_40 : decode cX6_restore 40 = .ok (.aload_n 0, 1) := by decide +kernel
theorem dX6_restore_41 : decode cX6_restore 41 = .ok (.getfield 46, 3) := by decide +kernel
theorem dX6_restore_44 : decode cX6_restore 44 = .ok (.invokevirtual 122, 3) := by decide +kernel
theorem dX6_restore_47 : decode cX6_restore 47 = .ok (.iconst 1, 1) := by decide +kernel
theorem dX6_restore_48 : decode cX6_restore 48 = .ok (.ireturn, 1) := by decide +kernel
theorem dX6_kind_0 : decode cX6_kind 0 = .ok (.aload_n 0, 1) := by decide +kernel
theorem dX6_kind_1 : decode cX6_kind 1 = .ok (.iload_n 1, 1) := by decide +kernel
theorem dX6_kind_2 : decode cX6_kind 2 = .ok (.invokevirtual 141, 3) := by decide +kernel
theorem dX6_kind_5 : decode cX6_kind 5 = .ok (.ifCond .eq 15, 3) := by decide +kernel
theorem dX6_kind_8 : decode cX6_kind 8 = .ok (.aload_n 0, 1) := by decide +kernel
theorem dX6_kind_9 : decode cX6_kind 9 = .ok (.getfield 25, 3) := by decide +kernel
theorem dX6_kind_12 : decode cX6_kind 12 = .ok (.getfield 236, 3) := by decide +kernel
theorem dX6_kind_15 : decode cX6_kind 15 = .ok (.iload_n 1, 1) := by decide +kernel
theorem dX6_kind_16 : decode cX6_kind 16 = .ok (.iaload, 1) := by decide +kernel
theorem dX6_kind_17 : decode cX6_kind 17 = .ok (.goto 5, 3) := by decide +kernel
theorem dX6_kind_20 : decode cX6_kind 20 = .ok (.ldc 62, 2) := by decide +kernel
theorem dX6_kind_22 : decode cX6_kind 22 = .ok (.ireturn, 1) := by decide +kernel
theorem dX6_as_0 : decode cX6_as 0 = .ok (.aload_n 0, 1) := by decide +kernel
theorem dX6_as_1 : decode cX6_as 1 = .ok (.iload_n 1, 1) := by decide +kernel
theorem dX6_as_2 : decode cX6_as 2 = .ok (.invokevirtual 141, 3) := by decide +kernel
theorem dX6_as_5 : decode cX6_as 5 = .ok (.ifCond .eq 12, 3) := by decide +kernel
theorem dX6_as_8 : decode cX6_as 8 = .ok (.iload_n 2, 1) := by decide +kernel
theorem dX6_as_9 : decode cX6_as 9 = .ok (.ifCond .lt 8, 3) := by decide +kernel
theorem dX6_as_12 : decode cX6_as 12 = .ok (.iload_n 2, 1) := by decide +kernel
theorem dX6_as_13 : decode cX6_as 13 = .ok (.iconst 5, 1) := by decide +kernel
theorem dX6_as_14 : decode cX6_as 14 = .ok (.if_icmp .le 6, 3) := by decide +kernel
theorem dX6_as_17 : decode cX6_as 17 = .ok (.ldc 62, 2) := by decide +kernel
theorem dX6_as_19 : decode cX6_as 19 = .ok (.ireturn, 1) := by decide +kernel
theorem dX6_as_20 : decode cX6_as 20 = .ok (.aload_n 0, 1) := by decide +kernel
theorem dX6_as_21 : decode cX6_as 21 = .ok (.getfield 25, 3) := by decide +kernel
theorem dX6_as_24 : decode cX6_as 24 = .ok (.getfield 236, 3) := by decide +kernel
theorem dX6_as_27 : decode cX6_as 27 = .ok (.iload_n 1, 1) := by decide +kernel
theorem dX6_as_28 : decode cX6_as 28 = .ok (.iaload, 1) := by decide +kernel
theorem dX6_as_29 : decode cX6_as 29 = .ok (.istore_n 3, 1) := by decide +kernel
theorem dX6_as_30 : decode cX6_as 30 = .ok (.iload_n 2, 1) := by decide +kernel
theorem dX6_as_31 : decode cX6_as 31 = .ok (.ifCond .eq 23, 3) := by decide +kernel
theorem dX6_as_34 : decode cX6_as 34 = .ok (.iload_n 2, 1) := by decide +kernel
theorem dX6_as_35 : decode cX6_as 35 = .ok (.iload_n 3, 1) := by decide +kernel
theorem dX6_as_36 : decode cX6_as 36 = .ok (.if_icmp .eq 18, 3) := by decide +kernel
theorem dX6_as_39 : decode cX6_as 39 = .ok (.iload_n 2, 1) := by decide +kernel
theorem dX6_as_40 : decode cX6_as 40 = .ok (.getstatic 273, 3) := by decide +kernel
theorem dX6_as_43 : decode cX6_as 43 = .ok (.iload_n 3, 1) := by decide +kernel
theorem dX6_as_44 : decode cX6_as 44 = .ok (.iaload, 1) := by decide +kernel
theorem dX6_as_45 : decode cX6_as 45 = .ok (.if_icmp .eq 9, 3) := by decide +kernel
theorem dX6_as_48 : decode cX6_as 48 = .ok (.aload_n 0, 1) := by decide +kernel
theorem dX6_as_49 : decode cX6_as 49 = .ok (.iconst 3, 1) := by decide +kernel
theorem dX6_as_50 : decode cX6_as 50 = .ok (.invokevirtual 63, 3) := by decide +kernel
theorem dX6_as_53 : decode cX6_as 53 = .ok (.ireturn, 1) := by decide +kernel
theorem dX6_as_54 : decode cX6_as 54 = .ok (.aload_n 0, 1) := by decide +kernel
theorem dX6_as_55 : decode cX6_as 55 = .ok (.iload_n 1, 1) := by decide +kernel
theorem dX6_as_56 : decode cX6_as 56 = .ok (.invokevirtual 71, 3) := by decide +kernel
theorem dX6_as_59 : decode cX6_as 59 = .ok (.ireturn, 1) := by decide +kernel
theorem dX6_ask_0 : decode cX6_ask 0 = .ok (.aload_n 0, 1) := by decide +kernel
theorem dX6_ask_1 : decode cX6_ask 1 = .ok (.iload_n 1, 1) := by decide +kernel
theorem dX6_ask_2 : decode cX6_ask 2 = .ok (.invokevirtual 141, 3) := by decide +kernel
theorem dX6_ask_5 : decode cX6_ask 5 = .ok (.ifCond .eq 12, 3) := by decide +kernel
theorem dX6_ask_8 : decode cX6_ask 8 = .ok (.iload_n 2, 1) := by decide +kernel
theorem dX6_ask_9 : decode cX6_ask 9 = .ok (.ifCond .lt 8, 3) := by decide +kernel
theorem dX6_ask_12 : decode cX6_ask 12 = .ok (.iload_n 2, 1) := by decide +kernel
theorem dX6_ask_13 : decode cX6_ask 13 = .ok (.iconst 1, 1) := by decide +kernel
theorem dX6_ask_14 : decode cX6_ask 14 = .ok (.if_icmp .le 6, 3) := by decide +kernel
theorem dX6_ask_17 : decode cX6_ask 17 = .ok (.ldc 62, 2) := by decide +kernel
theorem dX6_ask_19 : decode cX6_ask 19 = .ok (.ireturn, 1) := by decide +kernel
theorem dX6_ask_20 : decode cX6_ask 20 = .ok (.aload_n 0, 1) := by decide +kernel
theorem dX6_ask_21 : decode cX6_ask 21 = .ok (.getfield 53, 3) := by decide +kernel
theorem dX6_ask_24 : decode cX6_ask 24 = .ok (.aload_n 0, 1) := by decide +kernel
theorem dX6_ask_25 : decode cX6_ask 25 = .ok (.getfield 25, 3) := by decide +kernel
theorem dX6_ask_28 : decode cX6_ask 28 = .ok (.iload_n 1, 1) := by decide +kernel
theorem dX6_ask_29 : decode cX6_ask 29 = .ok (.iload_n 2, 1) := by decide +kernel
theorem dX6_ask_30 : decode cX6_ask 30 = .ok (.invokevirtual 276, 3) := by decide +kernel
theorem dX6_ask_33 : decode cX6_ask 33 = .ok (.ireturn, 1) := by decide +kernel
theorem dX6_trace_0 : decode cX6_trace 0 = .ok (.iload_n 1, 1) := by decide +kernel
theorem dX6_trace_1 : decode cX6_trace 1 = .ok (.ifCond .lt 26, 3) := by decide +kernel
theorem dX6_trace_4 : decode cX6_trace 4 = .ok (.iload_n 1, 1) := by decide +kernel
theorem dX6_trace_5 : decode cX6_trace 5 = .ok (.aload_n 0, 1) := by decide +kernel
theorem dX6_trace_6 : decode cX6_trace 6 = .ok (.getfield 53, 3) := by decide +kernel
theorem dX6_trace_9 : decode cX6_trace 9 = .ok (.getfield 280, 3) := by decide +kernel
theorem dX6_trace_12 : decode cX6_trace 12 = .ok (.if_icmp .ge 15, 3) := by decide +kernel
theorem dX6_trace_15 : decode cX6_trace 15 = .ok (.aload_n 0, 1) := by decide +kernel
theorem dX6_trace_16 : decode cX6_trace 16 = .ok (.getfield 53, 3) := by decide +kernel
theorem dX6_trace_19 : decode cX6_trace 19 = .ok (.getfield 283, 3) := by decide +kernel
theorem dX6_trace_22 : decode cX6_trace 22 = .ok (.iload_n 1, 1) := by decide +kernel
theorem dX6_trace_23 : decode cX6_trace 23 = .ok (.iaload, 1) := by decide +kernel
theorem dX6_trace_24 : decode cX6_trace 24 = .ok (.goto 5, 3) := by decide +kernel
theorem dX6_trace_27 : decode cX6_trace 27 = .ok (.ldc 157, 2) := by decide +kernel
theorem dX6_trace_29 : decode cX6_trace 29 = .ok (.ireturn, 1) := by decide +kernel
theorem dX6_count_0 : decode cX6_count 0 = .ok (.iload_n 1, 1) := by decide +kernel
theorem dX6_count_1 : decode cX6_count 1 = .ok (.tableswitch 96 0 6 #[43, 48, 56, 64, 72, 80, 88], 43) := by decide +kernel
theorem dX6_count_44 : decode cX6_count 44 = .ok (.aload_n 0, 1) := by decide +kernel
theorem dX6_count_45 : decode cX6_count 45 = .ok (.invokevirtual 286, 3) := by decide +kernel
theorem dX6_count_48 : decode cX6_count 48 = .ok (.ireturn, 1) := by decide +kernel
theorem dX6_count_49 : decode cX6_count 49 = .ok (.aload_n 0, 1) := by decide +kernel
theorem dX6_count_50 : decode cX6_count 50 = .ok (.getfield 25, 3) := by decide +kernel
theorem dX6_count_53 : decode cX6_count 53 = .ok (.getfield 125, 3) := by decide +kernel
theorem dX6_count_56 : decode cX6_count 56 = .ok (.ireturn, 1) := by decide +kernel
theorem dX6_count_57 : decode cX6_count 57 = .ok (.aload_n 0, 1) := by decide +kernel
theorem dX6_count_58 : decode cX6_count 58 = .ok (.getfield 25, 3) := by decide +kernel
theorem dX6_count_61 : decode cX6_count 61 = .ok (.getfield 211, 3) := by decide +kernel
theorem dX6_count_64 : decode cX6_count 64 = .ok (.ireturn, 1) := by decide +kernel
theorem dX6_count_65 : decode cX6_count 65 = .ok (.aload_n 0, 1) := by decide +kernel
theorem dX6_count_66 : decode cX6_count 66 = .ok (.getfield 25, 3) := by decide +kernel
theorem dX6_count_69 : decode cX6_count 69 = .ok (.invokevirtual 289, 3) := by decide +kernel
theorem dX6_count_72 : decode cX6_count 72 = .ok (.ireturn, 1) := by decide +kernel
theorem dX6_count_73 : decode cX6_count 73 = .ok (.aload_n 0, 1) := by decide +kernel
theorem dX6_count_74 : decode cX6_count 74 = .ok (.getfield 25, 3) := by decide +kernel
theorem dX6_count_77 : decode cX6_count 77 = .ok (.invokevirtual 292, 3) := by decide +kernel
theorem dX6_count_80 : decode cX6_count 80 = .ok (.ireturn, 1) := by decide +kernel
theorem dX6_count_81 : decode cX6_count 81 = .ok (.aload_n 0, 1) := by decide +kernel
theorem dX6_count_82 : decode cX6_count 82 = .ok (.getfield 46, 3) := by decide +kernel
theorem dX6_count_85 : decode cX6_count 85 = .ok (.getfield 131, 3) := by decide +kernel
theorem dX6_count_88 : decode cX6_count 88 = .ok (.ireturn, 1) := by decide +kernel
theorem dX6_count_89 : decode cX6_count 89 = .ok (.aload_n 0, 1) := by decide +kernel
theorem dX6_count_90 : decode cX6_count 90 = .ok (.getfield 18, 3) := by decide +kernel
theorem dX6_count_93 : decode cX6_count 93 = .ok (.getfield 106, 3) := by decide +kernel
theorem dX6_count_96 : decode cX6_count 96 = .ok (.ireturn, 1) := by decide +kernel
theorem dX6_count_97 : decode cX6_count 97 = .ok (.ldc 62, 2) := by decide +kernel
theorem dX6_count_99 : decode cX6_count 99 = .ok (.ireturn, 1) := by decide +kernel
theorem dX6_status_0 : decode cX6_status 0 = .ok (.aload_n 0, 1) := by decide +kernel
theorem dX6_status_1 : decode cX6_status 1 = .ok (.getfield 295, 3) := by decide +kernel
theorem dX6_status_4 : decode cX6_status 4 = .ok (.ireturn, 1) := by decide +kernel
theorem dX6_found_0 : decode cX6_found 0 = .ok (.aload_n 0, 1) := by decide +kernel
theorem dX6_found_1 : decode cX6_found 1 = .ok (.iload_n 1, 1) := by decide +kernel
theorem dX6_found_2 : decode cX6_found 2 = .ok (.putfield 295, 3) := by decide +kernel
theorem dX6_found_5 : decode cX6_found 5 = .ok (.ldc_w 298, 3) := by decide +kernel
theorem dX6_found_8 : decode cX6_found 8 = .ok (.iload_n 1, 1) := by decide +kernel
theorem dX6_found_9 : decode cX6_found 9 = .ok (.isub, 1) := by decide +kernel
theorem dX6_found_10 : decode cX6_found 10 = .ok (.ireturn, 1) := by decide +kernel
theorem dX6_passed_0 : decode cX6_passed 0 = .ok (.aload_n 0, 1) := by decide +kernel
theorem dX6_passed_1 : decode cX6_passed 1 = .ok (.iconst 0, 1) := by decide +kernel
theorem dX6_passed_2 : decode cX6_passed 2 = .ok (.putfield 295, 3) := by decide +kernel
theorem dX6_passed_5 : decode cX6_passed 5 = .ok (.iload_n 1, 1) := by decide +kernel
theorem dX6_passed_6 : decode cX6_passed 6 = .ok (.ireturn, 1) := by decide +kernel
theorem dX6_isRow_0 : decode cX6_isRow 0 = .ok (.iload_n 0, 1) := by decide +kernel
theorem dX6_isRow_1 : decode cX6_isRow 1 = .ok (.ifCond .lt 13, 3) := by decide +kernel
theorem dX6_isRow_4 : decode cX6_isRow 4 = .ok (.iload_n 0, 1) := by decide +kernel
theorem dX6_isRow_5 : decode cX6_isRow 5 = .ok (.bipush 8, 2) := by decide +kernel
theorem dX6_isRow_7 : decode cX6_isRow 7 = .ok (.if_icmp .ge 7, 3) := by decide +kernel
theorem dX6_isRow_10 : decode cX6_isRow 10 = .ok (.iconst 1, 1) := by decide +kernel
theorem dX6_isRow_11 : decode cX6_isRow 11 = .ok (.goto 4, 3) := by decide +kernel
theorem dX6_isRow_14 : decode cX6_isRow 14 = .ok (.iconst 0, 1) := by decide +kernel
theorem dX6_isRow_15 : decode cX6_isRow 15 = .ok (.ireturn, 1) := by decide +kernel
theorem dX6_isStep_0 : decode cX6_isStep 0 = .ok (.iload_n 1, 1) := by decide +kernel
theorem dX6_isStep_1 : decode cX6_isStep 1 = .ok (.ifCond .lt 18, 3) := by decide +kernel
theorem dX6_isStep_4 : decode cX6_isStep 4 = .ok (.iload_n 1, 1) := by decide +kernel
theorem dX6_isStep_5 : decode cX6_isStep 5 = .ok (.aload_n 0, 1) := by decide +kernel
theorem dX6_isStep_6 : decode cX6_isStep 6 = .ok (.getfield 25, 3) := by decide +kernel
theorem dX6_isStep_9 : decode cX6_isStep 9 = .ok (.getfield 211, 3) := by decide +kernel
theorem dX6_isStep_12 : decode cX6_isStep 12 = .ok (.if_icmp .ge 7, 3) := by decide +kernel
theorem dX6_isStep_15 : decode cX6_isStep 15 = .ok (.iconst 1, 1) := by decide +kernel
theorem dX6_isStep_16 : decode cX6_isStep 16 = .ok (.goto 4, 3) := by decide +kernel
theorem dX6_isStep_19 : decode cX6_isStep 19 = .ok (.iconst 0, 1) := by decide +kernel
theorem dX6_isStep_20 : decode cX6_isStep 20 = .ok (.ireturn, 1) := by decide +kernel
theorem dX6_isGrade_0 : decode cX6_isGrade 0 = .ok (.iload_n 1, 1) := by decide +kernel
theorem dX6_isGrade_1 : decode cX6_isGrade 1 = .ok (.ifCond .lt 18, 3) := by decide +kernel
theorem dX6_isGrade_4 : decode cX6_isGrade 4 = .ok (.iload_n 1, 1) := by decide +kernel
theorem dX6_isGrade_5 : decode cX6_isGrade 5 = .ok (.aload_n 0, 1) := by decide +kernel
theorem dX6_isGrade_6 : decode cX6_isGrade 6 = .ok (.getfield 25, 3) := by decide +kernel
theorem dX6_isGrade_9 : decode cX6_isGrade 9 = .ok (.getfield 125, 3) := by decide +kernel
theorem dX6_isGrade_12 : decode cX6_isGrade 12 = .ok (.if_icmp .ge 7, 3) := by decide +kernel
theorem dX6_isGrade_15 : decode cX6_isGrade 15 = .ok (.iconst 1, 1) := by decide +kernel
theorem dX6_isGrade_16 : decode cX6_isGrade 16 = .ok (.goto 4, 3) := by decide +kernel
theorem dX6_isGrade_19 : decode cX6_isGrade 19 = .ok (.iconst 0, 1) := by decide +kernel
theorem dX6_isGrade_20 : decode cX6_isGrade 20 = .ok (.ireturn, 1) := by decide +kernel
theorem dX6_hasNoWell_0 : decode cX6_hasNoWell 0 = .ok (.aload_n 0, 1) := by decide +kernel
theorem dX6_hasNoWell_1 : decode cX6_hasNoWell 1 = .ok (.getfield 25, 3) := by decide +kernel
theorem dX6_hasNoWell_4 : decode cX6_hasNoWell 4 = .ok (.getfield 211, 3) := by decide +kernel
theorem dX6_hasNoWell_7 : decode cX6_hasNoWell 7 = .ok (.ifCond .ne 7, 3) := by decide +kernel
theorem dX6_hasNoWell_10 : decode cX6_hasNoWell 10 = .ok (.iconst 1, 1) := by decide +kernel
theorem dX6_hasNoWell_11 : decode cX6_hasNoWell 11 = .ok (.goto 4, 3) := by decide +kernel
theorem dX6_hasNoWell_14 : decode cX6_hasNoWell 14 = .ok (.iconst 0, 1) := by decide +kernel
theorem dX6_hasNoWell_15 : decode cX6_hasNoWell 15 = .ok (.ireturn, 1) := by decide +kernel
theorem dX6_howManyRows_0 : decode cX6_howManyRows 0 = .ok (.iconst 0, 1) := by decide +kernel
theorem dX6_howManyRows_1 : decode cX6_howManyRows 1 = .ok (.istore_n 1, 1) := by decide +kernel
theorem dX6_howManyRows_2 : decode cX6_howManyRows 2 = .ok (.iconst 0, 1) := by decide +kernel
theorem dX6_howManyRows_3 : decode cX6_howManyRows 3 = .ok (.istore_n 2, 1) := by decide +kernel
theorem dX6_howManyRows_4 : decode cX6_howManyRows 4 = .ok (.iload_n 2, 1) := by decide +kernel
theorem dX6_howManyRows_5 : decode cX6_howManyRows 5 = .ok (.bipush 8, 2) := by decide +kernel
theorem dX6_howManyRows_7 : decode cX6_howManyRows 7 = .ok (.if_icmp .ge 24, 3) := by decide +kernel
theorem dX6_howManyRows_10 : decode cX6_howManyRows 10 = .ok (.aload_n 0, 1) := by decide +kernel
theorem dX6_howManyRows_11 : decode cX6_howManyRows 11 = .ok (.getfield 11, 3) := by decide +kernel
theorem dX6_howManyRows_14 : decode cX6_howManyRows 14 = .ok (.iload_n 2, 1) := by decide +kernel
theorem dX6_howManyRows_15 : decode cX6_howManyRows 15 = .ok (.aaload, 1) := by decide +kernel
theorem dX6_howManyRows_16 : decode cX6_howManyRows 16 = .ok (.invokevirtual 74, 3) := by decide +kernel
theorem dX6_howManyRows_19 : decode cX6_howManyRows 19 = .ok (.ifCond .ne 6, 3) := by decide +kernel
theorem dX6_howManyRows_22 : decode cX6_howManyRows 22 = .ok (.iinc 1 1, 3) := by decide +kernel
theorem dX6_howManyRows_25 : decode cX6_howManyRows 25 = .ok (.iinc 2 1, 3) := by decide +kernel
theorem dX6_howManyRows_28 : decode cX6_howManyRows 28 = .ok (.goto (-24), 3) := by decide +kernel
theorem dX6_howManyRows_31 : decode cX6_howManyRows 31 = .ok (.iload_n 1, 1) := by decide +kernel
theorem dX6_howManyRows_32 : decode cX6_howManyRows 32 = .ok (.ireturn, 1) := by decide +kernel
theorem dX6_isBest_0 : decode cX6_isBest 0 = .ok (.aload_n 0, 1) := by decide +kernel
theorem dX6_isBest_1 : decode cX6_isBest 1 = .ok (.getfield 39, 3) := by decide +kernel
theorem dX6_isBest_4 : decode cX6_isBest 4 = .ok (.aload_n 1, 1) := by decide +kernel
theorem dX6_isBest_5 : decode cX6_isBest 5 = .ok (.ldc 157, 2) := by decide +kernel
theorem dX6_isBest_7 : decode cX6_isBest 7 = .ok (.invokevirtual 158, 3) := by decide +kernel
theorem dX6_isBest_10 : decode cX6_isBest 10 = .ok (.ifCond .ne 5, 3) := by decide +kernel
theorem dX6_isBest_13 : decode cX6_isBest 13 = .ok (.iconst 0, 1) := by decide +kernel
theorem dX6_isBest_14 : decode cX6_isBest 14 = .ok (.ireturn, 1) := by decide +kernel
theorem dX6_isBest_15 : decode cX6_isBest 15 = .ok (.iconst 0, 1) := by decide +kernel
theorem dX6_isBest_16 : decode cX6_isBest 16 = .ok (.istore 4, 2) := by decide +kernel
theorem dX6_isBest_18 : decode cX6_isBest 18 = .ok (.iload 4, 2) := by decide +kernel
theorem dX6_isBest_20 : decode cX6_isBest 20 = .ok (.aload_n 1, 1) := by decide +kernel
theorem dX6_isBest_21 : decode cX6_isBest 21 = .ok (.getfield 211, 3) := by decide +kernel
theorem dX6_isBest_24 : decode cX6_isBest 24 = .ok (.if_icmp .ge 33, 3) := by decide +kernel
theorem dX6_isBest_27 : decode cX6_isBest 27 = .ok (.aload_n 2, 1) := by decide +kernel
theorem dX6_isBest_28 : decode cX6_isBest 28 = .ok (.getfield 90, 3) := by decide +kernel
theorem dX6_isBest_31 : decode cX6_isBest 31 = .ok (.iload_n 3, 1) := by decide +kernel
theorem dX6_isBest_32 : decode cX6_isBest 32 = .ok (.iload 4, 2) := by decide +kernel
theorem dX6_isBest_34 : decode cX6_isBest 34 = .ok (.iadd, 1) := by decide +kernel
theorem dX6_isBest_35 : decode cX6_isBest 35 = .ok (.iaload, 1) := by decide +kernel
theorem dX6_isBest_36 : decode cX6_isBest 36 = .ok (.aload_n 0, 1) := by decide +kernel
theorem dX6_isBest_37 : decode cX6_isBest 37 = .ok (.getfield 39, 3) := by decide +kernel
theorem dX6_isBest_40 : decode cX6_isBest 40 = .ok (.getfield 162, 3) := by decide +kernel
theorem dX6_isBest_43 : decode cX6_isBest 43 = .ok (.iload 4, 2) := by decide +kernel
theorem dX6_isBest_45 : decode cX6_isBest 45 = .ok (.iaload, 1) := by decide +kernel
theorem dX6_isBest_46 : decode cX6_isBest 46 = .ok (.if_icmp .eq 5, 3) := by decide +kernel
theorem dX6_isBest_49 : decode cX6_isBest 49 = .ok (.iconst 0, 1) := by decide +kernel
theorem dX6_isBest_50 : decode cX6_isBest 50 = .ok (.ireturn, 1) := by decide +kernel
theorem dX6_isBest_51 : decode cX6_isBest 51 = .ok (.iinc 4 1, 3) := by decide +kernel
theorem dX6_isBest_54 : decode cX6_isBest 54 = .ok (.goto (-36), 3) := by decide +kernel
theorem dX6_isBest_57 : decode cX6_isBest 57 = .ok (.iconst 1, 1) := by decide +kernel
theorem dX6_isBest_58 : decode cX6_isBest 58 = .ok (.ireturn, 1) := by decide +kernel
theorem dX6_costByTurns_0 : decode cX6_costByTurns 0 = .ok (.iload_n 1, 1) := by decide +kernel
theorem dX6_costByTurns_1 : decode cX6_costByTurns 1 = .ok (.iconst 1, 1) := by decide +kernel
theorem dX6_costByTurns_2 : decode cX6_costByTurns 2 = .ok (.if_icmp .lt 7, 3) := by decide +kernel
theorem dX6_costByTurns_5 : decode cX6_costByTurns 5 = .ok (.iload_n 2, 1) := by decide +kernel
theorem dX6_costByTurns_6 : decode cX6_costByTurns 6 = .ok (.ifCond .ge 5, 3) := by decide +kernel
theorem dX6_costByTurns_9 : decode cX6_costByTurns 9 = .ok (.iconst 0, 1) := by decide +kernel
theorem dX6_costByTurns_10 : decode cX6_costByTurns 10 = .ok (.ireturn, 1) := by decide +kernel
theorem dX6_costByTurns_11 : decode cX6_costByTurns 11 = .ok (.ldc 157, 2) := by decide +kernel
theorem dX6_costByTurns_13 : decode cX6_costByTurns 13 = .ok (.istore 5, 2) := by decide +kernel
theorem dX6_costByTurns_15 : decode cX6_costByTurns 15 = .ok (.iconst 0, 1) := by decide +kernel
theorem dX6_costByTurns_16 : decode cX6_costByTurns 16 = .ok (.istore 6, 2) := by decide +kernel
theorem dX6_costByTurns_18 : decode cX6_costByTurns 18 = .ok (.iload 6, 2) := by decide +kernel
theorem dX6_costByTurns_20 : decode cX6_costByTurns 20 = .ok (.aload_n 0, 1) := by decide +kernel
theorem dX6_costByTurns_21 : decode cX6_costByTurns 21 = .ok (.getfield 125, 3) := by decide +kernel
theorem dX6_costByTurns_24 : decode cX6_costByTurns 24 = .ok (.if_icmp .ge 97, 3) := by decide +kernel
theorem dX6_costByTurns_27 : decode cX6_costByTurns 27 = .ok (.iload_n 3, 1) := by decide +kernel
theorem dX6_costByTurns_28 : decode cX6_costByTurns 28 = .ok (.aload_n 0, 1) := by decide +kernel
theorem dX6_costByTurns_29 : decode cX6_costByTurns 29 = .ok (.iload 6, 2) := by decide +kernel
theorem dX6_costByTurns_31 : decode cX6_costByTurns 31 = .ok (.iconst 3, 1) := by decide +kernel
theorem dX6_costByTurns_32 : decode cX6_costByTurns 32 = .ok (.invokevirtual 180, 3) := by decide +kernel
theorem dX6_costByTurns_35 : decode cX6_costByTurns 35 = .ok (.iadd, 1) := by decide +kernel
theorem dX6_costByTurns_36 : decode cX6_costByTurns 36 = .ok (.istore 7, 2) := by decide +kernel
theorem dX6_costByTurns_38 : decode cX6_costByTurns 38 = .ok (.aload_n 0, 1) := by decide +kernel
theorem dX6_costByTurns_39 : decode cX6_costByTurns 39 = .ok (.iload_n 2, 1) := by decide +kernel
theorem dX6_costByTurns_40 : decode cX6_costByTurns 40 = .ok (.iload 6, 2) := by decide +kernel
theorem dX6_costByTurns_42 : decode cX6_costByTurns 42 = .ok (.iload 7, 2) := by decide +kernel
theorem dX6_costByTurns_44 : decode cX6_costByTurns 44 = .ok (.invokevirtual 299, 3) := by decide +kernel
theorem dX6_costByTurns_47 : decode cX6_costByTurns 47 = .ok (.ifCond .eq 68, 3) := by decide +kernel
theorem dX6_costByTurns_50 : decode cX6_costByTurns 50 = .ok (.aload_n 0, 1) := by decide +kernel
theorem dX6_costByTurns_51 : decode cX6_costByTurns 51 = .ok (.iload 6, 2) := by decide +kernel
theorem dX6_costByTurns_53 : decode cX6_costByTurns 53 = .ok (.iconst 4, 1) := by decide +kernel
theorem dX6_costByTurns_54 : decode cX6_costByTurns 54 = .ok (.invokevirtual 180, 3) := by decide +kernel
theorem dX6_costByTurns_57 : decode cX6_costByTurns 57 = .ok (.aload_n 0, 1) := by decide +kernel
theorem dX6_costByTurns_58 : decode cX6_costByTurns 58 = .ok (.iload_n 1, 1) := by decide +kernel
theorem dX6_costByTurns_59 : decode cX6_costByTurns 59 = .ok (.iconst 1, 1) := by decide +kernel
theorem dX6_costByTurns_60 : decode cX6_costByTurns 60 = .ok (.isub, 1) := by decide +kernel
theorem dX6_costByTurns_61 : decode cX6_costByTurns 61 = .ok (.iload_n 2, 1) := by decide +kernel
theorem dX6_costByTurns_62 : decode cX6_costByTurns 62 = .ok (.iconst 1, 1) := by decide +kernel
theorem dX6_costByTurns_63 : decode cX6_costByTurns 63 = .ok (.isub, 1) := by decide +kernel
theorem dX6_costByTurns_64 : decode cX6_costByTurns 64 = .ok (.iload 7, 2) := by decide +kernel
theorem dX6_costByTurns_66 : decode cX6_costByTurns 66 = .ok (.iload 4, 2) := by decide +kernel
theorem dX6_costByTurns_68 : decode cX6_costByTurns 68 = .ok (.ifCond .ne 7, 3) := by decide +kernel
theorem dX6_costByTurns_71 : decode cX6_costByTurns 71 = .ok (.iconst 1, 1) := by decide +kernel
theorem dX6_costByTurns_72 : decode cX6_costByTurns 72 = .ok (.goto 4, 3) := by decide +kernel
theorem dX6_costByTurns_75 : decode cX6_costByTurns 75 = .ok (.iconst 0, 1) := by decide +kernel
theorem dX6_costByTurns_76 : decode cX6_costByTurns 76 = .ok (.invokestatic 232, 3) := by decide +kernel
theorem dX6_costByTurns_79 : decode cX6_costByTurns 79 = .ok (.iadd, 1) := by decide +kernel
theorem dX6_costByTurns_80 : decode cX6_costByTurns 80 = .ok (.istore 8, 2) := by decide +kernel
theorem dX6_costByTurns_82 : decode cX6_costByTurns 82 = .ok (.iload 5, 2) := by decide +kernel
theorem dX6_costByTurns_84 : decode cX6_costByTurns 84 = .ok (.ldc 157, 2) := by decide +kernel
theorem dX6_costByTurns_86 : decode cX6_costByTurns 86 = .ok (.if_icmp .eq 25, 3) := by decide +kernel
theorem dX6_costByTurns_89 : decode cX6_costByTurns 89 = .ok (.iload 4, 2) := by decide +kernel
theorem dX6_costByTurns_91 : decode cX6_costByTurns 91 = .ok (.ifCond .eq 13, 3) := by decide +kernel
theorem dX6_costByTurns_94 : decode cX6_costByTurns 94 = .ok (.iload 8, 2) := by decide +kernel
theorem dX6_costByTurns_96 : decode cX6_costByTurns 96 = .ok (.iload 5, 2) := by decide +kernel
theorem dX6_costByTurns_98 : decode cX6_costByTurns 98 = .ok (.if_icmp .ge 17, 3) := by decide +kernel
theorem dX6_costByTurns_101 : decode cX6_costByTurns 101 = .ok (.goto 10, 3) := by decide +kernel
theorem dX6_costByTurns_104 : decode cX6_costByTurns 104 = .ok (.iload 8, 2) := by decide +kernel
theorem dX6_costByTurns_106 : decode cX6_costByTurns 106 = .ok (.iload 5, 2) := by decide +kernel
theorem dX6_costByTurns_108 : decode cX6_costByTurns 108 = .ok (.if_icmp .le 7, 3) := by decide +kernel
theorem dX6_costByTurns_111 : decode cX6_costByTurns 111 = .ok (.iload 8, 2) := by decide +kernel
theorem dX6_costByTurns_113 : decode cX6_costByTurns 113 = .ok (.istore 5, 2) := by decide +kernel
theorem dX6_costByTurns_115 : decode cX6_costByTurns 115 = .ok (.iinc 6 1, 3) := by decide +kernel
theorem dX6_costByTurns_118 : decode cX6_costByTurns 118 = .ok (.goto (-100), 3) := by decide +kernel
theorem dX6_costByTurns_121 : decode cX6_costByTurns 121 = .ok (.iload 5, 2) := by decide +kernel
theorem dX6_costByTurns_123 : decode cX6_costByTurns 123 = .ok (.ldc 157, 2) := by decide +kernel
theorem dX6_costByTurns_125 : decode cX6_costByTurns 125 = .ok (.if_icmp .ne 7, 3) := by decide +kernel
theorem dX6_costByTurns_128 : decode cX6_costByTurns 128 = .ok (.iconst 0, 1) := by decide +kernel
theorem dX6_costByTurns_129 : decode cX6_costByTurns 129 = .ok (.goto 5, 3) := by decide +kernel
theorem dX6_costByTurns_132 : decode cX6_costByTurns 132 = .ok (.iload 5, 2) := by decide +kernel
theorem dX6_costByTurns_134 : decode cX6_costByTurns 134 = .ok (.ireturn, 1) := by decide +kernel
theorem dX6_greatestDivisor_0 : decode cX6_greatestDivisor 0 = .ok (.lload_n 2, 1) := by decide +kernel
theorem dX6_greatestDivisor_1 : decode cX6_greatestDivisor 1 = .ok (.lstore 4, 2) := by decide +kernel
theorem dX6_greatestDivisor_3 : decode cX6_greatestDivisor 3 = .ok (.lload_n 0, 1) := by decide +kernel
theorem dX6_greatestDivisor_4 : decode cX6_greatestDivisor 4 = .ok (.lstore 6, 2) := by decide +kernel
theorem dX6_greatestDivisor_6 : decode cX6_greatestDivisor 6 = .ok (.iconst 0, 1) := by decide +kernel
theorem dX6_greatestDivisor_7 : decode cX6_greatestDivisor 7 = .ok (.istore 8, 2) := by decide +kernel
theorem dX6_greatestDivisor_9 : decode cX6_greatestDivisor 9 = .ok (.iload 8, 2) := by decide +kernel
theorem dX6_greatestDivisor_11 : decode cX6_greatestDivisor 11 = .ok (.sipush 128, 3) := by decide +kernel
theorem dX6_greatestDivisor_14 : decode cX6_greatestDivisor 14 = .ok (.if_icmp .ge 31, 3) := by decide +kernel
theorem dX6_greatestDivisor_17 : decode cX6_greatestDivisor 17 = .ok (.lload 6, 2) := by decide +kernel
theorem dX6_greatestDivisor_19 : decode cX6_greatestDivisor 19 = .ok (.lconst 0, 1) := by decide +kernel
theorem dX6_greatestDivisor_20 : decode cX6_greatestDivisor 20 = .ok (.lcmp, 1) := by decide +kernel
theorem dX6_greatestDivisor_21 : decode cX6_greatestDivisor 21 = .ok (.ifCond .eq 24, 3) := by decide +kernel
theorem dX6_greatestDivisor_24 : decode cX6_greatestDivisor 24 = .ok (.lload 4, 2) := by decide +kernel
theorem dX6_greatestDivisor_26 : decode cX6_greatestDivisor 26 = .ok (.lload 6, 2) := by decide +kernel
theorem dX6_greatestDivisor_28 : decode cX6_greatestDivisor 28 = .ok (.lrem, 1) := by decide +kernel
theorem dX6_greatestDivisor_29 : decode cX6_greatestDivisor 29 = .ok (.lstore 9, 2) := by decide +kernel
theorem dX6_greatestDivisor_31 : decode cX6_greatestDivisor 31 = .ok (.lload 6, 2) := by decide +kernel
theorem dX6_greatestDivisor_33 : decode cX6_greatestDivisor 33 = .ok (.lstore 4, 2) := by decide +kernel
theorem dX6_greatestDivisor_35 : decode cX6_greatestDivisor 35 = .ok (.lload 9, 2) := by decide +kernel
theorem dX6_greatestDivisor_37 : decode cX6_greatestDivisor 37 = .ok (.lstore 6, 2) := by decide +kernel
theorem dX6_greatestDivisor_39 : decode cX6_greatestDivisor 39 = .ok (.iinc 8 1, 3) := by decide +kernel
theorem dX6_greatestDivisor_42 : decode cX6_greatestDivisor 42 = .ok (.goto (-33), 3) := by decide +kernel
theorem dX6_greatestDivisor_45 : decode cX6_greatestDivisor 45 = .ok (.lload 4, 2) := by decide +kernel
theorem dX6_greatestDivisor_47 : decode cX6_greatestDivisor 47 = .ok (.lreturn, 1) := by decide +kernel
